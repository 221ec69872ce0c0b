/-! the walk stands still when all are at the end -/
def gd_S (g g' : gw_Mem) : Prop := (∀ o : Nat, o ≠ 117 → o ≠ 135 → g' o = g o) ∧ ∀ j : Int, j ≠ 21 → g' 117 j = g 117 j
theorem gd_S_rfl (g : gw_Mem) : gd_S g g := ⟨fun _ _ _ => rfl, fun _ _ => rfl⟩
theorem gd_S_tr {g g1 g2 : gw_Mem} (h : gd_S g g1) (h' : gd_S g1 g2) : gd_S g g2 := ⟨fun o a c => (h'.1 o a c).trans (h.1 o a c), fun j a => (h'.2 j a).trans (h.2 j a)⟩
/-- what a minute's end makes sure of -/
def gd_M (g : gw_Mem) : Prop := (∀ j : Int, 0 ≤ j ∧ j < g 117 6 → g 131 j < 0 → (g 129 j = g 117 0 → 0 ≤ g 134 j) ∧ gw_inR (g 133 j)) ∧ gd_o g ≤ g 117 30
theorem gw_up_same (m : gw_Mem) (o : Nat) (j : Int) {v : Int} (hv : v = m o j) : gw_up m o j v = m := by
  funext q i
  unfold gw_up
  split
  · rename_i h
    rw [h.1, h.2, hv]
  · rfl
theorem gd_bs_at (m : gw_Mem) (t : Int) (n : Nat) (ht : 0 ≤ t) : ∀ j : Nat, j < n → m 131 j < 0 → (m 129 j = m 117 0 → 0 ≤ (gd_bs m t n).2 134 j) ∧ gw_inR ((gd_bs m t n).2 133 j) := by
  induction n with
  | zero => intro j hj; omega
  | succ n ih =>
    intro j hj hl
    have e129 := gd_bs_ne m t n 129 (by omega) (by omega)
    have e131 := gd_bs_ne m t n 131 (by omega) (by omega)
    have e117 := gd_bs_ne m t n 117 (by omega) (by omega)
    rw [gd_bs]
    by_cases e : j = n
    · subst e
      rw [if_pos (by rw [gd_lostz, e131]; exact hl)]
      dsimp only
      unfold gd_br
      rw [gw_up_at, if_pos rfl, gw_up_ne (by omega), gw_up_at, if_pos rfl, e129, e117]
      refine ⟨fun h => ?_, gw_w_in _⟩
      rw [if_pos h]
      split <;> omega
    · have h := ih j (by omega) hl
      split
      · dsimp only
        unfold gd_br
        rw [gw_up_at, if_neg (by omega), gw_up_ne (by omega), gw_up_ne (by omega), gw_up_at, if_neg (by omega)]
        exact h
      · exact h
/-- the state behind a minute, but for what stood and the film -/
theorem gd_bh_at (q : gw_Mem) (t : Int) : (∀ o : Nat, o ≠ 117 → o ≠ 135 → gd_bh q t o = (gd_bs q t (gd_n q)).2 o) ∧ (∀ j : Int, j ≠ 21 → j ≠ 30 → gd_bh q t 117 j = q 117 j) ∧ gd_bh q t 117 30 = (if gd_o q ≤ q 117 30 then q 117 30 else gd_o q) ∧ gd_o (gd_bh q t) = gd_o q ∧ gd_bo q t = gd_o q := by
  have hs := gd_bs_ne q t (gd_n q)
  have hl := gd_bs_l q t (gd_n q)
  have s117 := hs 117 (by omega) (by omega)
  have ho : gd_out (gd_bs q t (gd_n q)).2 (gd_bs q t (gd_n q)).1 = gd_o q := by
    unfold gd_out gd_o
    rw [hl, s117]
  have b1 : ∀ o : Nat, o ≠ 117 → o ≠ 135 → gd_bh q t o = (gd_bs q t (gd_n q)).2 o := by
    intro o h1 h2
    rw [gd_bh_ne q t h2]
    unfold gd_bm gd_b3 gd_b2
    rw [gw_up_ne h1, gw_up_ne h1]
  have b2 : ∀ j : Int, j ≠ 21 → j ≠ 30 → gd_bh q t 117 j = q 117 j := by
    intro j h1 h2
    rw [gd_bh_ne q t (by omega)]
    unfold gd_bm gd_b3 gd_b2
    rw [gw_up_at, if_neg h1, gw_up_at, if_neg h2, s117]
  refine ⟨b1, b2, ?_, ?_, by unfold gd_bo; exact ho⟩
  · rw [gd_bh_ne q t (by omega)]
    unfold gd_bm gd_b3 gd_b2
    rw [gw_up_at, if_neg (by omega), gw_up_at, if_pos rfl, ho, s117]
  · unfold gd_o
    rw [gd_wf_n (gd_bh_wf q t), b2 16 (by omega) (by omega), gd_ll_congr (gd_n q) (by rw [b1 131 (by omega) (by omega), hs 131 (by omega) (by omega)]) (by rw [b1 129 (by omega) (by omega), hs 129 (by omega) (by omega)])]
theorem gd_M_bh {q : gw_Mem} (hJ : gd_JP q) (t : Int) (ht : 0 ≤ t) : gd_M (gd_bh q t) := by
  obtain ⟨b1, b2, b3, b4, _⟩ := gd_bh_at q t
  have hs := gd_bs_ne q t (gd_n q)
  have hn := gd_n_cast hJ
  refine ⟨fun j hj hl => ?_, ?_⟩
  · rw [b2 6 (by omega) (by omega)] at hj
    rw [b1 131 (by omega) (by omega), hs 131 (by omega) (by omega)] at hl
    rw [b1 129 (by omega) (by omega), hs 129 (by omega) (by omega), b1 134 (by omega) (by omega), b1 133 (by omega) (by omega), b2 0 (by omega) (by omega)]
    obtain ⟨k, rfl⟩ := gw_nat hj.1
    exact gd_bs_at q t (gd_n q) ht k (by omega) hl
  · rw [b3, b4]
    split <;> omega
theorem gd_ll_le (g : gw_Mem) (n : Nat) : ∀ i : Nat, i < n → g 131 i < 0 → gd_ll g n ≤ g 129 i := by
  induction n with
  | zero => intro i hi; omega
  | succ n ih =>
    intro i hi hl
    rw [gd_ll_s]
    by_cases e : i = n
    · subst e
      rw [if_pos hl]
      split <;> omega
    · have h := ih i (by omega) hl
      split
      · split <;> omega
      · exact h
theorem gd_still {g : gw_Mem} (hJ : gd_JP g) (hV : gd_V g) (hM : gd_M g) (hO : gd_ov g) (t : Int) : gd_S g (gd_min g t) := by
  have hn := gd_n_cast hJ
  have hend := hJ.1
  have all : ∀ i : Nat, i < gd_n g → g 131 i < 0 → g 129 i = g 117 0 := by
    intro i hi hl
    have h1 := gd_ll_le g (gd_n g) i hi hl
    have h2 := (hV.2.1 i (by omega)).1
    have h3 := hO.1
    rcases hO.2 with z | z <;> omega
  have e1 : gd_gg g t = g := by rw [gd_gg, if_pos hO.1]
  have e2 : ∀ n : Nat, n ≤ gd_n g → gd_pp g t n = g := by
    intro n
    induction n with
    | zero => exact fun _ => rfl
    | succ n ih =>
      intro hle
      rw [gd_pp, ih (by omega)]
      split
      · rename_i h
        have hl := (gd_lostz g n).mp h
        have ha := all n (by omega) hl
        have hv := (hV.2.1 n (by omega)).2
        unfold gd_go
        rw [if_neg (by omega)]
        split
        · rfl
        · generalize (g 124 (n : Int)).toNat = k
          cases k with
          | zero => rfl
          | succ k => rw [gd_fs, if_pos (by rw [ha]; have := hO.1; omega)]
      · rfl
  have e3 : ∀ n : Nat, n ≤ gd_n g → (gd_bs g t n).2 = g := by
    intro n
    induction n with
    | zero => exact fun _ => rfl
    | succ n ih =>
      intro hle
      rw [gd_bs, ih (by omega)]
      split
      · rename_i h
        have hl := (gd_lostz g n).mp h
        have ha := all n (by omega) hl
        have hm := hM.1 n (by omega) hl
        show gd_br g n t = g
        unfold gd_br
        rw [gw_up_same g 133 n, gw_up_same g 134 n]
        · rw [if_pos ha, if_pos (hm.1 ha)]
        · rw [if_pos (by rw [ha]; exact hO.1.symm), if_pos (by rw [hO.1]; exact Int.le_refl _), Int.add_zero, gw_w_id hm.2]
      · exact ih (by omega)
  obtain ⟨b1, b2, b3, _, _⟩ := gd_bh_at g t
  have em : gd_min g t = gd_bh g t := by unfold gd_min; rw [e1, e2 (gd_n g) (Nat.le_refl _)]
  rw [em]
  refine ⟨fun o h1 h2 => by rw [b1 o h1 h2, e3 (gd_n g) (Nat.le_refl _)], fun j h1 => ?_⟩
  by_cases e : j = 30
  · rw [e, b3, if_pos hM.2]
  · exact b2 j h1 e
theorem gd_S_keep {g g' : gw_Mem} (h : gd_S g g') (hJ : gd_JP g) (hV : gd_V g) (hM : gd_M g) (hO : gd_ov g) : gd_JP g' ∧ gd_V g' ∧ gd_M g' ∧ gd_ov g' := by
  have hw : gd_wf g g' := ⟨fun o a c => h.1 o c (by omega), fun j a => h.2 j (by omega)⟩
  have hn : gd_n g' = gd_n g := gd_wf_n hw
  have hll : gd_ll g' (gd_n g) = gd_ll g (gd_n g) := gd_ll_congr _ (h.1 131 (by omega) (by omega)) (h.1 129 (by omega) (by omega))
  refine ⟨gd_wf_JP hw hJ, gd_V_congr hV (h.2 0 (by omega)) (h.2 6 (by omega)) (h.2 16 (by omega)) (h.2 22 (by omega)) (h.1 119 (by omega) (by omega)) (h.1 123 (by omega) (by omega)) (h.1 129 (by omega) (by omega)) (h.1 130 (by omega) (by omega)), ?_, ?_⟩
  · unfold gd_M gd_o at *
    rw [hn, hll, h.2 6 (by omega), h.2 0 (by omega), h.2 16 (by omega), h.2 30 (by omega), h.1 131 (by omega) (by omega), h.1 129 (by omega) (by omega), h.1 134 (by omega) (by omega), h.1 133 (by omega) (by omega)]
    exact hM
  · unfold gd_ov at *
    rw [hn, hll, h.2 16 (by omega), h.2 0 (by omega)]
    exact hO
theorem gd_still_run {g0 : gw_Mem} {k : Nat} (hJ : gd_JP (gd_run g0 k)) (hV : gd_V (gd_run g0 k)) (hM : gd_M (gd_run g0 k)) (hO : gd_ov (gd_run g0 k)) : ∀ j : Nat, gd_S (gd_run g0 k) (gd_run g0 (k + j)) := by
  intro j
  induction j with
  | zero => exact gd_S_rfl _
  | succ j ih =>
    obtain ⟨a, c, d, e⟩ := gd_S_keep ih hJ hV hM hO
    exact gd_S_tr ih (gd_still a c d e _)
theorem gd_kA_ne (g : gw_Mem) (k : Int) {o : Nat} (h1 : o ≠ 117) (h2 : o ≠ 132) : (gd_kA g k).2 o = g o := by
  unfold gd_kA gd_done
  repeat' split
  all_goals first
    | rfl
    | exact gw_up_ne h1
    | exact (gd_spk_ne _ _ h2).trans (gw_up_ne h1)
theorem gd_kp_ne (g : gw_Mem) {o : Nat} (h1 : o ≠ 117) (h2 : o ≠ 132) : (gd_kp g).2 o = g o := by
  unfold gd_kp
  repeat' split
  · rw [gd_kA_ne _ _ h1 h2]
    unfold gd_bgm
    rw [gw_up_ne h1, gw_up_ne h1]
  · exact gd_kA_ne _ _ h1 h2
  · rfl
theorem gd_gg_ne (g : gw_Mem) (t : Int) {o : Nat} (h1 : o ≠ 117) (h2 : o ≠ 132) : gd_gg g t o = g o := by
  unfold gd_gg
  repeat' split
  · rfl
  · unfold gd_gA gd_ar
    rw [gw_up_ne h1]
    split
    · rw [(gd_gs_at _ t _).1 o h1, gd_kp_ne g h1 h2]
    · rw [(gd_clr_at _).1 o h1, (gd_gs_at _ t _).1 o h1, gd_kp_ne g h1 h2]
  · exact gd_kp_ne g h1 h2
/-- the film: each minute's row is what that minute left -/
theorem gd_min_film (g : gw_Mem) (t j : Int) : gd_min g t 135 j = if j = 12 * t then gd_min g t 117 16 else if j = 12 * t + 1 then gd_o (gd_min g t) else if 12 * t + 2 ≤ j ∧ j < 12 * t + 2 + gd_n g then gd_min g t 129 (j - (12 * t + 2)) else g 135 j := by
  have hp := gd_pp_ne (gd_gg g t) t (gd_n g)
  have hw : gd_wf g (gd_pp (gd_gg g t) t (gd_n g)) := gd_wf_tr (gd_gg_wf g t) (gd_pp_wf _ _ _)
  have hn := gd_wf_n hw
  have h135 : gd_pp (gd_gg g t) t (gd_n g) 135 = g 135 := by rw [hp 135 (by omega), gd_gg_ne g t (by omega) (by omega)]
  unfold gd_min
  generalize gd_pp (gd_gg g t) t (gd_n g) = q at hn h135 ⊢
  obtain ⟨b1, b2, b3, b4, b5⟩ := gd_bh_at q t
  have e16 : gd_bm q t 117 16 = gd_bh q t 117 16 := by rw [gd_bh_ne q t (by omega)]
  have e129 : gd_bm q t 129 = gd_bh q t 129 := by rw [gd_bh_ne q t (by omega)]
  rw [gd_bh_film, e16, e129, b5, b4, hn, h135]
theorem gd_run_film {g0 : gw_Mem} (hn : gd_n g0 ≤ 10) (t : Nat) (j : Int) (hj : 12 * (t : Int) ≤ j ∧ j < 12 * t + 12) : ∀ k : Nat, gd_run g0 (t + 1 + k) 135 j = gd_run g0 (t + 1) 135 j := by
  intro k
  induction k with
  | zero => rfl
  | succ k ih =>
    have hnk : gd_n (gd_run g0 (t + 1 + k)) = gd_n g0 := gd_wf_n (gd_run_wf _ _)
    show gd_min (gd_run g0 (t + 1 + k)) ((t + 1 + k : Nat) : Int) 135 j = _
    rw [gd_min_film, hnk, if_neg (by omega), if_neg (by omega), if_neg (by omega)]
    exact ih
