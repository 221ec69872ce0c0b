/-! the class's walk and the reference's -/
def gd_cr (o : Nat) : Nat := if o = 131 then 17 else if o ≤ 130 then o - 117 else o - 118
def gc_Rr (g m : gw_Mem) (b : Nat) : Prop := ∀ o : Nat, 129 ≤ o ∧ o ≤ 134 → ∀ j : Int, 0 ≤ j ∧ j < g 117 6 → m (b + gd_cr o) j = g o j
theorem gd_cr_rng {o : Nat} (h : 129 ≤ o ∧ o ≤ 134) : 12 ≤ gd_cr o ∧ gd_cr o ≤ 17 := by
  unfold gd_cr
  repeat' split
  all_goals omega
theorem gd_cr_inj {o q : Nat} (h : 129 ≤ o ∧ o ≤ 134) (h' : 129 ≤ q ∧ q ≤ 134) (e : gd_cr o = gd_cr q) : o = q := by
  unfold gd_cr at e
  repeat' split at e
  all_goals omega
theorem gc_Rr_up {g m : gw_Mem} {b : Nat} (h : gc_Rr g m b) {o : Nat} (ho : 129 ≤ o ∧ o ≤ 134) (j v : Int) : gc_Rr (gw_up g o j v) (gw_up m (b + gd_cr o) j v) b := by
  intro q hq i hi
  rw [gw_up_ne (by omega)] at hi
  by_cases e : q = o
  · subst e
    rw [gw_up_at, gw_up_at, h q hq i hi]
  · rw [gw_up_ne e, gw_up_ne (fun z => e (gd_cr_inj hq ho (by omega)))]
    exact h q hq i hi
theorem gc_Rr_g {g g' m : gw_Mem} {b : Nat} (h : gc_Rr g m b) (hg : ∀ o : Nat, 129 ≤ o ∧ o ≤ 134 → g' o = g o) (h6 : g' 117 6 = g 117 6) : gc_Rr g' m b := by
  intro o ho j hj
  rw [hg o ho]
  exact h o ho j (by rw [h6] at hj; exact hj)
theorem gc_Rr_m {g m m' : gw_Mem} {b : Nat} (h : gc_Rr g m b) (hm : ∀ o : Nat, b + 12 ≤ o → o ≤ b + 17 → m' o = m o) : gc_Rr g m' b := by
  intro o ho j hj
  have := gd_cr_rng ho
  rw [hm _ (by omega) (by omega)]
  exact h o ho j hj
/-- what holds along every walk of the reference -/
def gd_V (g : gw_Mem) : Prop := (0 ≤ g 117 16 ∧ g 117 16 ≤ g 117 0) ∧ (∀ j : Int, 0 ≤ j ∧ j < g 117 6 → (0 ≤ g 129 j ∧ g 129 j ≤ g 117 16) ∧ (g 123 j = 1 ∧ g 129 j < g 117 0 ∨ g 130 j ≤ 0)) ∧
  (0 ≤ g 117 22 ∧ g 117 22 < 256) ∧ ∀ k : Int, 0 ≤ k ∧ k < 8 → gw_and (gw_shr (g 117 22) k) 1 = 0 ∨ g 119 k ≤ g 117 16
/-- the tail, as the class has it -/
def gc_tn (g m : gw_Mem) (b : Nat) : Prop := m b 7 < 0 ∧ gd_tl g (gd_n g) < 0 ∨ 0 ≤ gd_tl g (gd_n g) ∧ m b 7 = gd_tl g (gd_n g)
def gc_H (g m : gw_Mem) (b : Nat) : Prop := m b 4 = g 117 16 ∧ m (b + 11) 0 = g 117 17 ∧ m (b + 11) 2 = g 117 18 ∧ m (b + 11) 3 = g 117 19 ∧ m (b + 11) 4 = g 117 20 ∧ (0 < gd_wl g 0 (g 117 16) → ((m (b + 11) 1 = 0 ↔ 0 ≤ gd_sh g) ∧ m (b + 11) 5 = g 117 21))
def gc_Q (g m : gw_Mem) (b : Nat) : Prop := gd_JP g ∧ gd_V g ∧ gc_L g m b ∧ gc_Rr g m b ∧ gc_tn g m b ∧ m b 8 = g 117 6 - gd_alive g (gd_n g) ∧ gc_H g m b
/-- only the walk's own state has changed -/
def gc_fr (b : Nat) (m m' : gw_Mem) : Prop := (∀ o : Nat, ¬ (o = b ∨ b + 11 ≤ o ∧ o ≤ b + 17) → m' o = m o) ∧ ∀ j : Int, j ≠ 4 → j ≠ 8 → m' b j = m b j
theorem gc_fr_rfl (b : Nat) (m : gw_Mem) : gc_fr b m m := ⟨fun _ _ => rfl, fun _ _ _ => rfl⟩
theorem gc_fr_tr {b : Nat} {m m1 m2 : gw_Mem} (h : gc_fr b m m1) (h' : gc_fr b m1 m2) : gc_fr b m m2 := ⟨fun o a => (h'.1 o a).trans (h.1 o a), fun j a c => (h'.2 j a c).trans (h.2 j a c)⟩
theorem gc_fr_up {b : Nat} {m m1 : gw_Mem} (h : gc_fr b m m1) {o : Nat} (ho : b + 11 ≤ o ∧ o ≤ b + 17) (j v : Int) : gc_fr b m (gw_up m1 o j v) := by
  refine ⟨fun q a => ?_, fun i a c => ?_⟩
  · rw [gw_up_ne (by omega)]; exact h.1 q a
  · rw [gw_up_ne (by omega)]; exact h.2 i a c
theorem gc_fr_uf {b : Nat} {m m1 : gw_Mem} (h : gc_fr b m m1) {j : Int} (hj : j = 4 ∨ j = 8) (v : Int) : gc_fr b m (gw_up m1 b j v) := by
  refine ⟨fun q a => ?_, fun i a c => ?_⟩
  · rw [gw_up_ne (by omega)]; exact h.1 q a
  · rw [gw_up_at, if_neg (by omega)]; exact h.2 i a c
theorem gc_fr_ne {b : Nat} {m m1 : gw_Mem} (h : ∀ o : Nat, ¬ (b + 11 ≤ o ∧ o ≤ b + 17) → m1 o = m o) : gc_fr b m m1 := ⟨fun o a => h o (by omega), fun j _ _ => by rw [h b (by omega)]⟩
theorem gc_L_fr {g m m' : gw_Mem} {b : Nat} (h : gc_L g m b) (hf : gc_fr b m m') : gc_L g m' b := gc_L_m h (fun o _ _ => hf.1 o (by omega))
theorem gd_near_le (g : gw_Mem) (n : Nat) : gd_near g n ≤ gd_alive g n := by
  induction n with
  | zero => exact Int.le_refl _
  | succ n ih =>
    have a : gd_near g (n + 1) = gd_near g n + gd_nr g n 1 := rfl
    have b : gd_alive g (n + 1) = gd_alive g n + (if gd_lost g n = 0 then 1 else 0) := rfl
    rw [a, b]
    have c : gd_nr g n 1 ≤ if gd_lost g n = 0 then 1 else 0 := by
      simp only [gd_lostz]
      unfold gd_nr
      repeat' split
      all_goals omega
    omega
theorem gd_alive_congr {g g' : gw_Mem} (n : Nat) (h : ∀ i : Nat, i < n → g' 131 i = g 131 i) : gd_alive g' n = gd_alive g n :=
  gw_sum_congr (n := n) (fun i hi => by show (if gd_lost g' i = 0 then (1 : Int) else 0) = _; rw [show gd_lost g' i = gd_lost g i by unfold gd_lost; rw [h i hi]])
theorem gd_alive_up {g : gw_Mem} (n x : Nat) (v : Int) (hx : g 131 x < 0) (hv : 0 ≤ v) : gd_alive (gw_up g 131 x v) n = gd_alive g n - (if x < n then 1 else 0) := by
  induction n with
  | zero => rw [if_neg (by omega)]; rfl
  | succ n ih =>
    have a : gd_alive (gw_up g 131 x v) (n + 1) = gd_alive (gw_up g 131 x v) n + (if gd_lost (gw_up g 131 x v) n = 0 then 1 else 0) := rfl
    have b : gd_alive g (n + 1) = gd_alive g n + (if gd_lost g n = 0 then 1 else 0) := rfl
    rw [a, b, ih]
    simp only [gd_lostz, gw_up_at]
    by_cases e : (n : Int) = x
    · rw [if_pos e, e, if_neg (show ¬ (v < 0) by omega), if_pos hx]
      split <;> split <;> omega
    · rw [if_neg e]
      split <;> split <;> split <;> omega
theorem gd_sh_pos {g : gw_Mem} (hJ : gd_JP g) (h : 0 ≤ gd_sh g) : 0 < gd_wl g 0 (g 117 16) ∧ gd_wl g 0 (g 117 16) = g 120 (gd_sh g) ∧ gd_sh g = gd_mk g 0 (g 117 16) ∧ g 117 16 < g 117 0 := by
  have hw := (gd_wl_rng hJ (k := 0) (by omega) (g 117 16)).2.2
  unfold gd_sh gd_sq at h ⊢
  by_cases h1 : g 117 16 < g 117 0
  · rw [if_pos h1] at h ⊢
    by_cases h2 : gd_mk g 0 (g 117 16) < 0
    · rw [if_pos h2] at h; omega
    · rw [if_neg h2] at h ⊢
      by_cases h3 : gw_and (gw_shr (g 117 22) (gd_mk g 0 (g 117 16))) 1 = 0
      · rw [if_pos h3]
        have hc : g 117 16 < g 117 0 ∧ 0 ≤ gd_mk g 0 (g 117 16) := ⟨h1, by omega⟩
        refine ⟨hw.mpr hc, ?_, rfl, h1⟩
        rw [gd_wl, if_pos hc, show 8 * 0 + gd_mk g 0 (g 117 16) = gd_mk g 0 (g 117 16) by omega]
      · rw [if_neg h3] at h; omega
  · rw [if_neg h1, if_pos (by omega)] at h; omega
theorem sp_X10_isAtOpenStop (b : Nat) (hb : gw_isWalk b) (g m : gw_Mem) (h : gc_Q g m b) : gw_SpecI M_X10_isAtOpenStop 10 [gR b] m (fun r m' => r = gw_tf (0 ≤ gd_sh g) ∧ m' = m) := by
  refine gw_intro pl_X10_isAtOpenStop rfl (fun Γ => ?_)
  obtain ⟨hJ, hV, hL, hR, ht, h8, hH⟩ := h
  apply r_X10_isAtOpenStop_0 b hb
  have he := hJ.1
  have hg := hV.1
  have h4 : m b 4 = g 117 16 := hH.1
  have hw : m (b + 2) (g 117 16) = gd_wl g 0 (g 117 16) := hL.2.1 0 (by omega) _ (by omega)
  rw [h4, hw]
  refine ⟨gw_inm (by omega) (by omega), gw_rE ?_ rfl⟩
  unfold gw_tf
  by_cases h1 : gd_wl g 0 (g 117 16) ≤ 0
  · rw [if_pos h1, if_neg (fun z => by have := (gd_sh_pos hJ z).1; omega)]
  · rw [if_neg h1]
    have h2 := (hH.2.2.2.2.2 (by omega)).1
    by_cases h3 : m (b + 11) 1 = 0
    · rw [if_pos h3, if_pos (h2.mp h3)]
    · rw [if_neg h3, if_neg (fun z => h3 (h2.mpr z))]
theorem gd_n_cast {g : gw_Mem} (hJ : gd_JP g) : (gd_n g : Int) = g 117 6 ∧ gd_n g ≤ 10 := by
  have := hJ.2.2.2.2.1
  unfold gd_n
  omega
theorem gc_ro {g m : gw_Mem} {b : Nat} (hR : gc_Rr g m b) {j : Int} (hj : 0 ≤ j ∧ j < g 117 6) : m (b + 12) j = g 129 j ∧ m (b + 13) j = g 130 j ∧ m (b + 14) j = g 132 j ∧ m (b + 15) j = g 133 j ∧ m (b + 16) j = g 134 j ∧ m (b + 17) j = g 131 j :=
  ⟨hR 129 (by omega) j hj, hR 130 (by omega) j hj, hR 132 (by omega) j hj, hR 133 (by omega) j hj, hR 134 (by omega) j hj, hR 131 (by omega) j hj⟩
theorem sp_X10_isToBegin (b : Nat) (hb : gw_isWalk b) (g m : gw_Mem) (h : gc_Q g m b) : gw_SpecI M_X10_isToBegin 10 [gR b] m (fun r m' => r = gd_bg g ∧ m' = m) := by
  refine gw_intro pl_X10_isToBegin rfl (fun Γ => ?_)
  obtain ⟨hJ, hV, hL, hR, ht, h8, hH⟩ := h
  have hnc := gd_n_cast hJ
  have h6 : m (b + 6) 0 = g 117 6 := hL.2.2.1
  have hr := hL.2.2.2.2
  have key : ∀ (j i : Nat), i + j = gd_n g → gw_G M_X10_isToBegin 10 (fun r m' => ∃ v, r = some (gI v) ∧ v = gd_bg g ∧ m' = m) Γ 4 [some (gR b), some (gI (gd_near g i)), some (gI (i : Int))] [] m := by
    intro j
    induction j with
    | zero =>
      intro i hi
      apply r_X10_isToBegin_4 b hb
      rw [h6]
      refine ⟨fun _ => gw_rE ?_ rfl, fun z => absurd (by omega) z⟩
      have ei : i = gd_n g := by omega
      rw [ei, hr 1 (by omega), hr 3 (by omega), h8, hH.2.2.1]
      have a := gd_alive_rng g (gd_n g)
      have c := gd_near_le g (gd_n g)
      rw [gw_w_id (by omega)]
      unfold gd_bg gd_wish
      repeat' split
      all_goals omega
    | succ j ih =>
      intro i hi
      apply r_X10_isToBegin_4 b hb
      rw [h6]
      have hx : gw_in (i : Int) 10 := gw_inm (by omega) (by omega)
      refine ⟨fun z => absurd z (by omega), fun _ => ⟨hx, fun _ => hx, ?_⟩⟩
      have ro := gc_ro hR (j := (i : Int)) (by omega)
      rw [ro.2.2.2.2.2, ro.1, hH.1, hr 4 (by omega), gw_w1 (by omega)]
      have e : (if 0 ≤ g 131 (i : Int) then (0 : Int) else if g 122 4 < gw_w (g 117 16 - g 129 i) then 0 else 1) = gd_nr g i 1 := by
        have r4 := hJ.2.2.2.2.2.2.2.1.2.2.2.2
        unfold gd_nr
        rw [gw_w_id (x := 1 * g 122 4) (by omega)]
        repeat' split
        all_goals omega
      rw [e]
      have z1 : gd_near g (i + 1) = gd_near g i + gd_nr g i 1 := rfl
      have z2 := gd_near_rng g (i + 1)
      rw [gw_w_id (by omega)]
      exact ih (i + 1) (by omega)
  apply r_X10_isToBegin_0 b hb
  exact key (gd_n g) 0 (by omega)
