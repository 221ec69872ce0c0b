/-! the class: the end of a minute -/
theorem gc_Q_irr {g g' m m' : gw_Mem} {b : Nat} (h : gc_Q g m b) (ho : ∀ o : Nat, o ≠ 117 → o ≠ 135 → g' o = g o) (hj : ∀ j : Int, j ≠ 29 → j ≠ 30 → g' 117 j = g 117 j) (hm : ∀ o : Nat, o ≠ b → m' o = m o) (hb : ∀ j : Int, j = 4 ∨ j = 7 ∨ j = 8 → m' b j = m b j) : gc_Q g' m' b := by
  obtain ⟨hJ, hV, hL, hR, ht, h8, hH⟩ := h
  have hw : gd_wf g g' := ⟨fun o a c => ho o c (by omega), fun j a => hj j (by omega) (by omega)⟩
  refine ⟨gd_wf_JP hw hJ, gd_V_congr hV (hj 0 (by omega) (by omega)) (hj 6 (by omega) (by omega)) (hj 16 (by omega) (by omega)) (hj 22 (by omega) (by omega)) (ho 119 (by omega) (by omega)) (ho 123 (by omega) (by omega)) (ho 129 (by omega) (by omega)) (ho 130 (by omega) (by omega)), gc_L_m (gc_L_g hL (gd_pq_wf hw)) (fun o _ _ => hm o (by omega)), gc_Rr_m (gc_Rr_g hR (fun o _ => ho o (by omega) (by omega)) (hj 6 (by omega) (by omega))) (fun o _ _ => hm o (by omega)), gc_tn_congr ht (hj 6 (by omega) (by omega)) (ho 123 (by omega) (by omega)) (hb 7 (by omega)), ?_, ?_⟩
  · rw [hb 8 (by omega), hj 6 (by omega) (by omega), gd_wf_n hw, gd_alive_congr (g := g) (gd_n g) (fun i _ => by rw [ho 131 (by omega) (by omega)])]
    exact h8
  · unfold gc_H
    rw [gd_wl_pq (gd_pq_wf hw), gd_sh_congr (hj 0 (by omega) (by omega)) (hj 16 (by omega) (by omega)) (hj 22 (by omega) (by omega)) (ho 118 (by omega) (by omega)) (ho 119 (by omega) (by omega)), hj 16 (by omega) (by omega), hj 17 (by omega) (by omega), hj 18 (by omega) (by omega), hj 19 (by omega) (by omega), hj 20 (by omega) (by omega), hj 21 (by omega) (by omega), hb 4 (by omega), hm (b + 11) (by omega)]
    exact hH
/-- the least place of all that are not lost -/
def gd_ll (g : gw_Mem) : Nat → Int := gd_lst g (-1)
theorem gd_ll_s (g : gw_Mem) (i : Nat) : gd_ll g (i + 1) = if g 131 i < 0 then (if gd_ll g i ≤ g 129 i then gd_ll g i else g 129 i) else gd_ll g i := by
  unfold gd_ll
  rw [gd_lst, if_neg (by omega)]
  simp only [gd_lostz]
theorem gd_ll_congr {g g' : gw_Mem} (n : Nat) (h1 : g' 131 = g 131) (h2 : g' 129 = g 129) : gd_ll g' n = gd_ll g n := by
  induction n with
  | zero => rfl
  | succ n ih => rw [gd_ll_s, gd_ll_s, ih, h1, h2]
theorem gd_ll_rng {g : gw_Mem} (hJ : gd_JP g) (hV : gd_V g) (n : Nat) (hn : (n : Int) ≤ g 117 6) : (0 ≤ gd_ll g n ∧ gd_ll g n ≤ g 117 16 ∨ gd_ll g n = 1000) ∧ (gd_near g n = gd_alive g n ↔ gd_ll g n = 1000 ∨ g 117 16 - gd_ll g n ≤ g 122 4) := by
  have hend := hJ.1
  have hg := hV.1
  have hr4 := hJ.2.2.2.2.2.2.2.1.2.2.2.2
  induction n with
  | zero => exact ⟨Or.inr rfl, ⟨fun _ => Or.inl rfl, fun _ => rfl⟩⟩
  | succ n ih =>
    obtain ⟨i1, i2⟩ := ih (by omega)
    have hpl := (hV.2.1 n (by omega)).1
    have hle := gd_near_le g n
    have a : gd_near g (n + 1) = gd_near g n + gd_nr g n 1 := rfl
    have c : gd_alive g (n + 1) = gd_alive g n + (if gd_lost g n = 0 then 1 else 0) := rfl
    have e1 : gd_nr g n 1 = if g 131 (n : Int) < 0 then (if g 122 4 < g 117 16 - g 129 n then 0 else 1) else 0 := by
      unfold gd_nr
      rw [gw_w_id (x := 1 * g 122 4) (by omega), gw_w_id (x := g 117 16 - g 129 n) (by omega), Int.one_mul]
    rw [a, c, gd_ll_s, e1]
    simp only [gd_lostz]
    by_cases hl : g 131 (n : Int) < 0
    · rw [if_pos hl, if_pos hl, if_pos hl]
      by_cases hq : gd_near g n = gd_alive g n
      · have j := i2.mp hq
        refine ⟨?_, ?_⟩
        · split <;> omega
        · rw [hq]
          split <;> split <;> constructor <;> omega
      · have j : ¬ (gd_ll g n = 1000 ∨ g 117 16 - gd_ll g n ≤ g 122 4) := fun z => hq (i2.mpr z)
        refine ⟨?_, ?_⟩
        · split <;> omega
        · split <;> split <;> constructor <;> omega
    · rw [if_neg hl, if_neg hl, if_neg hl, Int.add_zero, Int.add_zero]
      exact ⟨i1, i2⟩
theorem gd_bs_ne (m : gw_Mem) (t : Int) (n : Nat) : ∀ o : Nat, o ≠ 133 → o ≠ 134 → (gd_bs m t n).2 o = m o := by
  induction n with
  | zero => exact fun _ _ _ => rfl
  | succ n ih =>
    intro o h1 h2
    rw [gd_bs]
    split
    · unfold gd_br
      show gw_up (gw_up (gd_bs m t n).2 133 _ _) 134 _ _ o = m o
      rw [gw_up_ne h2, gw_up_ne h1, ih o h1 h2]
    · exact ih o h1 h2
theorem gd_bs_l (m : gw_Mem) (t : Int) (n : Nat) : (gd_bs m t n).1 = gd_ll m n := by
  induction n with
  | zero => rfl
  | succ n ih =>
    rw [gd_bs, gd_ll_s, ih, gd_bs_ne m t n 129 (by omega) (by omega)]
    have e : gd_lost (gd_bs m t n).2 n = gd_lost m n := by unfold gd_lost; rw [gd_bs_ne m t n 131 (by omega) (by omega)]
    rw [e]
    simp only [gd_lostz]
    split
    · rfl
    · exact ih
def gc_9 (g m : gw_Mem) (b : Nat) : Prop := m b 9 = if gd_ll g (gd_n g) = 1000 then -1 else gd_ll g (gd_n g)
def gd_o (g : gw_Mem) : Int := if gd_ll g (gd_n g) = 1000 then -4 else gw_w (g 117 16 - gd_ll g (gd_n g))
def gc_Z (g m : gw_Mem) (b : Nat) : Prop := gc_Q g m b ∧ m b 5 = g 117 29 ∧ m b 6 = g 117 30 ∧ gc_9 g m b
/-- a minute of the walk changes the walk alone -/
def gc_fw (b : Nat) (m m' : gw_Mem) : Prop := ∀ o : Nat, ¬ (o = b ∨ b + 11 ≤ o ∧ o ≤ b + 17) → m' o = m o
theorem sp_X10_out (b : Nat) (hb : gw_isWalk b) (g m : gw_Mem) (hJ : gd_JP g) (hV : gd_V g) (h4 : m b 4 = g 117 16) (h9 : gc_9 g m b) : gw_SpecI M_X10_out 10 [gR b] m (fun r m' => r = gd_o g ∧ m' = m) := by
  refine gw_intro pl_X10_out rfl (fun Γ => ?_)
  apply r_X10_out_0 b hb
  refine gw_rE ?_ rfl
  have hnc := gd_n_cast hJ
  have hr := (gd_ll_rng hJ hV (gd_n g) (by omega)).1
  unfold gc_9 at h9
  rw [h9, h4]
  unfold gd_o
  by_cases h : gd_ll g (gd_n g) = 1000
  · rw [if_pos h, if_pos h, if_neg (by omega)]
  · rw [if_neg h, if_neg h, if_pos (by omega)]
theorem sp_X10_closeMinute (b : Nat) (hb : gw_isWalk b) (g m : gw_Mem) (t : Int) (h : gc_Q g m b) (h5 : (if g 117 0 ≤ g 117 16 ∧ m b 5 < 0 then t else m b 5) = g 117 29) (h6 : m b 6 = g 117 30) : gw_SpecV M_X10_closeMinute 12 [gR b, gI t] m (fun m' => gc_Z (gd_bh g t) m' b ∧ gc_fw b m m') := by
  refine gw_intro pl_X10_closeMinute rfl (fun Γ => ?_)
  obtain ⟨hJ, hV, hL, hR, ht, h8, hH⟩ := h
  have hnc := gd_n_cast hJ
  have hend := hJ.1
  have hg := hV.1
  have hr4 := hJ.2.2.2.2.2.2.2.1.2.2.2.2
  have loop : ∀ (j i : Nat) (mm : gw_Mem) (y : Option gw_SV), i + j = gd_n g → gc_Q (gd_bs g t i).2 mm b → gc_fw b m mm → mm b 5 = m b 5 → mm b 6 = m b 6 → mm b 9 = (if gd_ll g i = 1000 then -1 else gd_ll g i) →
      gw_G M_X10_closeMinute 12 (fun r m' => r = none ∧ gc_Z (gd_bh g t) m' b ∧ gc_fw b m m') Γ 27 [some (gR b), some (gI t), some (gI (if g 117 0 ≤ g 117 16 then 0 else 1)), some (gI (i : Int)), y] [] mm := by
    intro j
    induction j with
    | zero =>
      intro i mm y hi hQ hf e5 e6 e9
      apply r_X10_closeMinute_27 b hb _ _ _ _ _ (by decide)
      have ei : i = gd_n g := by omega
      subst ei
      have sne := gd_bs_ne g t (gd_n g)
      have s117 : (gd_bs g t (gd_n g)).2 117 = g 117 := sne 117 (by omega) (by omega)
      rw [hQ.2.2.1.2.2.1, s117]
      refine ⟨fun _ => ?_, fun z => absurd (by omega) z⟩
      have snn : gd_n (gd_bs g t (gd_n g)).2 = gd_n g := gd_wf_n (gd_bs_wf g t (gd_n g))
      have sll : gd_ll (gd_bs g t (gd_n g)).2 (gd_n g) = gd_ll g (gd_n g) := gd_ll_congr _ (sne 131 (by omega) (by omega)) (sne 129 (by omega) (by omega))
      generalize hs : (gd_bs g t (gd_n g)).2 = s at hQ sne s117 snn sll
      have hl1 : (gd_bs g t (gd_n g)).1 = gd_ll g (gd_n g) := gd_bs_l g t (gd_n g)
      have hbm : gd_bm g t = gd_b3 (gd_b2 s (gd_ll g (gd_n g))) := by unfold gd_bm; rw [hs, hl1]
      have hbo : gd_bo g t = gd_out s (gd_ll g (gd_n g)) := by unfold gd_bo; rw [hs, hl1]
      have hos : gd_o s = gd_out s (gd_ll g (gd_n g)) := by unfold gd_o gd_out; rw [snn, sll]
      -- the minute's last part
      have last : ∀ (mm : gw_Mem) (y : Option gw_SV), gc_Q s mm b → gc_fw b m mm → mm b 5 = g 117 29 → mm b 6 = g 117 30 → mm b 9 = (if gd_ll g (gd_n g) = 1000 then -1 else gd_ll g (gd_n g)) →
          gw_G M_X10_closeMinute 12 (fun r m' => r = none ∧ gc_Z (gd_bh g t) m' b ∧ gc_fw b m m') Γ 166 [some (gR b), some (gI t), some (gI (if g 117 0 ≤ g 117 16 then 0 else 1)), some (gI (gd_n g : Int)), y] [] mm := by
        intro mm y hQ hf e5 e6 e9
        apply r_X10_closeMinute_166 b hb _ _ _ _ _ (by decide)
        have c9 : gc_9 s mm b := by unfold gc_9; rw [snn, sll]; exact e9
        have h4 : mm b 4 = g 117 16 := by rw [hQ.2.2.2.2.2.2.1, s117]
        refine gw_CI.eq (sp_X10_out b hb s mm hQ.1 hQ.2.1 hQ.2.2.2.2.2.2.1 c9) rfl ?_
        -- the golden state at the end of the minute
        have bno : ∀ o : Nat, o ≠ 117 → o ≠ 135 → gd_bh g t o = s o := by
          intro o h1 h2
          rw [gd_bh_ne g t h2, hbm]
          unfold gd_b3 gd_b2
          rw [gw_up_ne h1, gw_up_ne h1]
        have bnj : ∀ j : Int, j ≠ 21 → j ≠ 30 → gd_bh g t 117 j = s 117 j := by
          intro j h1 h2
          rw [gd_bh_ne g t (by omega), hbm]
          unfold gd_b3 gd_b2
          rw [gw_up_at, if_neg h1, gw_up_at, if_neg h2]
        have b30 : gd_bh g t 117 30 = (if gd_o s ≤ s 117 30 then s 117 30 else gd_o s) := by
          rw [gd_bh_ne g t (by omega), hbm, hos]
          unfold gd_b3 gd_b2
          rw [gw_up_at, if_neg (by omega), gw_up_at, if_pos rfl]
        have hrs := gd_ll_rng hQ.1 hQ.2.1 (gd_n s) (by rw [snn, s117]; omega)
        rw [snn, sll, s117] at hrs
        have s122 : s 122 = g 122 := sne 122 (by omega) (by omega)
        have b21 : gd_bh g t 117 21 = (if g 122 4 < gd_o s then 0 else gw_w (s 117 21 + 1)) := by
          rw [gd_bh_ne g t (by omega), hbm]
          have n2 : gd_near (gd_b2 s (gd_ll g (gd_n g))) (gd_n (gd_b2 s (gd_ll g (gd_n g)))) = gd_near s (gd_n g) := by
            have e : gd_n (gd_b2 s (gd_ll g (gd_n g))) = gd_n g := by rw [← snn]; unfold gd_b2; exact gd_wf_n (gd_wf_uf (gd_wf_rfl s) (by omega) _)
            rw [e]
            refine gw_sum_congr (n := gd_n g) (fun i _ => ?_)
            show gd_nr (gd_b2 s (gd_ll g (gd_n g))) i 1 = gd_nr s i 1
            unfold gd_nr gd_b2
            simp (disch := omega) only [gw_up_ne, gw_up_at]
            rw [if_neg (show ¬ ((16 : Int) = 30) by omega)]
          have a2 : gd_alive (gd_b2 s (gd_ll g (gd_n g))) (gd_n (gd_b2 s (gd_ll g (gd_n g)))) = gd_alive s (gd_n g) := by
            have e : gd_n (gd_b2 s (gd_ll g (gd_n g))) = gd_n g := by rw [← snn]; unfold gd_b2; exact gd_wf_n (gd_wf_uf (gd_wf_rfl s) (by omega) _)
            rw [e]
            exact gd_alive_congr (gd_n g) (fun i _ => by unfold gd_b2; rw [gw_up_ne (by omega)])
          have e21 : gd_b2 s (gd_ll g (gd_n g)) 117 21 = s 117 21 := by unfold gd_b2; rw [gw_up_at, if_neg (by omega)]
          unfold gd_b3
          rw [gw_up_at, if_pos rfl, n2, a2, e21]
          have hiff := hrs.2
          rw [s122] at hiff
          have ho : gd_o s = if gd_ll g (gd_n g) = 1000 then -4 else g 117 16 - gd_ll g (gd_n g) := by
            unfold gd_o
            rw [snn, sll, s117]
            split
            · rfl
            · rw [gw_w_id (by omega)]
          by_cases hq : gd_near s (gd_n g) = gd_alive s (gd_n g)
          · have z := hiff.mp hq
            rw [if_pos hq, ho, if_neg]
            split <;> omega
          · have z : ¬ (gd_ll g (gd_n g) = 1000 ∨ g 117 16 - gd_ll g (gd_n g) ≤ g 122 4) := fun w => hq (hiff.mpr w)
            rw [if_neg hq, ho, if_pos]
            split <;> omega
        have hw2 : mm (b + 2) (g 117 16) = gd_wl s 0 (g 117 16) := hQ.2.2.1.2.1 0 (by omega) _ (by omega)
        have hmax : max (mm b 6) (gd_o s) = gd_bh g t 117 30 := by
          rw [b30, e6, s117]
          split <;> omega
        rw [hmax]
        generalize hm1 : gw_up mm b 6 (gd_bh g t 117 30) = m1
        have m1o : ∀ o : Nat, o ≠ b → m1 o = mm o := fun o ho => by rw [← hm1, gw_up_ne ho]
        have m1j : ∀ j : Int, j ≠ 6 → m1 b j = mm b j := fun j hj => by rw [← hm1, gw_up_at, if_neg hj]
        have m16 : m1 b 6 = gd_bh g t 117 30 := by rw [← hm1, gw_up_at, if_pos rfl]
        -- the golden state with what is at the stop as it was
        have fin : ∀ m2 : gw_Mem, (∀ o : Nat, o ≠ b + 11 → m2 o = m1 o) → (∀ j : Int, j ≠ 5 → m2 (b + 11) j = m1 (b + 11) j) → (0 < gd_wl s 0 (g 117 16) → m2 (b + 11) 5 = gd_bh g t 117 21) → gc_Z (gd_bh g t) m2 b ∧ gc_fw b m m2 := by
          intro m2 k1 k2 k3
          have hnn : gd_n (gd_bh g t) = gd_n g := gd_wf_n (gd_bh_wf g t)
          have hll : gd_ll (gd_bh g t) (gd_n g) = gd_ll g (gd_n g) := by rw [← sll]; exact gd_ll_congr _ (bno 131 (by omega) (by omega)) (bno 129 (by omega) (by omega))
          -- first 117 30 and the film, then 117 21
          have hQ1 : gc_Q (gw_up (gd_bh g t) 117 21 (s 117 21)) m1 b := by
            refine gc_Q_irr hQ (fun o h1 h2 => by rw [gw_up_ne h1]; exact bno o h1 h2) (fun j h1 h2 => ?_) m1o (fun j hj => m1j j (by omega))
            rw [gw_up_at]
            split
            · rename_i e; rw [e]
            · rename_i e; exact bnj j e h2
          have hQ2 : gc_Q (gd_bh g t) m2 b := by
            have hH1 := hQ1.2.2.2.2.2.2
            refine gc_Q_h hQ1 (fun o h1 => by rw [gw_up_ne h1]) (fun j hj => by rw [gw_up_at, if_neg (by omega)]) k1 ?_
            have es : gd_sh (gw_up (gd_bh g t) 117 21 (s 117 21)) = gd_sh (gd_bh g t) := gd_sh_congr (by rw [gw_up_at, if_neg (by omega)]) (by rw [gw_up_at, if_neg (by omega)]) (by rw [gw_up_at, if_neg (by omega)]) (gw_up_ne (by omega)) (gw_up_ne (by omega))
            have ew : ∀ k x : Int, gd_wl (gw_up (gd_bh g t) 117 21 (s 117 21)) k x = gd_wl (gd_bh g t) k x := fun k x => gd_wl_pq (gd_pq_wf (gd_wf_uf (gd_wf_rfl _) (by omega) _)) k x
            have ws : gd_wl (gd_bh g t) 0 (g 117 16) = gd_wl s 0 (g 117 16) := by
              refine gd_wl_pq ⟨fun o ha => bno o (by omega) (by omega), bnj 0 (by omega) (by omega), bnj 6 (by omega) (by omega)⟩ 0 _
            unfold gc_H at hH1 ⊢
            rw [es, ew] at hH1
            simp only [gw_up_at] at hH1
            rw [k1 b (by omega), k2 0 (by omega), k2 2 (by omega), k2 3 (by omega), k2 4 (by omega), k2 1 (by omega)]
            refine ⟨hH1.1, hH1.2.1, hH1.2.2.1, hH1.2.2.2.1, hH1.2.2.2.2.1, fun hp => ⟨(hH1.2.2.2.2.2 hp).1, k3 ?_⟩⟩
            rw [bnj 16 (by omega) (by omega), s117, ws] at hp
            exact hp
          refine ⟨⟨hQ2, ?_, ?_, ?_⟩, fun o ho => ?_⟩
          · rw [k1 b (by omega), m1j 5 (by omega), e5, bnj 29 (by omega) (by omega), s117]
          · rw [k1 b (by omega), m16]
          · unfold gc_9
            rw [hnn, hll, k1 b (by omega), m1j 9 (by omega)]
            exact e9
          · rw [k1 o (by omega), m1o o (by omega)]
            exact hf o ho
        rw [m1j 4 (by omega), h4, m1o (b + 2) (by omega), hw2]
        refine ⟨gw_inm (by omega) (by omega), fun z => ⟨rfl, fin m1 (fun _ _ => rfl) (fun _ _ => rfl) (fun w => absurd w (by omega))⟩, fun z => ?_⟩
        have c91 : gc_9 s m1 b := by unfold gc_9; rw [m1j 9 (by omega)]; exact c9
        refine gw_CI.eq (sp_X10_out b hb s m1 hQ.1 hQ.2.1 (by rw [m1j 4 (by omega)]; exact hQ.2.2.2.2.2.2.1) c91) rfl ⟨rfl, fin _ (fun o ho => gw_up_ne ho) (fun j hj => by rw [gw_up_at, if_neg hj]) (fun w => ?_)⟩
        rw [gw_up_at, if_pos rfl, b21, m1o (b + 10) (by omega), m1o (b + 11) (by omega), hQ.2.2.1.2.2.2.2 4 (by omega), s122]
        have hB := (hQ.2.2.2.2.2.2.2.2.2.2.2 (by rw [s117]; exact w)).2
        rw [hB]
      by_cases hu : g 117 0 ≤ g 117 16
      · have x0 : ((if g 117 0 ≤ g 117 16 then 0 else 1 : Int)) = 0 := if_pos hu
        rw [x0] at last ⊢
        refine ⟨fun _ => ⟨fun z => ?_, fun z => ?_⟩, fun z => absurd rfl z⟩
        · refine last mm y hQ hf ?_ (by rw [e6, h6]) e9
          rw [← h5, if_neg (fun w => by omega), e5]
        · have hup : (if g 117 0 ≤ g 117 16 ∧ m b 5 < 0 then t else m b 5) = t := if_pos ⟨hu, by omega⟩
          refine last _ y ?_ (fun o ho => by rw [gw_up_ne (by omega)]; exact hf o ho) ?_ (by rw [gw_up_at, if_neg (by omega), e6, h6]) (by rw [gw_up_at, if_neg (by omega)]; exact e9)
          · exact gc_Q_irr hQ (fun _ _ _ => rfl) (fun _ _ _ => rfl) (fun o ho => gw_up_ne ho) (fun j hj => by rw [gw_up_at, if_neg (by omega)])
          · rw [gw_up_at, if_pos rfl, ← h5, hup]
      · have x1 : ((if g 117 0 ≤ g 117 16 then 0 else 1 : Int)) = 1 := if_neg hu
        rw [x1] at last ⊢
        refine ⟨fun z => absurd z (by omega), fun _ => last mm y hQ hf ?_ (by rw [e6, h6]) e9⟩
        rw [← h5, if_neg (fun w => hu w.1), e5]
    | succ j ih =>
      intro i mm y hi hQ hf e5 e6 e9
      apply r_X10_closeMinute_27 b hb _ _ _ _ _ (by decide)
      have sne := gd_bs_ne g t i
      have s117 : (gd_bs g t i).2 117 = g 117 := sne 117 (by omega) (by omega)
      have hij : 0 ≤ (i : Int) ∧ (i : Int) < (gd_bs g t i).2 117 6 := by rw [s117]; omega
      have hin : gw_in (i : Int) 10 := gw_inm (by omega) (by omega)
      have ro := gc_ro hQ.2.2.2.1 hij
      rw [sne 129 (by omega) (by omega), sne 131 (by omega) (by omega)] at ro
      rw [hQ.2.2.1.2.2.1, s117, ro.2.2.2.2.2]
      have hr := gd_ll_rng hJ hV i (by omega)
      have hpl := (hV.2.1 i (by omega)).1
      refine ⟨fun z => absurd z (by omega), fun _ => ⟨hin, fun h1 => ?_, fun h1 => ⟨hin, hin, hin, hin, fun _ => hin, fun _ _ => hin, hin, ?_⟩⟩⟩
      · apply r_X10_closeMinute_144 b hb _ _ _ _ _ (by decide)
        rw [gw_w1 (by omega)]
        have e : gd_bs g t (i + 1) = gd_bs g t i := by
          rw [gd_bs, if_neg]
          rw [gd_lostz, sne 131 (by omega) (by omega)]
          omega
        refine ih (i + 1) mm _ (by omega) (by rw [e]; exact hQ) hf e5 e6 ?_
        rw [gd_ll_s, if_neg (show ¬ g 131 (i : Int) < 0 by omega)]
        exact e9
      · apply r_X10_closeMinute_144 b hb _ _ _ _ _ (by decide)
        rw [gw_w1 (by omega)]
        have e : (gd_bs g t (i + 1)).2 = gd_br (gd_bs g t i).2 i t := by
          rw [gd_bs, if_pos]
          rw [gd_lostz, sne 131 (by omega) (by omega)]
          omega
        simp (disch := omega) only [gw_up_ne, gw_up_at]
        rw [if_neg (show ¬ ((4 : Int) = 9) by omega), e9, ro.1, ro.2.2.2.1, ro.2.2.2.2.1, hQ.2.2.1.1, hQ.2.2.2.2.2.2.1, s117]
        have e9' : (if 0 ≤ (if gd_ll g i = 1000 then -1 else gd_ll g i) then min (if gd_ll g i = 1000 then -1 else gd_ll g i) (g 129 (i : Int)) else g 129 i) = (if gd_ll g (i + 1) = 1000 then -1 else gd_ll g (i + 1)) := by
          rw [gd_ll_s, if_pos (show g 131 (i : Int) < 0 by omega)]
          repeat' split
          all_goals omega
        rw [e9']
        have f1 : (if (if g 117 0 ≤ g 117 16 then (0 : Int) else 1) = 0 then (0 : Int) else if g 129 (i : Int) = g 117 16 then 1 else 0) = (if g 129 (i : Int) = g 117 16 then (if g 117 0 ≤ g 117 16 then 0 else 1) else 0) := by
          repeat' split
          all_goals first | rfl | omega
        have f2 : (if 0 ≤ (gd_bs g t i).2 134 i then (gd_bs g t i).2 134 i else if g 129 (i : Int) = g 117 0 then t else (gd_bs g t i).2 134 i) = (if g 129 (i : Int) = g 117 0 then (if 0 ≤ (gd_bs g t i).2 134 i then (gd_bs g t i).2 134 i else t) else (gd_bs g t i).2 134 i) := by
          repeat' split
          all_goals first | rfl | omega
        rw [f1, f2]
        have hbr : gd_br (gd_bs g t i).2 i t = gw_up (gw_up (gd_bs g t i).2 133 i (gw_w ((gd_bs g t i).2 133 i + (if g 129 (i : Int) = g 117 16 then (if g 117 0 ≤ g 117 16 then 0 else 1) else 0)))) 134 i (if g 129 (i : Int) = g 117 0 then (if 0 ≤ (gd_bs g t i).2 134 i then (gd_bs g t i).2 134 i else t) else (gd_bs g t i).2 134 i) := by
          unfold gd_br
          rw [sne 129 (by omega) (by omega), s117]
        refine ih (i + 1) _ _ (by omega) ?_ ?_ ?_ ?_ ?_
        · rw [e, hbr]
          have q1 := gc_Q_irr (m' := gw_up mm b 9 (if gd_ll g (i + 1) = 1000 then -1 else gd_ll g (i + 1))) hQ (fun _ _ _ => rfl) (fun _ _ _ => rfl) (fun o ho => gw_up_ne ho) (fun j hj => by rw [gw_up_at, if_neg (by omega)])
          have q2 := gc_Q_r q1 (o := 133) (by omega) (by omega) i (gw_w ((gd_bs g t i).2 133 i + (if g 129 (i : Int) = g 117 16 then (if g 117 0 ≤ g 117 16 then 0 else 1) else 0))) (gd_V_up q1.2.1 (by omega) _ _)
          exact gc_Q_r q2 (o := 134) (by omega) (by omega) i _ (gd_V_up q2.2.1 (by omega) _ _)
        · intro o ho
          rw [gw_up_ne (by omega), gw_up_ne (by omega), gw_up_ne (by omega)]
          exact hf o ho
        · simp (disch := omega) only [gw_up_ne, gw_up_at]; rw [if_neg (by omega)]; exact e5
        · simp (disch := omega) only [gw_up_ne, gw_up_at]; rw [if_neg (by omega)]; exact e6
        · simp (disch := omega) only [gw_up_ne, gw_up_at]; rw [if_pos trivial]
  apply r_X10_closeMinute_0 b hb _ _ (by decide)
  rw [hL.1, hH.1]
  refine loop (gd_n g) 0 _ none (by omega) ?_ (fun o ho => by rw [gw_up_ne (by omega)]) (by rw [gw_up_at, if_neg (by omega)]) (by rw [gw_up_at, if_neg (by omega)]) (by rw [gw_up_at, if_pos rfl]; rfl)
  exact gc_Q_irr (g := g) (m := m) ⟨hJ, hV, hL, hR, ht, h8, hH⟩ (fun _ _ _ => rfl) (fun _ _ _ => rfl) (fun o ho => gw_up_ne ho) (fun j hj => by rw [gw_up_at, if_neg (by omega)])
