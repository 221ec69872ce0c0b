/-! the class: a walk is laid and begun -/
theorem sp_X10_load (b : Nat) (hb : gw_isWalk b) (g m : gw_Mem) (hJ : gd_JP g) (hP : gc_P g m 4) : gw_SpecV M_X10_load 13 [gR b, gR 4] m (fun m' => gc_L g m' b ∧ ∀ o : Nat, ¬ (b + 1 ≤ o ∧ o ≤ b + 10) → m' o = m o) := by
  refine gw_intro pl_X10_load rfl (fun Γ => ?_)
  have hb65 := gw_walk65 hb
  have hn := hJ.2.2.2.2.1
  refine r_X10_load_0 b hb 4 (by simp [gw_isPlan]) m (by decide) ?_
  rw [hP.1]
  refine gw_CV.of (sp_X4_lay b hb g m hJ hP) rfl (fun m1 _ h1 => ?_)
  obtain ⟨l1, l2, l3⟩ := h1
  refine gw_CV.eq (sp_X5_take (b + 6) (4 + 14) (gw_walkQ hb) (by simp [gw_isPeople]) m1) rfl ⟨rfl, ?_, fun o ho => ?_⟩
  · have p18 : m1 18 = m 18 := l3 18 (by omega)
    have p19 : m1 19 = m 19 := l3 19 (by omega)
    have p20 : m1 20 = m 20 := l3 20 (by omega)
    have p21 : m1 21 = m 21 := l3 21 (by omega)
    have p22 : m1 22 = m 22 := l3 22 (by omega)
    unfold gc_ptake
    have hk : ∀ j : Int, 0 ≤ j ∧ j < g 117 6 → m 19 j = g 123 j ∧ m 20 j = g 124 j ∧ m 21 j = g 125 j := hP.2.2.2.2.2.1
    have hr : ∀ j : Int, 0 ≤ j ∧ j < 5 → m 22 j = g 122 j := hP.2.2.2.2.2.2.1
    have h6 : m 18 0 = g 117 6 := hP.2.2.2.2.1
    refine ⟨?_, fun k hk3 x hx => ?_, ?_, fun j hj => ⟨?_, ?_, ?_⟩, fun j hj => ?_⟩
    · simp (disch := omega) only [gw_cp_ne, gw_up_ne]; exact l1
    · simp (disch := omega) only [gw_cp_ne, gw_up_ne]; exact l2 k hk3 x hx
    · simp (disch := omega) only [gw_cp_ne, gw_up_at]
      rw [if_pos trivial]
      show m1 18 0 = _
      rw [p18]; exact h6
    · show gw_cp _ _ _ _ _ _ (b + 6 + 1) j = _
      simp (disch := omega) only [gw_cp_ne, gw_cpa]
      rw [if_pos (by omega), gw_up_ne (by omega), show 0 + (j - 0) = j by omega]
      show m1 19 j = _
      rw [p19]; exact (hk j hj).1
    · show gw_cp _ _ _ _ _ _ (b + 6 + 2) j = _
      simp (disch := omega) only [gw_cp_ne, gw_cpa]
      rw [if_pos (by omega), gw_up_ne (by omega), show 0 + (j - 0) = j by omega]
      show m1 20 j = _
      rw [p20]; exact (hk j hj).2.1
    · show gw_cp _ _ _ _ _ _ (b + 6 + 3) j = _
      simp (disch := omega) only [gw_cp_ne, gw_cpa]
      rw [if_pos (by omega), gw_up_ne (by omega), show 0 + (j - 0) = j by omega]
      show m1 21 j = _
      rw [p21]; exact (hk j hj).2.2
    · rw [gw_cpa, if_pos (by omega), show 0 + (j - 0) = j by omega]
      simp (disch := omega) only [gw_cp_ne, gw_up_ne]
      show m1 22 j = _
      rw [p22]; exact hr j hj
  · unfold gc_ptake
    rw [gw_cp_ne (by omega), gw_cp_ne (by omega), gw_cp_ne (by omega), gw_cp_ne (by omega), gw_up_ne (by omega), l3 o (by omega)]
theorem gc_L_rng {g m : gw_Mem} {b : Nat} (hJ : gd_JP g) (hL : gc_L g m b) : gc_tl m (b + 6) (gd_n g) < 0 ∧ gd_tl g (gd_n g) < 0 ∨ 0 ≤ gd_tl g (gd_n g) ∧ gc_tl m (b + 6) (gd_n g) = gd_tl g (gd_n g) := by
  have hn := gd_n_cast hJ
  have a := gc_tl_rng m (b + 6) (gd_n g)
  have c := gd_tl_rng g (gd_n g)
  have e : ∀ j : Int, 0 ≤ j ∧ j < g 117 6 → m (b + 6 + 1) j = g 123 j := fun j hj => (hL.2.2.2.1 j hj).1
  by_cases h : gd_tl g (gd_n g) < 0
  · left
    refine ⟨(gc_tl_neg _ _ _).mpr (fun j hj => ?_), h⟩
    rw [e j (by omega)]
    exact (gd_tl_neg _ _).mp h j hj
  · right
    refine ⟨by omega, ?_⟩
    have h2 : ¬ gc_tl m (b + 6) (gd_n g) < 0 := fun z => by
      have h3 := (gc_tl_neg _ _ _).mp z (gd_tl g (gd_n g)).toNat (by omega)
      rw [Int.toNat_of_nonneg (by omega), e _ (by omega)] at h3
      exact h3 (c.2.2.2 (by omega))
    have h4 := a.2.2 (by omega)
    rw [e _ (by omega)] at h4
    exact hJ.2.2.2.2.2.2.1 _ _ (by omega) (by omega) h4 (c.2.2.2 (by omega))
/-- what a walk begins with -/
theorem gd_beg_at (g : gw_Mem) : (∀ o : Nat, ¬ (129 ≤ o ∧ o ≤ 134) → o ≠ 117 → gd_beg g o = g o) ∧ (∀ o : Nat, 129 ≤ o ∧ o ≤ 134 → ∀ j : Int, 0 ≤ j ∧ j < gd_n g → gd_beg g o j = gd_iv o) ∧ (∀ j : Int, 16 ≤ j ∧ j ≤ 22 → gd_beg g 117 j = 0) ∧ gd_beg g 117 29 = -4 ∧ gd_beg g 117 30 = -4 ∧ gd_beg g 117 0 = g 117 0 ∧ gd_beg g 117 6 = g 117 6 := by
  have hw := gd_beg_wf g
  have s : ∀ o : Nat, o ≠ 117 → gd_st0 g o = g o := by
    intro o ho
    unfold gd_st0
    simp (disch := omega) only [gw_up_ne]
  refine ⟨fun o h1 h2 => ?_, fun o h1 j h2 => ?_, fun j hj => ?_, ?_, ?_, hw.2 0 (by omega), hw.2 6 (by omega)⟩
  · funext j
    unfold gd_beg
    rw [gd_ini_at, if_neg (fun z => h1 z.1), s o h2]
  · unfold gd_beg
    rw [gd_ini_at, if_pos (And.intro h1 h2)]
  · unfold gd_beg
    rw [gd_ini_at, if_neg (by omega)]
    unfold gd_st0
    simp only [gw_up_at]
    have hc : j = 16 ∨ j = 17 ∨ j = 18 ∨ j = 19 ∨ j = 20 ∨ j = 21 ∨ j = 22 := by omega
    rcases hc with rfl | rfl | rfl | rfl | rfl | rfl | rfl <;> simp
  · unfold gd_beg
    rw [gd_ini_at, if_neg (by omega)]
    unfold gd_st0
    simp [gw_up_at]
  · unfold gd_beg
    rw [gd_ini_at, if_neg (by omega)]
    unfold gd_st0
    simp [gw_up_at]
theorem gd_V_beg {g : gw_Mem} (hJ : gd_JP g) : gd_V (gd_beg g) := by
  obtain ⟨_, a2, a3, _, _, a6, a7⟩ := gd_beg_at g
  have hn := gd_n_cast hJ
  have he := hJ.1
  unfold gd_V
  rw [a3 16 (by omega), a3 22 (by omega), a6, a7]
  refine ⟨by omega, fun j hj => ?_, by omega, fun k hk => Or.inl ?_⟩
  · rw [a2 129 (by omega) j (by omega), a2 130 (by omega) j (by omega)]
    simp [gd_iv]
  · have z := gd_bit00 ⟨k.toNat, by omega⟩
    rw [show (((⟨k.toNat, by omega⟩ : Fin 8).val : Nat) : Int) = k from by show ((k.toNat : Nat) : Int) = k; omega] at z
    exact z
theorem sp_X10_start (b : Nat) (hb : gw_isWalk b) (g m : gw_Mem) (hJ : gd_JP g) (hL : gc_L g m b) : gw_SpecV M_X10_start 12 [gR b] m (fun m' => gc_Y (gd_beg g) m' b ∧ gc_fw b m m') := by
  refine gw_intro pl_X10_start rfl (fun Γ => ?_)
  have hn := gd_n_cast hJ
  obtain ⟨a1, a2, a3, a4, a5, a6, a7⟩ := gd_beg_at g
  have hwf := gd_beg_wf g
  have hJ' := gd_wf_JP hwf hJ
  apply r_X10_start_0 b hb
  refine gw_CV.eq (sp_X2_clear (b + 11) (gw_walkH hb) m) rfl ?_
  generalize hm1 : gw_up (gw_up (gw_up (gw_up (gw_up (gw_up m (b + 11) 0 0) (b + 11) 1 0) (b + 11) 2 0) (b + 11) 3 0) (b + 11) 4 0) (b + 11) 5 0 = m1
  have m1o : ∀ o : Nat, o ≠ b + 11 → m1 o = m o := by
    intro o ho
    rw [← hm1]
    simp (disch := omega) only [gw_up_ne]
  have m1h : ∀ j : Int, 0 ≤ j ∧ j ≤ 5 → m1 (b + 11) j = 0 := by
    intro j hj
    rw [← hm1]
    simp only [gw_up_at]
    have hc : j = 0 ∨ j = 1 ∨ j = 2 ∨ j = 3 ∨ j = 4 ∨ j = 5 := by omega
    rcases hc with rfl | rfl | rfl | rfl | rfl | rfl <;> simp
  generalize hm2 : gw_up (gw_up (gw_up m1 b 4 0) b 5 (-4)) b 6 (-4) = m2
  have m2o : ∀ o : Nat, o ≠ b → m2 o = m1 o := fun o ho => by rw [← hm2, gw_up_ne ho, gw_up_ne ho, gw_up_ne ho]
  have hL2 : gc_L g m2 b := gc_L_m hL (fun o _ _ => by rw [m2o o (by omega), m1o o (by omega)])
  have h6 : m2 (b + 6) 0 = g 117 6 := hL2.2.2.1
  refine gw_CI.eq (sp_X5_tailNumber (b + 6) (gw_walkQ hb) m2 (by omega)) rfl ?_
  have hnn : (m2 (b + 6) 0).toNat = gd_n g := by rw [h6]; rfl
  rw [hnn]
  have htl := gc_L_rng hJ hL2
  generalize hm3 : gw_up (gw_up (gw_up m2 b 7 (gc_tl m2 (b + 6) (gd_n g))) b 8 0) b 9 (if (gw_up (gw_up m2 b 7 (gc_tl m2 (b + 6) (gd_n g))) b 8 0) (b + 6) 0 ≤ 0 then -1 else 0) = m3
  have m3o : ∀ o : Nat, o ≠ b → m3 o = m1 o := fun o ho => by rw [← hm3, gw_up_ne ho, gw_up_ne ho, gw_up_ne ho, m2o o ho]
  have k4 : m3 b 4 = 0 := by rw [← hm3, ← hm2]; simp [gw_up_at]
  have k5 : m3 b 5 = -4 := by rw [← hm3, ← hm2]; simp [gw_up_at]
  have k6 : m3 b 6 = -4 := by rw [← hm3, ← hm2]; simp [gw_up_at]
  have k7 : m3 b 7 = gc_tl m2 (b + 6) (gd_n g) := by rw [← hm3]; simp [gw_up_at]
  have k8 : m3 b 8 = 0 := by rw [← hm3]; simp [gw_up_at]
  have k9 : m3 b 9 = if g 117 6 ≤ 0 then -1 else 0 := by
    rw [← hm3, gw_up_at, if_pos rfl, gw_up_ne (by omega), gw_up_ne (by omega), h6]
  have hal : ∀ n : Nat, (n : Int) ≤ g 117 6 → gd_alive (gd_beg g) n = n ∧ gd_ll (gd_beg g) n = if n = 0 then 1000 else 0 := by
    intro n
    induction n with
    | zero => exact fun _ => ⟨rfl, rfl⟩
    | succ n ih =>
      intro hle
      obtain ⟨i1, i2⟩ := ih (by omega)
      have c : gd_alive (gd_beg g) (n + 1) = gd_alive (gd_beg g) n + (if gd_lost (gd_beg g) n = 0 then 1 else 0) := rfl
      have e131 : gd_beg g 131 (n : Int) = -4 := a2 131 (by omega) n (by omega)
      have e129 : gd_beg g 129 (n : Int) = 0 := a2 129 (by omega) n (by omega)
      rw [c, gd_ll_s, i1, i2, e131, e129]
      simp only [gd_lostz, e131]
      rw [if_pos (show (-4 : Int) < 0 by omega), if_pos (show (-4 : Int) < 0 by omega), if_neg (show ¬ n + 1 = 0 by omega)]
      refine ⟨by omega, ?_⟩
      repeat' split
      all_goals omega
  have key : ∀ (j i : Nat) (q : gw_Mem), i + j = gd_n g → (∀ o : Nat, ¬ (b + 12 ≤ o ∧ o ≤ b + 17) → q o = m3 o) → (∀ o : Nat, 129 ≤ o ∧ o ≤ 134 → ∀ k : Int, 0 ≤ k ∧ k < i → q (b + gd_cr o) k = gd_iv o) → gw_G M_X10_start 12 (fun r m' => r = none ∧ gc_Y (gd_beg g) m' b ∧ gc_fw b m m') Γ 61 [some (gR b), some (gI (i : Int))] [] q := by
    intro j
    induction j with
    | zero =>
      intro i q hi hf hq
      apply r_X10_start_61 b hb
      rw [hf (b + 6) (by omega), m3o (b + 6) (by omega), m1o (b + 6) (by omega), hL.2.2.1]
      refine ⟨fun _ => ⟨rfl, ?_, fun o ho => ?_⟩, fun z => absurd (by omega) z⟩
      · have ei : i = gd_n g := by omega
        have hnb : gd_n (gd_beg g) = gd_n g := gd_wf_n hwf
        refine ⟨⟨⟨hJ', gd_V_beg hJ, gc_L_m (gc_L_g hL (gd_pq_wf hwf)) (fun o _ _ => by rw [hf o (by omega), m3o o (by omega), m1o o (by omega)]), ?_, ?_, ?_, ?_⟩, ?_, ?_, ?_⟩, ?_⟩
        · intro o ho k hk
          rw [a7] at hk
          rw [hq o ho k (by omega), a2 o ho k (by omega)]
        · unfold gc_tn
          rw [hnb, gd_tl_congr (a1 123 (by omega) (by omega)), hf b (by omega), k7]
          exact htl
        · rw [hf b (by omega), k8, a7, hnb, (hal (gd_n g) (by omega)).1]
          omega
        · have es : ∀ x : Int, 16 ≤ x ∧ x ≤ 22 → gd_beg g 117 x = 0 := a3
          unfold gc_H
          rw [hf b (by omega), hf (b + 11) (by omega), m3o (b + 11) (by omega), k4, m1h 0 (by omega), m1h 1 (by omega), m1h 2 (by omega), m1h 3 (by omega), m1h 4 (by omega), m1h 5 (by omega), es 16 (by omega), es 17 (by omega), es 18 (by omega), es 19 (by omega), es 20 (by omega), es 21 (by omega)]
          refine ⟨rfl, rfl, rfl, rfl, rfl, fun hp => ⟨⟨fun _ => ?_, fun _ => rfl⟩, rfl⟩⟩
          have hw2 := (gd_wl_rng hJ' (k := 0) (by omega) 0).2.2.mp hp
          have hmk := gd_mk_rng hJ' (k := 0) (by omega) 0
          unfold gd_sh gd_sq
          rw [es 16 (by omega), es 22 (by omega), if_pos hw2.1, if_neg (by omega)]
          have z := gd_bit00 ⟨(gd_mk (gd_beg g) 0 0).toNat, by omega⟩
          rw [show (((⟨(gd_mk (gd_beg g) 0 0).toNat, by omega⟩ : Fin 8).val : Nat) : Int) = gd_mk (gd_beg g) 0 0 from by show (((gd_mk (gd_beg g) 0 0).toNat : Nat) : Int) = gd_mk (gd_beg g) 0 0; omega] at z
          rw [if_pos z]
          exact hw2.2
        · rw [hf b (by omega), k5, a4]
        · rw [hf b (by omega), k6, a5]
        · unfold gc_9
          rw [hnb, (hal (gd_n g) (by omega)).2, hf b (by omega), k9]
          repeat' split
          all_goals omega
        · unfold gd_W
          rw [a4, a3 16 (by omega), a6]
          have := hJ.1
          omega
      · rw [hf o (by omega), m3o o (by omega), m1o o (by omega)]
    | succ j ih =>
      intro i q hi hf hq
      apply r_X10_start_61 b hb
      rw [hf (b + 6) (by omega), m3o (b + 6) (by omega), m1o (b + 6) (by omega), hL.2.2.1]
      have hin : gw_in (i : Int) 10 := gw_inm (by omega) (by omega)
      refine ⟨fun z => absurd z (by omega), fun _ => ⟨hin, hin, hin, hin, hin, hin, ?_⟩⟩
      rw [gw_w1 (by omega)]
      refine ih (i + 1) _ (by omega) (fun o ho => ?_) (fun o ho k hk => ?_)
      · simp (disch := omega) only [gw_up_ne]
        exact hf o ho
      · have hc : o = 129 ∨ o = 130 ∨ o = 131 ∨ o = 132 ∨ o = 133 ∨ o = 134 := by omega
        have hold := hq o ho k
        have c29 : gd_cr 129 = 12 := rfl
        have c30 : gd_cr 130 = 13 := rfl
        have c31 : gd_cr 131 = 17 := rfl
        have c32 : gd_cr 132 = 14 := rfl
        have c33 : gd_cr 133 = 15 := rfl
        have c34 : gd_cr 134 = 16 := rfl
        by_cases e : k = i
        · subst e
          rcases hc with rfl | rfl | rfl | rfl | rfl | rfl <;> simp only [c29, c30, c31, c32, c33, c34] <;> simp (disch := omega) only [gw_up_ne, gw_up_at] <;> simp [gd_iv]
        · have hk2 := hold (by omega)
          rcases hc with rfl | rfl | rfl | rfl | rfl | rfl <;> simp only [c29, c30, c31, c32, c33, c34] at hk2 ⊢ <;> simp (disch := omega) only [gw_up_ne, gw_up_at] <;> rw [if_neg e] <;> exact hk2
  exact key (gd_n g) 0 m3 (by omega) (fun _ _ => rfl) (fun o ho k hk => by omega)
/-- nothing changes any more -/
def gd_ov (g : gw_Mem) : Prop := g 117 16 = g 117 0 ∧ (gd_ll g (gd_n g) = 1000 ∨ gd_ll g (gd_n g) = g 117 0)
theorem sp_X10_isOver (b : Nat) (hb : gw_isWalk b) (g m : gw_Mem) (h : gc_Z g m b) : gw_SpecI M_X10_isOver 10 [gR b] m (fun r m' => (r = 0 ∧ ¬ gd_ov g ∨ r = 1 ∧ gd_ov g) ∧ m' = m) := by
  refine gw_intro pl_X10_isOver rfl (fun Γ => ?_)
  obtain ⟨hQ, _, _, h9⟩ := h
  have hJ := hQ.1
  have hn := gd_n_cast hJ
  have he := hJ.1
  have hr := (gd_ll_rng hJ hQ.2.1 (gd_n g) (by omega)).1
  apply r_X10_isOver_0 b hb
  rw [hQ.2.2.1.1, hQ.2.2.2.2.2.2.1, h9]
  refine ⟨_, rfl, ?_, rfl⟩
  unfold gd_ov
  by_cases h1 : g 117 16 = g 117 0
  · rw [if_pos h1]
    by_cases h2 : gd_ll g (gd_n g) = 1000
    · rw [if_pos h2, if_pos (by omega)]
      exact Or.inr ⟨rfl, h1, Or.inl h2⟩
    · rw [if_neg h2, if_neg (by omega)]
      by_cases h3 : gd_ll g (gd_n g) = g 117 0
      · rw [if_pos h3]; exact Or.inr ⟨rfl, h1, Or.inr h3⟩
      · rw [if_neg h3]; exact Or.inl ⟨rfl, fun z => z.2.elim h2 h3⟩
  · rw [if_neg h1]; exact Or.inl ⟨rfl, fun z => h1 z.1⟩
