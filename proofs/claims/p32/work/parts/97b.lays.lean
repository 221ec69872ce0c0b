/-! the law lays it -/
theorem sp_X13_lays (cx : gw_Cx) (m : gw_Mem) (h0 : gp_T gp_g0 m) : gw_SpecX cx M_X13_lays 20 [gR 0, gR 900, gI 7] m (fun r m' => r = 1 ∧ ∃ g : gw_Mem, gp_T g m' ∧ gp_F cx g 5 (gp_people cx 7)) := by
  refine gw_introC pl_X13_lays rfl (fun Γ hΓ => ?_)
  subst hΓ
  apply r_X13_lays_0
  have er := gp_end_r Γ.1
  have pr := gp_people_r Γ.1
  refine gw_CIx.eqX rfl (sp_X13_end _ m) rfl (gp_c_end h0 (gp_end Γ.1) (by omega) rfl (fun m1 h1 => ?_))
  have e40 : gp_g0 117 0 = 40 := by decide
  rw [if_pos e40]
  have M0 : gp_Mk Γ.1 (gw_up gp_g0 117 0 (gp_end Γ.1)) 0 0 := by
    refine ⟨by rw [gw_up_at, if_pos rfl], by rw [gw_up_at, if_neg (by omega)]; decide, fun q hq => ?_, fun q i hq a b => ?_⟩
    · rw [gw_up_ne (by omega), if_neg (by omega)]
      have : gp_g0 118 q = 0 := rfl
      rw [this]
      split <;> rfl
    · rw [gw_up_ne (by omega)] at b
      have : gp_g0 118 q = 0 := rfl
      omega
  -- the people
  have key3 : ∀ (j p : Nat) (y5 : Option gw_SV) (g q : gw_Mem), (p : Int) + j = gp_people Γ.1 7 → gp_T g q → gp_F Γ.1 g 5 p → gw_G M_X13_lays 20 (fun r m' => ∃ v, r = some (gI v) ∧ v = 1 ∧ ∃ g : gw_Mem, gp_T g m' ∧ gp_F Γ.1 g 5 (gp_people Γ.1 7)) Γ 140 [some (gR 0), some (gR 900), some (gI 7), some (gI 1), some (gI (p : Int)), y5] [] q := by
    intro j
    induction j with
    | zero =>
      intro p y5 g q hj hT hF
      apply r_X13_lays_140
      refine gw_CIx.eqX rfl (sp_X13_people _ 7 (by omega) q) rfl ⟨fun _ => ⟨gw_b1, 1, rfl, rfl, g, hT, ?_⟩, fun z => absurd (by omega) z⟩
      have e : (p : Int) = gp_people Γ.1 7 := by omega
      rw [← e]
      exact hF
    | succ j ih =>
      intro p y5 g q hj hT hF
      apply r_X13_lays_140
      have o1 := gp_one_r Γ.1 (p : Int)
      refine gw_CIx.eqX rfl (sp_X13_people _ 7 (by omega) q) rfl ⟨fun z => absurd z (by omega), fun _ => ⟨fun z => absurd z (by omega), fun _ => ?_⟩⟩
      refine gw_CIx.eqX rfl (sp_X13_one _ (p : Int) 0 (by omega) q) rfl (gw_CIx.eqX rfl (sp_X13_one _ (p : Int) 1 (by omega) q) rfl (gw_CIx.eqX rfl (sp_X13_one _ (p : Int) 2 (by omega) q) rfl ?_))
      have ee : (if gp_one Γ.1 (p : Int) 2 = 1 then (1 : Int) else 0) = gp_one Γ.1 (p : Int) 2 := by
        rcases o1.2.2 with e | e <;> rw [e] <;> decide
      rw [ee]
      refine gp_c_person hT _ _ _ o1.1 o1.2.1 o1.2.2 (gp_tl_no hF) (by have := hF.2.2.2.2.1; omega) rfl (fun m2 h2 => ?_)
      rw [if_pos hF.2.2.2.2.1, gw_w1 (by omega)]
      refine ih (p + 1) y5 _ m2 (by omega) h2 ?_
      have := gp_F_p (by omega) hF (e := gp_one Γ.1 (p : Int) 2) rfl
      exact this
  have key2 : ∀ (j w : Nat) (y5 : Option gw_SV) (g q : gw_Mem), w + j = 5 → gp_T g q → gp_F Γ.1 g w 0 → gw_G M_X13_lays 20 (fun r m' => ∃ v, r = some (gI v) ∧ v = 1 ∧ ∃ g : gw_Mem, gp_T g m' ∧ gp_F Γ.1 g 5 (gp_people Γ.1 7)) Γ 100 [some (gR 0), some (gR 900), some (gI 7), some (gI 1), some (gI (w : Int)), y5] [] q := by
    intro j
    induction j with
    | zero =>
      intro w y5 g q hj hT hF
      apply r_X13_lays_100
      refine ⟨fun _ => ?_, fun z => absurd (by omega) z⟩
      apply r_X13_lays_137
      have e5 : w = 5 := by omega
      subst e5
      obtain ⟨P, hP⟩ := gw_nat (show 0 ≤ gp_people Γ.1 7 by omega)
      exact key3 P 0 y5 g q (by omega) hT hF
    | succ j ih =>
      intro w y5 g q hj hT hF
      apply r_X13_lays_100
      have rr := gp_rule_r Γ.1 (w : Int) (by omega)
      refine ⟨fun z => absurd z (by omega), fun _ => ⟨fun z => absurd z (by omega), fun _ => ?_⟩⟩
      refine gw_CIx.eqX rfl (sp_X13_rule _ (w : Int) q) rfl (gp_c_rule0 hT (w : Int) _ ⟨by omega, rr.1, rr.2.1⟩ rfl (fun m2 h2 => ?_))
      have g0 : ¬ g 122 (w : Int) < 0 := by
        have r := hT.1.2.2.2.2.2.2.2.1
        have hw : w = 0 ∨ w = 1 ∨ w = 2 ∨ w = 3 ∨ w = 4 := by omega
        rcases hw with rfl | rfl | rfl | rfl | rfl
        · have := r.1.1; show ¬ g 122 0 < 0; omega
        · have := r.2.1.1; show ¬ g 122 1 < 0; omega
        · have := r.2.2.1.1; show ¬ g 122 2 < 0; omega
        · have := r.2.2.2.1.1; show ¬ g 122 3 < 0; omega
        · have := r.2.2.2.2.1; show ¬ g 122 4 < 0; omega
      rw [if_neg g0, gw_w1 (by omega)]
      exact ih (w + 1) y5 _ m2 (by omega) h2 (gp_F_r (by omega) hF)
  have key1 : ∀ (j k : Nat) (y5 : Option gw_SV) (g q : gw_Mem), k + j = 4 → gp_T g q → gp_Mk Γ.1 g k 0 → gw_G M_X13_lays 20 (fun r m' => ∃ v, r = some (gI v) ∧ v = 1 ∧ ∃ g : gw_Mem, gp_T g m' ∧ gp_F Γ.1 g 5 (gp_people Γ.1 7)) Γ 22 [some (gR 0), some (gR 900), some (gI 7), some (gI 1), some (gI (k : Int)), y5] [] q := by
    intro j
    induction j with
    | zero =>
      intro k y5 g q hj hT hM
      apply r_X13_lays_22
      refine ⟨fun _ => ?_, fun z => absurd (by omega) z⟩
      apply r_X13_lays_97
      have e4 : k = 4 := by omega
      subst e4
      exact key2 5 0 y5 g q (by omega) hT (gp_Mk_F hM)
    | succ j ih =>
      intro k y5 g q hj hT hM
      apply r_X13_lays_22
      refine ⟨fun z => absurd z (by omega), fun _ => ⟨fun z => absurd z (by omega), fun _ => ?_⟩⟩
      have mr := gp_marks_r Γ.1 (k : Int)
      have inner : ∀ (j2 i : Nat) (g q : gw_Mem), (i : Int) + j2 = gp_marks Γ.1 k → gp_T g q → gp_Mk Γ.1 g k i → gw_G M_X13_lays 20 (fun r m' => ∃ v, r = some (gI v) ∧ v = 1 ∧ ∃ g : gw_Mem, gp_T g m' ∧ gp_F Γ.1 g 5 (gp_people Γ.1 7)) Γ 35 [some (gR 0), some (gR 900), some (gI 7), some (gI 1), some (gI (k : Int)), some (gI (i : Int))] [] q := by
        intro j2
        induction j2 with
        | zero =>
          intro i g q hi hT hM
          apply r_X13_lays_35
          refine gw_CIx.eqX rfl (sp_X13_marks _ (k : Int) q) rfl ⟨fun _ => ?_, fun z => absurd (by omega) z⟩
          apply r_X13_lays_91
          rw [gw_w1 (by omega)]
          refine ih (k + 1) _ g q (by omega) hT ?_
          have e : (i : Int) = gp_marks Γ.1 k := by omega
          rw [e] at hM
          exact gp_Mk_n hM
        | succ j2 ih2 =>
          intro i g q hi hT hM
          apply r_X13_lays_35
          refine gw_CIx.eqX rfl (sp_X13_marks _ (k : Int) q) rfl ⟨fun z => absurd z (by omega), fun _ => ⟨fun z => absurd z (by omega), fun _ => ?_⟩⟩
          refine gw_CIx.eqX rfl (sp_X13_mark _ (k : Int) (i : Int) 0 (by omega) q) rfl (gw_CIx.eqX rfl (sp_X13_mark _ (k : Int) (i : Int) 1 (by omega) q) rfl ?_)
          have e8 : g 118 (k : Int) = i := by rw [hM.2.2.1 (k : Int) (by omega), if_neg (by omega), if_pos rfl]
          refine gp_c_mark hT (k : Int) _ _ (by omega) (gp_place_in Γ.1 (k : Int) (i : Int) (by omega)) (gp_len_r Γ.1 (k : Int) (i : Int)) (by omega) (fun a ha => ?_) rfl (fun m2 h2 => ?_)
          · rw [e8] at ha
            have hai : a < i := by omega
            rw [(hM.2.2.2 (k : Int) (a : Int) (by omega) (by omega) (by rw [e8]; omega)).1]
            exact gp_place_ne Γ.1 (k : Int) (a : Int) (i : Int) (by omega) (by omega) (by omega)
          · rw [if_pos e8, gw_w1 (by omega)]
            refine ih2 (i + 1) _ m2 (by omega) h2 ?_
            have := gp_Mk_s hT.1 hM (by omega) (by omega)
            exact this
      obtain ⟨N, hN⟩ := gw_nat mr.1
      exact inner N 0 g q (by omega) hT hM
  exact key1 4 0 none _ m1 (by omega) h1 M0
