/-! the law: what is spoken -/
section GLC
variable {Γ : gw_Ga} {m : gw_Mem}
theorem gl_373 {g : gw_Mem} (hJ : gd_JP g) (hF : gp_F Γ.1 g 5 (gp_people Γ.1 7)) (w : gw_Mem) (hw : gd_walks g = w) (tail most : Int) (ht : tail < 0 ∨ 0 ≤ tail ∧ tail < 8 ∧ w 131 tail < 0) (hm : most ≤ w 117 30) (hR : gp_R g m) : ∀ (j k : Nat) (y10 y11 y12 y13 y14 y15 y16 y17 y18 y19 : Option gw_SV), k + j = (g 118 0).toNat → gw_G M_X13_law 60 gl_QR Γ 373 [some (gR 900), some (gR 0), some (gI 1), some (gI (gp_people Γ.1 7)), some (gI (gp_end Γ.1)), some (gR 117), some (gI tail), some (gI most), some (gI (gd_sp g k)), some (gI ((k : Int))), y10, y11, y12, y13, y14, y15, y16, y17, y18, y19] [] m := by
  have hnc := gd_n_cast hJ
  have em : g 118 0 = gp_marks Γ.1 0 := hF.2.1 0 (by omega)
  have mr := gp_marks_r Γ.1 0
  intro j
  induction j with
  | zero =>
    intro k y10 y11 y12 y13 y14 y15 y16 y17 y18 y19 hk
    apply r_X13_law_373
    refine gw_CIx.eqX rfl (sp_X13_marks _ 0 m) rfl ⟨fun _ => ?_, fun z => absurd (by omega) z⟩
    have ek : k = (g 118 0).toNat := by omega
    rw [ek]
    exact gl_433 hJ hF w hw tail most ht hm (gd_n g) 0 m _ _ _ _ _ _ _ hR (by omega)
  | succ j ih =>
    intro k y10 y11 y12 y13 y14 y15 y16 y17 y18 y19 hk
    apply r_X13_law_373
    have s0 := gd_sp_rng hJ k (by omega)
    have s1 := gd_sp_rng hJ (k + 1) (by omega)
    have es : gd_sp g (k + 1) = gd_sp g k + (if g 117 0 ≤ g 119 k then 0 else g 120 k) := rfl
    have he := hF.1
    have hk1 : 0 ≤ (k : Int) ∧ (k : Int) < g 118 0 := by omega
    have w1 : gw_w (gd_sp g k + 0) = gd_sp g k + 0 := gw_w_id (by omega)
    have w2 : gw_w ((k : Int) + 1) = ((k + 1 : Nat) : Int) := gw_w1 (by omega)
    refine gw_CIx.eqX rfl (sp_X13_marks _ 0 m) rfl ⟨fun z => absurd z (by omega), fun _ => ?_⟩
    have nx := fun y10 y11 y12 y13 y14 y15 y16 y17 y18 y19 => ih (k + 1) y10 y11 y12 y13 y14 y15 y16 y17 y18 y19 (by omega)
    by_cases c : g 117 0 ≤ g 119 (k : Int)
    · rw [if_pos c] at es
      have e3 : gd_sp g k + 0 = gd_sp g (k + 1) := by omega
      have ep := (hF.2.2.1 0 (k : Int) (by decide) hk1.1 hk1.2).1
      rw [Int.mul_zero, Int.zero_add] at ep
      rw [ep, he] at c
      refine gw_CIx.eqX rfl (sp_X13_mark _ 0 (k : Int) 0 (by decide) m) rfl ⟨fun _ => ?_, fun z => absurd c z⟩
      apply r_X13_law_410
      rw [w1, w2, e3]
      exact nx _ _ _ _ _ _ _ _ _ _
    · rw [if_neg c] at es
      have w3 : gw_w (gd_sp g k + g 120 (k : Int)) = gd_sp g k + g 120 (k : Int) := gw_w_id (by omega)
      have e3 : gd_sp g k + g 120 (k : Int) = gd_sp g (k + 1) := by omega
      have ep := hF.2.2.1 0 (k : Int) (by decide) hk1.1 hk1.2
      rw [Int.mul_zero, Int.zero_add] at ep
      rw [ep.1, he] at c
      refine gw_CIx.eqX rfl (sp_X13_mark _ 0 (k : Int) 0 (by decide) m) rfl ⟨fun z => absurd z c, fun _ => ?_⟩
      refine gw_CIx.eqX rfl (sp_X13_mark _ 0 (k : Int) 1 (by decide) m) rfl ?_
      apply r_X13_law_410
      rw [← ep.2, w3, w2, e3]
      exact nx _ _ _ _ _ _ _ _ _ _
end GLC
