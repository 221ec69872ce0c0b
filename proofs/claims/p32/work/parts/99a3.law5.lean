/-! the law: what is spoken -/
section GLC
variable {Γ : gw_Ga} {m : gw_Mem}
theorem gl_373 {g : gw_Mem} (hJ : gd_JP g) (hF : gp_F Γ.1 g 5 (gp_people Γ.1 7)) (w : gw_Mem) (hw : gd_walks g = w) (tail most : Int) (ht : tail < 0 ∨ 0 ≤ tail ∧ tail < 8 ∧ w 131 tail < 0) (hm : most ≤ w 117 30) (hR : gp_R g m) : ∀ (j k : Nat) (y10 y11 y12 y13 y14 y15 y16 y17 y18 y19 : Option gw_SV), k + j = (g 118 0).toNat → gw_G M_X13_law 60 gl_QR Γ 373 [some (gR 900), some (gR 0), some (gI 1), some (gI (gp_people Γ.1 7)), some (gI (gp_end Γ.1)), some (gR 117), some (gI tail), some (gI most), some (gI (gd_sp g k)), some (gI ((k : Int))), y10, y11, y12, y13, y14, y15, y16, y17, y18, y19] [] m := by
  have em : g 118 0 = gp_marks Γ.1 0 := hF.2.1 0 (by decide)
  have mr : 0 ≤ g 118 0 ∧ g 118 0 ≤ 3 := by rw [em]; exact gp_marks_r Γ.1 0
  intro j
  induction j with
  | zero =>
    intro k y10 y11 y12 y13 y14 y15 y16 y17 y18 y19 hk
    have hz := gp_kz mr hk
    apply r_X13_law_373
    refine gw_CIx.eqX rfl (sp_X13_marks _ 0 m) rfl ⟨fun _ => ?_, fun z => absurd (by rw [← em]; exact hz.1) z⟩
    rw [hz.2]
    exact gl_433 hJ hF w hw tail most ht hm (gd_n g) 0 m _ _ _ _ _ _ _ hR (Nat.zero_add _)
  | succ j ih =>
    intro k y10 y11 y12 y13 y14 y15 y16 y17 y18 y19 hk
    obtain ⟨k1, k2, k3, k4, w2⟩ := gp_km mr hk
    have S := gp_sp_s hJ k k4
    have ep := hF.2.2.1 0 (k : Int) (by decide) k2.1 k2.2
    rw [Int.mul_zero, Int.zero_add] at ep
    have he := hF.1
    have nx := fun y10 y11 y12 y13 y14 y15 y16 y17 y18 y19 => ih (k + 1) y10 y11 y12 y13 y14 y15 y16 y17 y18 y19 k3
    apply r_X13_law_373
    refine gw_CIx.eqX rfl (sp_X13_marks _ 0 m) rfl ⟨fun z => absurd z (by rw [← em]; exact k1), fun _ => ?_⟩
    by_cases c : g 117 0 ≤ g 119 (k : Int)
    · have S1 := S.1 c
      rw [ep.1, he] at c
      refine gw_CIx.eqX rfl (sp_X13_mark _ 0 (k : Int) 0 (by decide) m) rfl ⟨fun _ => ?_, fun z => absurd c z⟩
      apply r_X13_law_410
      rw [S1, w2]
      exact nx _ _ _ _ _ _ _ _ _ _
    · have S2 := S.2 c
      rw [ep.1, he] at c
      refine gw_CIx.eqX rfl (sp_X13_mark _ 0 (k : Int) 0 (by decide) m) rfl ⟨fun z => absurd z c, fun _ => ?_⟩
      refine gw_CIx.eqX rfl (sp_X13_mark _ 0 (k : Int) 1 (by decide) m) rfl ?_
      apply r_X13_law_410
      rw [← ep.2, S2, w2]
      exact nx _ _ _ _ _ _ _ _ _ _
end GLC
