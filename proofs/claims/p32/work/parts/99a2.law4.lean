/-! the law: one by one -/
section GLC
variable {Γ : gw_Ga} {m : gw_Mem}
theorem gl_433 {g : gw_Mem} (hJ : gd_JP g) (hF : gp_F Γ.1 g 5 (gp_people Γ.1 7)) (w : gw_Mem) (hw : gd_walks g = w) (tail most : Int) (ht : tail < 0 ∨ 0 ≤ tail ∧ tail < 8 ∧ w 131 tail < 0) (hm : most ≤ w 117 30) : ∀ (j p : Nat) (m : gw_Mem) (y13 y14 y15 y16 y17 y18 y19 : Option gw_SV), gp_R g m → p + j = gd_n g → gw_G M_X13_law 60 gl_QR Γ 433 [some (gR 900), some (gR 0), some (gI 1), some (gI (gp_people Γ.1 7)), some (gI (gp_end Γ.1)), some (gR 117), some (gI tail), some (gI most), some (gI (gd_spoken g)), some (gI (gd_ha w p)), some (gI (gp_least w p)), some (gI (gd_ls w p)), some (gI ((p : Int))), y13, y14, y15, y16, y17, y18, y19] [] m := by
  have hnc := gd_n_cast hJ
  have pr := gp_people_r Γ.1
  have e6 := hF.2.2.2.2.1
  have ep : (gd_n g : Int) = gp_people Γ.1 7 := hnc.1.trans e6
  have hn0 : 0 < gd_n g := by omega
  have heard := gd_walks_heard g
  rw [hw] at heard
  intro j
  induction j with
  | zero =>
    intro p m y13 y14 y15 y16 y17 y18 y19 hR hp
    have ep2 : p = gd_n g := by omega
    subst ep2
    have L := (gp_least_lof w (gd_n g) heard hn0).1
    apply r_X13_law_433
    refine ⟨fun _ => ?_, fun z => absurd (Int.le_of_eq ep.symm) z⟩
    rw [L]
    exact gl_676 hR hF w hw hn0 tail most ht hm _ _ _ _ _ _ _ _ _
  | succ j ih =>
    intro p m y13 y14 y15 y16 y17 y18 y19 hR hp
    have hpn : p < gd_n g := by omega
    have hpl : ¬ gp_people Γ.1 7 ≤ (p : Int) := by omega
    have hp9 : 0 ≤ (p : Int) ∧ (p : Int) ≤ 100 := by omega
    have hp7 : (p : Int) < gp_people Γ.1 7 := by omega
    have w1 : gw_w ((p : Int) + 1) = ((p + 1 : Nat) : Int) := gw_w1 (by omega)
    have hpj : p + 1 + j = gd_n g := by omega
    have k123 := hF.2.2.2.2.2 (p : Int) hp9.1 hp7
    have W1 := gp_worth hJ p hpn
    rw [k123.1, k123.2.2] at W1
    have nx := fun m2 y13 y14 y15 y16 y17 y18 y19 R2 => ih (p + 1) m2 y13 y14 y15 y16 y17 y18 y19 R2 hpj
    clear ih heard hnc pr e6 k123
    obtain ⟨⟨F0, F1, F2, F3⟩, n0, n1, n2, T⟩ := gp_pfacts hJ w hw (gp_end Γ.1) hF.1 p hpn
    -- behind the question what one is worth
    have c608 : ∀ (q : gw_Mem) (x13 x14 : Int), gp_R g q → gw_G M_X13_law 60 gl_QR Γ 608 [some (gR 900), some (gR 0), some (gI 1), some (gI (gp_people Γ.1 7)), some (gI (gp_end Γ.1)), some (gR 117), some (gI tail), some (gI most), some (gI (gd_spoken g)), some (gI (gd_ha w (p + 1))), some (gI (gp_least w (p + 1))), some (gI (gd_ls w (p + 1))), some (gI ((p : Int))), some (gI x13), some (gI x14), y15, y16, y17, y18, y19] [] q := fun q x13 x14 Rq => by
      apply r_X13_law_608
      apply r_X13_law_613
      refine gp_c_worth Rq (p : Int) rfl (fun m1 R1 _ => ⟨fun z => absurd z (by decide), fun _ => ?_⟩)
      have last : ∀ (z0 : Int) (m2 : gw_Mem), z0 = 1 → gp_R g m2 → ∀ x15 : Int, gw_G M_X13_law 60 gl_QR Γ 669 [some (gR 900), some (gR 0), some (gI 1), some (gI (gp_people Γ.1 7)), some (gI (gp_end Γ.1)), some (gR 117), some (gI tail), some (gI most), some (gI (gd_spoken g)), some (gI (gd_ha w (p + 1))), some (gI (gp_least w (p + 1))), some (gI (gd_ls w (p + 1))), some (gI ((p : Int))), some (gI x13), some (gI x14), some (gI x15), y16, y17, y18, y19] [gI z0] m2 := fun z0 m2 hz R2 x15 => by
        subst hz
        apply r_X13_law_669
        rw [w1]
        exact nx m2 _ _ _ _ _ _ _ R2
      refine gw_CIx.eqX rfl (sp_X13_one _ (p : Int) 0 hp9 m1) rfl ⟨fun h3 => last _ m1 ?_ R1 _, fun h3 => ?_⟩
      · exact if_neg (Int.not_le.mpr (W1.2 (fun z => z.1 h3)))
      · refine gw_CIx.eqX rfl (sp_X13_one _ (p : Int) 2 hp9 m1) rfl (last _ m1 ?_ R1 _)
        by_cases e2 : gp_one Γ.1 (p : Int) 2 = 0
        · rw [if_pos e2]
          exact if_pos (W1.1 ⟨h3, e2⟩)
        · rw [if_neg e2]
          exact if_neg (Int.not_le.mpr (W1.2 (fun z => e2 z.2)))
    have c612 : ∀ (q : gw_Mem) (x13 : Int), gp_R g q → (w 134 p = -4 → ¬ gp_end Γ.1 ≤ ga_at g 299 p) → (¬ 0 ≤ w 134 p → w 134 p = -4) → gw_G M_X13_law 60 gl_QR Γ 589 [some (gR 900), some (gR 0), some (gI 1), some (gI (gp_people Γ.1 7)), some (gI (gp_end Γ.1)), some (gR 117), some (gI tail), some (gI most), some (gI (gd_spoken g)), some (gI (gd_ha w (p + 1))), some (gI (gp_least w (p + 1))), some (gI (gd_ls w (p + 1))), some (gI ((p : Int))), some (gI x13), some (gI (w 134 p)), y15, y16, y17, y18, y19] [] q := fun q x13 Rq h4 h5 => by
      apply r_X13_law_589
      exact ⟨fun _ => c608 q _ _ Rq, fun z => gp_c_at Rq 299 (p : Int) rfl (fun m1 R1 _ => ⟨fun z2 => absurd z2 (h4 (h5 z)), fun _ => c608 m1 _ _ R1⟩)⟩
    apply r_X13_law_433
    refine ⟨fun z => absurd z hpl, fun _ => ⟨fun z => absurd z (by decide), fun _ => ?_⟩⟩
    refine gp_c_fate hR (p : Int) 0 rfl (fun m1 R1 _ => gp_c_fate R1 (p : Int) 3 rfl (fun m2 R2 _ => gp_c_fate R2 (p : Int) 2 rfl (fun m3 R3 _ => ?_)))
    rw [F0, F2, F3, gp_ls_s w p]
    have eh : gw_w (gd_ha w p + w 132 p) = gd_ha w (p + 1) := rfl
    have el : (if gp_least w p ≤ w 132 p then gp_least w p else w 132 p) = gp_least w (p + 1) := rfl
    rw [eh, el]
    refine ⟨fun z => absurd z n0, fun _ => ⟨fun z => absurd z n1, fun _ => ?_⟩⟩
    refine gp_c_fate R3 (p : Int) 1 rfl (fun m4 R4 _ => ⟨fun z => absurd z (by rw [F1]; exact n2), fun _ => ?_⟩)
    rcases T with ⟨t1, t2⟩ | ⟨X, t1, t2, t3, t4, t5, t6⟩
    · exact ⟨fun _ => c612 m4 _ R4 (fun _ => t2) (fun _ => t1), fun z => absurd t1 z⟩
    · have c577 : ∀ (q : gw_Mem) (x13 : Int), gp_R g q → gw_G M_X13_law 60 gl_QR Γ 577 [some (gR 900), some (gR 0), some (gI 1), some (gI (gp_people Γ.1 7)), some (gI (gp_end Γ.1)), some (gR 117), some (gI tail), some (gI most), some (gI (gd_spoken g)), some (gI (gd_ha w (p + 1))), some (gI (gp_least w (p + 1))), some (gI (gd_ls w (p + 1))), some (gI ((p : Int))), some (gI x13), some (gI (w 134 p)), y15, y16, y17, y18, y19] [] q := fun q x13 Rq => by
        apply r_X13_law_577
        exact gp_c_fate Rq (p : Int) 3 rfl (fun m1 R1 _ => ⟨fun _ => c612 m1 _ R1 (fun z => absurd (t1.symm.trans z) t2) (fun z => absurd (by rw [t1]; exact Int.natCast_nonneg X) z), fun z => absurd (F3.trans t6) z⟩)
      rw [t1] at c577 ⊢
      refine ⟨fun z => absurd z t2, fun _ => ⟨fun z => absurd z t3, fun _ => ?_⟩⟩
      refine gp_c_at R4 (X : Int) (p : Int) rfl (fun m5 R5 _ => ⟨fun _ => ⟨fun _ => c577 m5 _ R5, fun hx0 => ?_⟩, fun z => absurd t4 z⟩)
      exact gp_c_at R5 (gw_w ((X : Int) - 1)) (p : Int) rfl (fun m6 R6 _ => ⟨fun z => absurd z (t5 hx0), fun _ => c577 m6 _ R6⟩)
end GLC
