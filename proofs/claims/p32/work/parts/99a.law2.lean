/-! the law: by the rule in time; all together; one by one -/
section GLC
variable {Γ : gw_Ga} {m : gw_Mem}
theorem gl_824 {g : gw_Mem} (hR : gp_R g m) (hF : gp_F Γ.1 g 5 (gp_people Γ.1 7)) (least by_ : Int) (c : Nat) (hc : c < 220) (hb : 0 ≤ by_ ∧ by_ < 300) (hv : (gd_vb g by_ 220).1 = c) (hl : gd_lof (gd_walks (gd_bq g c)) (gd_n g) = (gd_vb g by_ 220).2) (ha : 0 ≤ gd_alt (gd_walks (gd_bq g c)) ∧ gd_alt (gd_walks (gd_bq g c)) ≤ by_) (hleast : gd_lof (gd_walks g) (gd_n g) = least) (hn : 0 < g 117 6) (x6 x7 x8 x9 x11 : Int) (y13 y14 y15 y16 y17 y18 y19 : Option gw_SV) : gw_G M_X13_law 60 gl_QR Γ 824 [some (gR 900), some (gR 0), some (gI 1), some (gI (gp_people Γ.1 7)), some (gI (gp_end Γ.1)), some (gR 117), some (gI x6), some (gI x7), some (gI x8), some (gI x9), some (gI least), some (gI x11), some (gI by_), y13, y14, y15, y16, y17, y18, y19] [gI 1] m := by
  have A1 : ga_all (gd_bq g c) 1 = (gd_vb g by_ 220).2 := (gp_all (gd_bq g c)).2.1.trans hl
  have A3 := (gp_all (gd_bq g c)).2.2.2.1
  have A0 : ga_all g 1 = least := (gp_all g).2.1.trans hleast
  rw [← A3] at ha
  have B := gp_best g hR.1 hn by_ (by omega)
  rw [hv] at B
  generalize (gd_vb g by_ 220).2 = due at *
  have B2 : 0 ≤ (c : Int) ∧ ga_best g by_ 0 = 1 + (c : Int) / 55 ∧ ga_best g by_ 1 = (c : Int) / 5 % 11 ∧ ga_best g by_ 2 = (c : Int) % 5 ∧ ga_best g by_ 3 = due := by
    rcases B with B | B
    · have := B.1
      omega
    · exact B
  clear B
  obtain ⟨-, b0, b1, b2, b3⟩ := B2
  have r0 : gd_rlo 0 = 1 ∧ gd_rhi 0 = 4 := ⟨rfl, rfl⟩
  have r1 : gd_rlo 1 = 0 ∧ gd_rhi 1 = 10 := ⟨rfl, rfl⟩
  have r2 : gd_rlo 2 = 0 ∧ gd_rhi 2 = 9 := ⟨rfl, rfl⟩
  have f0 : g 122 0 = gp_rule Γ.1 0 := hF.2.2.2.1 0 (by omega) (by omega)
  have f1 : gw_up g 122 0 (1 + (c : Int) / 55) 122 1 = gp_rule Γ.1 1 := by rw [gw_up_at, if_neg (by omega)]; exact hF.2.2.2.1 1 (by omega) (by omega)
  have f2 : gw_up (gw_up g 122 0 (1 + (c : Int) / 55)) 122 1 ((c : Int) / 5 % 11) 122 2 = gp_rule Γ.1 2 := by rw [gw_up_at, if_neg (by omega), gw_up_at, if_neg (by omega)]; exact hF.2.2.2.1 2 (by omega) (by omega)
  apply r_X13_law_824
  refine gp_c_best hR by_ 0 rfl (fun m1 R1 _ => gp_c_best R1 by_ 1 rfl (fun m2 R2 _ => gp_c_best R2 by_ 2 rfl (fun m3 R3 _ => gp_c_best R3 by_ 3 rfl (fun m4 R4 _ => ⟨fun z => absurd z (by omega), fun _ => ?_⟩))))
  rw [b0, b1, b2, b3]
  refine gp_c_image R4 rfl (fun m5 R5 I5 _ => ⟨fun _ => ?_, fun z => absurd rfl z⟩)
  refine gp_c_rule R5 0 (1 + (c : Int) / 55) ⟨by omega, by omega, by omega⟩ rfl (fun m6 R6 K6 => gw_CIx.eqX rfl (sp_X13_rule _ 0 m6) rfl ⟨fun _ => ?_, fun z => absurd f0 z⟩)
  refine gp_c_rule R6 1 ((c : Int) / 5 % 11) ⟨by omega, by omega, by omega⟩ rfl (fun m7 R7 K7 => gw_CIx.eqX rfl (sp_X13_rule _ 1 m7) rfl ⟨fun _ => ?_, fun z => absurd f1 z⟩)
  refine gp_c_rule R7 2 ((c : Int) % 5) ⟨by omega, by omega, by omega⟩ rfl (fun m8 R8 K8 => gw_CIx.eqX rfl (sp_X13_rule _ 2 m8) rfl ⟨fun _ => ?_, fun z => absurd f2 z⟩)
  have R8' : gp_R (gd_bq g c) m8 := R8
  have I8 := gp_K_Im (gp_K_Im (gp_K_Im I5 K6) K7) K8
  refine gp_c_all R8' 1 rfl (fun m9 R9 K9 => ⟨fun _ => ?_, fun z => absurd A1 z⟩)
  refine gp_c_all R9 3 rfl (fun m10 R10 K10 => ⟨fun z => absurd z (by omega), fun _ => ?_⟩)
  refine gp_c_all R10 3 rfl (fun m11 R11 K11 => ⟨fun z => absurd z (by omega), fun _ => ?_⟩)
  have I11 := gp_K_Im (gp_K_Im (gp_K_Im I8 K9) K10) K11
  refine gp_c_restore hR.1 I11 rfl (fun m12 R12 _ => ⟨fun _ => ?_, fun z => absurd rfl z⟩)
  refine gp_c_all R12 1 rfl (fun m13 R13 _ => ⟨fun _ => ?_, fun z => absurd A0 z⟩)
  apply r_X13_law_969
  exact gl_970 R13 hF _ _ _ _ _ _ _ _ _ _ _ _ _ _
theorem gl_740 {g : gw_Mem} (hR : gp_R g m) (hF : gp_F Γ.1 g 5 (gp_people Γ.1 7)) (least lost : Int) (hleast : gd_lof (gd_walks g) (gd_n g) = least) (hlost : gd_ls (gd_walks g) (gd_n g) = lost) (hn : 0 < gd_n g) (x6 x7 x8 x9 : Int) (y12 y13 y14 y15 y16 y17 y18 y19 : Option gw_SV) : gw_G M_X13_law 60 gl_QR Γ 740 [some (gR 900), some (gR 0), some (gI 1), some (gI (gp_people Γ.1 7)), some (gI (gp_end Γ.1)), some (gR 117), some (gI x6), some (gI x7), some (gI x8), some (gI x9), some (gI least), some (gI lost), y12, y13, y14, y15, y16, y17, y18, y19] [gI 1] m := by
  have hnc := gd_n_cast hR.1
  have A := gp_all g
  have rr := (gp_rule_r Γ.1 2 (by omega)).2.2 rfl
  have e2 : g 122 2 = gp_rule Γ.1 2 := hF.2.2.2.1 2 (by omega) (by omega)
  apply r_X13_law_740
  refine gp_c_all hR 3 rfl (fun m1 R1 _ => ?_)
  rw [A.2.2.2.1]
  refine ⟨fun _ => gl_970 R1 hF _ _ _ _ _ _ _ _ _ _ _ _ _ _, fun hby => ?_⟩
  have D := gp_due hR.1 hn (by omega) (by omega)
  have A2 := A.2.2.1
  obtain ⟨d1, d2, d3, d4, d5, d6, d7, c, c1, c2, c3, c4, c5⟩ := D
  rw [← A2] at d3 d4
  rw [hlost] at d2
  have hby2 : 0 ≤ gd_alt (gd_walks g) := by omega
  generalize gd_alt (gd_walks g) = by_ at *
  have B1 := gp_best g hR.1 (by omega) by_ (by omega)
  have B2 := gp_best g hR.1 (by omega) 299 (by omega)
  have rg := (gd_vb_rng g 299 220).2.1
  have rg1 := (gd_vb_rng g by_ 220).2.1
  have b1 : ga_best g by_ 3 = (gd_vb g by_ 220).2 := by
    rcases B1 with B | B
    · have := B.1
      omega
    · exact B.2.2.2.2
  have b2 : ga_best g 299 3 = (gd_vb g 299 220).2 := by
    rcases B2 with B | B
    · have := B.1
      omega
    · exact B.2.2.2.2
  rw [hleast] at d5
  refine gw_CIx.eqX rfl (sp_X13_rule _ 2 m1) rfl ⟨fun z => absurd z (by omega), fun _ => ⟨fun z => absurd z (by omega), fun _ => ⟨fun _ => ?_, fun z => absurd d2 z⟩⟩⟩
  refine gp_c_all R1 2 rfl (fun m2 R2 _ => ⟨fun z => absurd z (by omega), fun _ => ?_⟩)
  refine gp_c_all R2 2 rfl (fun m3 R3 _ => ⟨fun z => absurd z (by omega), fun _ => ?_⟩)
  refine gp_c_best R3 by_ 3 rfl (fun m4 R4 _ => ⟨fun z => absurd z (by omega), fun _ => ?_⟩)
  refine gp_c_best R4 299 3 rfl (fun m5 R5 _ => gp_c_best R5 by_ 3 rfl (fun m6 R6 _ => ⟨fun z => absurd z (by omega), fun _ => ?_⟩))
  exact gl_824 R6 hF least by_ c c1 (by omega) c2 c3 ⟨c4, c5⟩ hleast (by omega) _ _ _ _ _ _ _ _ _ _ _ _
theorem gl_676 {g : gw_Mem} (hR : gp_R g m) (hF : gp_F Γ.1 g 5 (gp_people Γ.1 7)) (w : gw_Mem) (hw : gd_walks g = w) (hn : 0 < gd_n g) (tail most : Int) (ht : tail < 0 ∨ 0 ≤ tail ∧ tail < 8 ∧ w 131 tail < 0) (hm : most ≤ w 117 30) (x8 x12 : Int) (y13 y14 y15 y16 y17 y18 y19 : Option gw_SV) : gw_G M_X13_law 60 gl_QR Γ 676 [some (gR 900), some (gR 0), some (gI 1), some (gI (gp_people Γ.1 7)), some (gI (gp_end Γ.1)), some (gR 117), some (gI tail), some (gI most), some (gI x8), some (gI (gd_ha w (gd_n g))), some (gI (gd_lof w (gd_n g))), some (gI (gd_ls w (gd_n g))), some (gI x12), y13, y14, y15, y16, y17, y18, y19] [] m := by
  have hnc := gd_n_cast hR.1
  have A := gp_all g
  rw [hw] at A
  have lr := gp_ls_rng w (gd_n g) (by have := (gp_people_r Γ.1).2; have := hF.2.2.2.2.1; omega)
  have c740 : ∀ q : gw_Mem, gp_R g q → gw_G M_X13_law 60 gl_QR Γ 740 [some (gR 900), some (gR 0), some (gI 1), some (gI (gp_people Γ.1 7)), some (gI (gp_end Γ.1)), some (gR 117), some (gI tail), some (gI most), some (gI x8), some (gI (gd_ha w (gd_n g))), some (gI (gd_lof w (gd_n g))), some (gI (gd_ls w (gd_n g))), some (gI x12), y13, y14, y15, y16, y17, y18, y19] [gI 1] q := fun q Rq => gl_740 Rq hF _ _ (by rw [hw]) (by rw [hw]) hn _ _ _ _ _ _ _ _ _ _ _ _
  have c725 : ∀ q : gw_Mem, gp_R g q → gw_G M_X13_law 60 gl_QR Γ 725 [some (gR 900), some (gR 0), some (gI 1), some (gI (gp_people Γ.1 7)), some (gI (gp_end Γ.1)), some (gR 117), some (gI tail), some (gI most), some (gI x8), some (gI (gd_ha w (gd_n g))), some (gI (gd_lof w (gd_n g))), some (gI (gd_ls w (gd_n g))), some (gI x12), y13, y14, y15, y16, y17, y18, y19] [] q := fun q Rq => by
    apply r_X13_law_725
    refine gp_c_all Rq 4 rfl (fun m1 R1 _ => ⟨fun z => absurd z (by rw [A.2.2.2.2.1]; omega), fun _ => c740 m1 R1⟩)
  apply r_X13_law_676
  refine ⟨fun z => absurd z (by omega), fun _ => ?_⟩
  refine gp_c_all hR 0 rfl (fun m1 R1 _ => ⟨fun _ => ?_, fun z => absurd A.1 z⟩)
  refine gp_c_all R1 1 rfl (fun m2 R2 _ => ⟨fun _ => ?_, fun z => absurd A.2.1 z⟩)
  refine gp_c_all R2 5 rfl (fun m3 R3 _ => ⟨fun _ => ?_, fun z => absurd A.2.2.2.2.2 z⟩)
  refine ⟨fun _ => c725 m3 R3, fun z => ⟨fun _ => c725 m3 R3, fun z2 => absurd ?_ z2⟩⟩
  rcases ht with ht | ht
  · exact absurd ht z
  · exact lr.2 tail ⟨ht.1, ht.2.1⟩ (Or.inl ht.2.2)
theorem gl_433 {g : gw_Mem} (hJ : gd_JP g) (hF : gp_F Γ.1 g 5 (gp_people Γ.1 7)) (w : gw_Mem) (hw : gd_walks g = w) (tail most : Int) (ht : tail < 0 ∨ 0 ≤ tail ∧ tail < 8 ∧ w 131 tail < 0) (hm : most ≤ w 117 30) : ∀ (j p : Nat) (m : gw_Mem) (y13 y14 y15 y16 y17 y18 y19 : Option gw_SV), gp_R g m → p + j = gd_n g → gw_G M_X13_law 60 gl_QR Γ 433 [some (gR 900), some (gR 0), some (gI 1), some (gI (gp_people Γ.1 7)), some (gI (gp_end Γ.1)), some (gR 117), some (gI tail), some (gI most), some (gI (gd_spoken g)), some (gI (gd_ha w p)), some (gI (gp_least w p)), some (gI (gd_ls w p)), some (gI ((p : Int))), y13, y14, y15, y16, y17, y18, y19] [] m := by
  have hnc := gd_n_cast hJ
  have pr := gp_people_r Γ.1
  have e6 := hF.2.2.2.2.1
  have he := hF.1
  have er := gp_end_r Γ.1
  have heard := gd_walks_heard g
  have spoke := gd_heard_sp hJ
  rw [hw] at heard spoke
  intro j
  induction j with
  | zero =>
    intro p m y13 y14 y15 y16 y17 y18 y19 hR hp
    apply r_X13_law_433
    refine ⟨fun _ => ?_, fun z => absurd (by omega) z⟩
    have ep : p = gd_n g := by omega
    subst ep
    have L := (gp_least_lof w (gd_n g) (fun a ha => heard a (by omega)) (by omega)).1
    rw [L]
    exact gl_676 hR hF w hw (by omega) tail most ht hm _ _ _ _ _ _ _ _ _
  | succ j ih =>
    intro p m y13 y14 y15 y16 y17 y18 y19 hR hp
    have hpn : p < gd_n g := by omega
    have hh := heard p (by omega)
    have hs := spoke p (by omega)
    have F := gp_fate hJ p hpn
    have T := gp_there hJ p hpn
    have Q := gp_lost4 hJ p hpn
    have W1 := gp_worth hJ p hpn
    have at299 := gp_at_j hJ 299 (by omega) p hpn
    rw [hw] at F T Q
    have o1 := gp_one_r Γ.1 (p : Int)
    have k123 := hF.2.2.2.2.2 (p : Int) (by omega) (by omega)
    obtain ⟨F0, F1, F2, F3⟩ := F
    -- behind the question what one is worth
    have c608 : ∀ (q : gw_Mem) (x13 x14 : Int), gp_R g q → gw_G M_X13_law 60 gl_QR Γ 608 [some (gR 900), some (gR 0), some (gI 1), some (gI (gp_people Γ.1 7)), some (gI (gp_end Γ.1)), some (gR 117), some (gI tail), some (gI most), some (gI (gd_spoken g)), some (gI (gd_ha w (p + 1))), some (gI (gp_least w (p + 1))), some (gI (gd_ls w (p + 1))), some (gI ((p : Int))), some (gI x13), some (gI x14), y15, y16, y17, y18, y19] [] q := fun q x13 x14 Rq => by
      apply r_X13_law_608
      apply r_X13_law_613
      refine gp_c_worth Rq (p : Int) rfl (fun m1 R1 _ => ⟨fun z => absurd z (by omega), fun _ => ?_⟩)
      have last : ∀ (z0 : Int) (m2 : gw_Mem), z0 = 1 → gp_R g m2 → ∀ x15 : Option gw_SV, gw_G M_X13_law 60 gl_QR Γ 669 [some (gR 900), some (gR 0), some (gI 1), some (gI (gp_people Γ.1 7)), some (gI (gp_end Γ.1)), some (gR 117), some (gI tail), some (gI most), some (gI (gd_spoken g)), some (gI (gd_ha w (p + 1))), some (gI (gp_least w (p + 1))), some (gI (gd_ls w (p + 1))), some (gI ((p : Int))), some (gI x13), some (gI x14), x15, y16, y17, y18, y19] [gI z0] m2 := fun z0 m2 hz R2 x15 => by
        subst hz
        apply r_X13_law_669
        rw [gw_w1 (by omega)]
        exact ih (p + 1) m2 _ _ _ _ _ _ _ R2 (by omega)
      refine gw_CIx.eqX rfl (sp_X13_one _ (p : Int) 0 (by omega) m1) rfl ⟨fun h3 => last _ m1 ?_ R1 _, fun h3 => ?_⟩
      · rw [if_neg]
        have := W1.2 (fun z => z.1 (by rw [k123.1]; exact h3))
        omega
      · refine gw_CIx.eqX rfl (sp_X13_one _ (p : Int) 2 (by omega) m1) rfl (last _ m1 ?_ R1 _)
        by_cases e2 : gp_one Γ.1 (p : Int) 2 = 0
        · rw [if_pos e2, if_pos (W1.1 ⟨by rw [k123.1]; exact h3, by rw [k123.2.2]; exact e2⟩)]
        · rw [if_neg e2, if_neg]
          have := W1.2 (fun z => e2 (by rw [← k123.2.2]; exact z.2))
          omega
    have c589 : ∀ (q : gw_Mem) (x13 : Int), gp_R g q → gw_G M_X13_law 60 gl_QR Γ 589 [some (gR 900), some (gR 0), some (gI 1), some (gI (gp_people Γ.1 7)), some (gI (gp_end Γ.1)), some (gR 117), some (gI tail), some (gI most), some (gI (gd_spoken g)), some (gI (gd_ha w (p + 1))), some (gI (gp_least w (p + 1))), some (gI (gd_ls w (p + 1))), some (gI ((p : Int))), some (gI x13), some (gI (w 134 p)), y15, y16, y17, y18, y19] [] q := fun q x13 Rq => by
      apply r_X13_law_589
      refine ⟨fun _ => c608 q _ _ Rq, fun z => ?_⟩
      refine gp_c_at Rq 299 (p : Int) rfl (fun m1 R1 _ => ⟨fun z2 => absurd z2 ?_, fun _ => c608 m1 _ _ R1⟩)
      have at299' : ga_at g 299 (p : Int) = gd_run (gd_beg g) 300 129 p := at299
      rw [at299']
      rcases T with T | ⟨X, t1, -⟩
      · have := T.2
        omega
      · omega
    have c577 : ∀ (q : gw_Mem) (x13 : Int), gp_R g q → w 131 p = -4 → gw_G M_X13_law 60 gl_QR Γ 577 [some (gR 900), some (gR 0), some (gI 1), some (gI (gp_people Γ.1 7)), some (gI (gp_end Γ.1)), some (gR 117), some (gI tail), some (gI most), some (gI (gd_spoken g)), some (gI (gd_ha w (p + 1))), some (gI (gp_least w (p + 1))), some (gI (gd_ls w (p + 1))), some (gI ((p : Int))), some (gI x13), some (gI (w 134 p)), y15, y16, y17, y18, y19] [] q := fun q x13 Rq h4 => by
      apply r_X13_law_577
      refine gp_c_fate Rq (p : Int) 3 rfl (fun m1 R1 _ => ⟨fun _ => c589 m1 _ R1, fun z => absurd (F3.trans h4) z⟩)
    apply r_X13_law_433
    refine ⟨fun z => absurd z (by omega), fun _ => ⟨fun z => absurd z (by omega), fun _ => ?_⟩⟩
    refine gp_c_fate hR (p : Int) 0 rfl (fun m1 R1 _ => gp_c_fate R1 (p : Int) 3 rfl (fun m2 R2 _ => gp_c_fate R2 (p : Int) 2 rfl (fun m3 R3 _ => ?_)))
    rw [F0, F2, F3, gp_ls_s w p]
    have eh : gw_w (gd_ha w p + w 132 p) = gd_ha w (p + 1) := rfl
    have el : (if gp_least w p ≤ w 132 p then gp_least w p else w 132 p) = gp_least w (p + 1) := rfl
    rw [eh, el]
    refine ⟨fun z => absurd z (by omega), fun _ => ⟨fun z => absurd z (by omega), fun _ => ?_⟩⟩
    refine gp_c_fate R3 (p : Int) 1 rfl (fun m4 R4 _ => ⟨fun z => absurd z (by rw [F1]; have := Q.2; omega), fun _ => ?_⟩)
    rcases T with T | ⟨X, t1, t2, t3, t4, t5, -⟩
    · refine ⟨fun _ => c589 m4 _ R4, fun z => absurd T.1 z⟩
    · refine ⟨fun z => absurd z (by omega), fun _ => ⟨fun z => absurd z (by omega), fun _ => ?_⟩⟩
      have c577' := c577
      rw [t1] at c577' ⊢
      have a1 := gp_at_j hJ X t2 p hpn
      refine gp_c_at R4 (X : Int) (p : Int) rfl (fun m5 R5 _ => ⟨fun _ => ⟨fun _ => c577' m5 _ R5 t5, fun hx0 => ?_⟩, fun z => absurd ?_ z⟩)
      · have eX : gw_w ((X : Int) - 1) = ((X - 1 : Nat) : Int) := by rw [gw_w_id (by omega)]; omega
        rw [eX]
        have a2 := gp_at_j hJ (X - 1) (by omega) p hpn
        rw [show X - 1 + 1 = X by omega] at a2
        refine gp_c_at R5 ((X - 1 : Nat) : Int) (p : Int) rfl (fun m6 R6 _ => ⟨fun z => absurd z ?_, fun _ => c577' m6 _ R6 t5⟩)
        rw [a2]
        rcases t4 with t4 | t4
        · omega
        · omega
      · rw [a1, t3, he]
theorem gl_373 {g : gw_Mem} (hJ : gd_JP g) (hF : gp_F Γ.1 g 5 (gp_people Γ.1 7)) (w : gw_Mem) (hw : gd_walks g = w) (tail most : Int) (ht : tail < 0 ∨ 0 ≤ tail ∧ tail < 8 ∧ w 131 tail < 0) (hm : most ≤ w 117 30) (hR : gp_R g m) : ∀ (j k : Nat) (y10 y11 y12 y13 y14 y15 y16 y17 y18 y19 : Option gw_SV), k + j = (g 118 0).toNat → gw_G M_X13_law 60 gl_QR Γ 373 [some (gR 900), some (gR 0), some (gI 1), some (gI (gp_people Γ.1 7)), some (gI (gp_end Γ.1)), some (gR 117), some (gI tail), some (gI most), some (gI (gd_sp g k)), some (gI ((k : Int))), y10, y11, y12, y13, y14, y15, y16, y17, y18, y19] [] m := by
  have hnc := gd_n_cast hJ
  have em : g 118 0 = gp_marks Γ.1 0 := hF.2.1 0 (by omega)
  have mr := gp_marks_r Γ.1 0
  intro j
  induction j with
  | zero =>
    intro k y10 y11 y12 y13 y14 y15 y16 y17 y18 y19 hk
    apply r_X13_law_373
    refine gw_CIx.eqX rfl (sp_X13_marks _ 0 m) rfl ⟨fun _ => ?_, fun z => absurd (by omega) z⟩
    have ek : k = (g 118 0).toNat := by omega
    rw [ek]
    exact gl_433 hJ hF w hw tail most ht hm (gd_n g) 0 m _ _ _ _ _ _ _ hR (by omega)
  | succ j ih =>
    intro k y10 y11 y12 y13 y14 y15 y16 y17 y18 y19 hk
    apply r_X13_law_373
    have s0 := gd_sp_rng hJ k (by omega)
    have s1 := gd_sp_rng hJ (k + 1) (by omega)
    have es : gd_sp g (k + 1) = gd_sp g k + (if g 117 0 ≤ g 119 k then 0 else g 120 k) := rfl
    have he := hF.1
    have hk1 : 0 ≤ (k : Int) ∧ (k : Int) < g 118 0 := by omega
    have w1 : gw_w (gd_sp g k + 0) = gd_sp g k + 0 := gw_w_id (by omega)
    have w2 : gw_w ((k : Int) + 1) = ((k + 1 : Nat) : Int) := gw_w1 (by omega)
    refine gw_CIx.eqX rfl (sp_X13_marks _ 0 m) rfl ⟨fun z => absurd z (by omega), fun _ => ?_⟩
    have nx := fun y10 y11 y12 y13 y14 y15 y16 y17 y18 y19 => ih (k + 1) y10 y11 y12 y13 y14 y15 y16 y17 y18 y19 (by omega)
    by_cases c : g 117 0 ≤ g 119 (k : Int)
    · rw [if_pos c] at es
      have e3 : gd_sp g k + 0 = gd_sp g (k + 1) := by omega
      have ep := (hF.2.2.1 0 (k : Int) (by decide) hk1.1 hk1.2).1
      rw [Int.mul_zero, Int.zero_add] at ep
      rw [ep, he] at c
      refine gw_CIx.eqX rfl (sp_X13_mark _ 0 (k : Int) 0 (by decide) m) rfl ⟨fun _ => ?_, fun z => absurd c z⟩
      apply r_X13_law_410
      rw [w1, w2, e3]
      exact nx _ _ _ _ _ _ _ _ _ _
    · rw [if_neg c] at es
      have w3 : gw_w (gd_sp g k + g 120 (k : Int)) = gd_sp g k + g 120 (k : Int) := gw_w_id (by omega)
      have e3 : gd_sp g k + g 120 (k : Int) = gd_sp g (k + 1) := by omega
      have ep := hF.2.2.1 0 (k : Int) (by decide) hk1.1 hk1.2
      rw [Int.mul_zero, Int.zero_add] at ep
      rw [ep.1, he] at c
      refine gw_CIx.eqX rfl (sp_X13_mark _ 0 (k : Int) 0 (by decide) m) rfl ⟨fun z => absurd z c, fun _ => ?_⟩
      refine gw_CIx.eqX rfl (sp_X13_mark _ 0 (k : Int) 1 (by decide) m) rfl ?_
      apply r_X13_law_410
      rw [← ep.2, w3, w2, e3]
      exact nx _ _ _ _ _ _ _ _ _ _
end GLC
