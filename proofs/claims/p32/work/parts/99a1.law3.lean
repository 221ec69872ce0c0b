/-! the law: by the rule in time; all together -/
section GLC
variable {Γ : gw_Ga} {m : gw_Mem}
theorem gl_740 {g : gw_Mem} (hR : gp_R g m) (hF : gp_F Γ.1 g 5 (gp_people Γ.1 7)) (least lost : Int) (hleast : ga_all g 1 = least) (hlost : ga_all g 5 = lost) (hn : 0 < gd_n g) (x6 x7 x8 x9 x12 : Int) (y13 y14 y15 y16 y17 y18 y19 : Option gw_SV) : gw_G M_X13_law 60 gl_QR Γ 740 [some (gR 900), some (gR 0), some (gI 1), some (gI (gp_people Γ.1 7)), some (gI (gp_end Γ.1)), some (gR 117), some (gI x6), some (gI x7), some (gI x8), some (gI x9), some (gI least), some (gI lost), some (gI x12), y13, y14, y15, y16, y17, y18, y19] [gI 1] m := by
  have hn6 : 0 < g 117 6 := by
    have hnc := (gd_n_cast hR.1).1
    omega
  have rr := (gp_rule_r Γ.1 2 (by decide)).2.2 rfl
  have hs : g 122 2 < 5 := by rw [hF.2.2.2.1 2 (by decide) (by decide)]; exact rr
  apply r_X13_law_740
  refine gp_c_all hR 3 rfl (fun m1 R1 _ => ⟨fun _ => gl_970 R1 hF _ _ _ _ _ _ _ _ _ _ _ _ _ _, fun hby => ?_⟩)
  obtain ⟨d1, d2, d3, d4, d5, c, c1, b0, b1, b2, A1, A2, A3⟩ := gp_due2 hR.1 hn hn6 hs least lost hleast hlost hby
  refine gw_CIx.eqX rfl (sp_X13_rule _ 2 m1) rfl ⟨fun z => absurd z (Int.not_le.mpr rr), fun _ => ⟨fun z => absurd z (by decide), fun _ => ⟨fun _ => ?_, fun z => absurd d1 z⟩⟩⟩
  refine gp_c_all R1 2 rfl (fun m2 R2 _ => ⟨fun z => absurd z d2, fun _ => ?_⟩)
  refine gp_c_all R2 2 rfl (fun m3 R3 _ => ⟨fun z => absurd z d3, fun _ => ?_⟩)
  refine gp_c_best R3 (ga_all g 3) 3 rfl (fun m4 R4 _ => ⟨fun z => absurd z d4, fun _ => ?_⟩)
  refine gp_c_best R4 299 3 rfl (fun m5 R5 _ => gp_c_best R5 (ga_all g 3) 3 rfl (fun m6 R6 _ => ⟨fun z => absurd z d5, fun _ => ?_⟩))
  exact gl_824 R6 hF least (ga_all g 3) c c1 b0 b1 b2 A1 A2 A3 hleast _ _ _ _ _ _ _ _ _ _ _ _
theorem gl_676 {g : gw_Mem} (hR : gp_R g m) (hF : gp_F Γ.1 g 5 (gp_people Γ.1 7)) (w : gw_Mem) (hw : gd_walks g = w) (hn : 0 < gd_n g) (tail most : Int) (ht : tail < 0 ∨ 0 ≤ tail ∧ tail < 8 ∧ w 131 tail < 0) (hm : most ≤ w 117 30) (x8 x12 : Int) (y13 y14 y15 y16 y17 y18 y19 : Option gw_SV) : gw_G M_X13_law 60 gl_QR Γ 676 [some (gR 900), some (gR 0), some (gI 1), some (gI (gp_people Γ.1 7)), some (gI (gp_end Γ.1)), some (gR 117), some (gI tail), some (gI most), some (gI x8), some (gI (gd_ha w (gd_n g))), some (gI (gd_lof w (gd_n g))), some (gI (gd_ls w (gd_n g))), some (gI x12), y13, y14, y15, y16, y17, y18, y19] [] m := by
  have n8 : gd_n g ≤ 8 := by
    have a := (gp_people_r Γ.1).2
    have b := hF.2.2.2.2.1
    have hnc := (gd_n_cast hR.1).1
    clear ht hm
    omega
  have lr := gp_ls_rng w (gd_n g) n8
  have A := gp_all g
  rw [hw] at A
  have c740 : ∀ q : gw_Mem, gp_R g q → gw_G M_X13_law 60 gl_QR Γ 740 [some (gR 900), some (gR 0), some (gI 1), some (gI (gp_people Γ.1 7)), some (gI (gp_end Γ.1)), some (gR 117), some (gI tail), some (gI most), some (gI x8), some (gI (gd_ha w (gd_n g))), some (gI (gd_lof w (gd_n g))), some (gI (gd_ls w (gd_n g))), some (gI x12), y13, y14, y15, y16, y17, y18, y19] [gI 1] q := fun q Rq => gl_740 Rq hF _ _ A.2.1 A.2.2.2.2.2 hn _ _ _ _ _ _ _ _ _ _ _ _
  have c725 : ∀ q : gw_Mem, gp_R g q → gw_G M_X13_law 60 gl_QR Γ 725 [some (gR 900), some (gR 0), some (gI 1), some (gI (gp_people Γ.1 7)), some (gI (gp_end Γ.1)), some (gR 117), some (gI tail), some (gI most), some (gI x8), some (gI (gd_ha w (gd_n g))), some (gI (gd_lof w (gd_n g))), some (gI (gd_ls w (gd_n g))), some (gI x12), y13, y14, y15, y16, y17, y18, y19] [] q := fun q Rq => by
    apply r_X13_law_725
    refine gp_c_all Rq 4 rfl (fun m1 R1 _ => ⟨fun z => absurd z (by rw [A.2.2.2.2.1]; exact Int.not_lt.mpr hm), fun _ => c740 m1 R1⟩)
  apply r_X13_law_676
  refine ⟨fun z => absurd z (by decide), fun _ => ?_⟩
  refine gp_c_all hR 0 rfl (fun m1 R1 _ => ⟨fun _ => ?_, fun z => absurd A.1 z⟩)
  refine gp_c_all R1 1 rfl (fun m2 R2 _ => ⟨fun _ => ?_, fun z => absurd A.2.1 z⟩)
  refine gp_c_all R2 5 rfl (fun m3 R3 _ => ⟨fun _ => ?_, fun z => absurd A.2.2.2.2.2 z⟩)
  refine ⟨fun _ => c725 m3 R3, fun z => ⟨fun _ => c725 m3 R3, fun z2 => absurd ?_ z2⟩⟩
  rcases ht with ht | ht
  · exact absurd ht z
  · exact lr.2 tail ⟨ht.1, ht.2.1⟩ (Or.inl ht.2.2)
end GLC
