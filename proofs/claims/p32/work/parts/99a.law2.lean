/-! the law: gone on from an image -/
section GLC
variable {Γ : gw_Ga} {m : gw_Mem}
theorem gl_824 {g : gw_Mem} (hR : gp_R g m) (hF : gp_F Γ.1 g 5 (gp_people Γ.1 7)) (least by_ : Int) (c : Nat) (hc : c < 220) (b0 : ga_best g by_ 0 = 1 + (c : Int) / 55) (b1 : ga_best g by_ 1 = (c : Int) / 5 % 11) (b2 : ga_best g by_ 2 = (c : Int) % 5) (A1 : ga_all (gd_bq g c) 1 = ga_best g by_ 3) (A2 : ¬ ga_all (gd_bq g c) 3 < 0) (A3 : ¬ by_ < ga_all (gd_bq g c) 3) (A0 : ga_all g 1 = least) (x6 x7 x8 x9 x11 : Int) (y13 y14 y15 y16 y17 y18 y19 : Option gw_SV) : gw_G M_X13_law 60 gl_QR Γ 824 [some (gR 900), some (gR 0), some (gI 1), some (gI (gp_people Γ.1 7)), some (gI (gp_end Γ.1)), some (gR 117), some (gI x6), some (gI x7), some (gI x8), some (gI x9), some (gI least), some (gI x11), some (gI by_), y13, y14, y15, y16, y17, y18, y19] [gI 1] m := by
  have cr := gp_cr hc
  have f0 : g 122 0 = gp_rule Γ.1 0 := hF.2.2.2.1 0 (by decide) (by decide)
  have f1 : gw_up g 122 0 (1 + (c : Int) / 55) 122 1 = gp_rule Γ.1 1 := by rw [gw_up_at, if_neg (by decide)]; exact hF.2.2.2.1 1 (by decide) (by decide)
  have f2 : gw_up (gw_up g 122 0 (1 + (c : Int) / 55)) 122 1 ((c : Int) / 5 % 11) 122 2 = gp_rule Γ.1 2 := by rw [gw_up_at, if_neg (by decide), gw_up_at, if_neg (by decide)]; exact hF.2.2.2.1 2 (by decide) (by decide)
  apply r_X13_law_824
  refine gp_c_best hR by_ 0 rfl (fun m1 R1 _ => gp_c_best R1 by_ 1 rfl (fun m2 R2 _ => gp_c_best R2 by_ 2 rfl (fun m3 R3 _ => gp_c_best R3 by_ 3 rfl (fun m4 R4 _ => ⟨fun z => absurd z (by decide), fun _ => ?_⟩))))
  rw [b0, b1, b2]
  refine gp_c_image R4 rfl (fun m5 R5 I5 _ => ⟨fun _ => ?_, fun z => absurd rfl z⟩)
  refine gp_c_rule R5 0 (1 + (c : Int) / 55) cr.1 rfl (fun m6 R6 K6 => gw_CIx.eqX rfl (sp_X13_rule _ 0 m6) rfl ⟨fun _ => ?_, fun z => absurd f0 z⟩)
  refine gp_c_rule R6 1 ((c : Int) / 5 % 11) cr.2.1 rfl (fun m7 R7 K7 => gw_CIx.eqX rfl (sp_X13_rule _ 1 m7) rfl ⟨fun _ => ?_, fun z => absurd f1 z⟩)
  refine gp_c_rule R7 2 ((c : Int) % 5) cr.2.2 rfl (fun m8 R8 K8 => gw_CIx.eqX rfl (sp_X13_rule _ 2 m8) rfl ⟨fun _ => ?_, fun z => absurd f2 z⟩)
  have R8' : gp_R (gd_bq g c) m8 := R8
  have I8 := gp_K_Im (gp_K_Im (gp_K_Im I5 K6) K7) K8
  refine gp_c_all R8' 1 rfl (fun m9 R9 K9 => ⟨fun _ => ?_, fun z => absurd A1 z⟩)
  refine gp_c_all R9 3 rfl (fun m10 R10 K10 => ⟨fun z => absurd z A2, fun _ => ?_⟩)
  refine gp_c_all R10 3 rfl (fun m11 R11 K11 => ⟨fun z => absurd z A3, fun _ => ?_⟩)
  have I11 := gp_K_Im (gp_K_Im (gp_K_Im I8 K9) K10) K11
  refine gp_c_restore hR.1 I11 rfl (fun m12 R12 _ => ⟨fun _ => ?_, fun z => absurd rfl z⟩)
  refine gp_c_all R12 1 rfl (fun m13 R13 _ => ⟨fun _ => ?_, fun z => absurd A0 z⟩)
  apply r_X13_law_969
  exact gl_970 R13 hF _ _ _ _ _ _ _ _ _ _ _ _ _ _
end GLC
