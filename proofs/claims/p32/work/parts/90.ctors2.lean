/-! the constructors of the class and of the reference -/
theorem c_X11_init : gn_Spec M_X11_init 3 116 5591 11 gn_f11 gb_11 := by
  refine gn_intro (by decide) rfl rfl rfl (fun cx Γ T0 h0 => ?_)
  show gn_G cx _ Γ 0 [some (gR h0), none] [] (gn_V T0 h0 11 [.null, .null, .int (Int32.ofInt 0), .null, .null, .null, .null, .null, .int (Int32.ofInt 0), .null, .int (Int32.ofInt 0), .null, .int (Int32.ofInt 0), .null, .null, .null] []) 0 0
  refine gn_aload 1 dX11_init_0 rfl rfl ?_
  refine gn_obj 4 dX11_init_1 rfl mj_11_1 rfl ?_
  refine gn_aload 5 dX11_init_4 rfl rfl ?_
  refine gn_newo (C := RX6) (T := TX6) (N := 5) (ci' := 6) (fs0 := gn_f6) tyX6 8 dX11_init_5 rfl cl_11_7 inst_6 ini_6 inX6 tyX6_ok rfl gn_df6 rfl rfl (fun q5_4 => ?_)
  refine gn_dup 9 dX11_init_8 rfl ?_
  refine gn_call (mt' := M_X6_init) (B := gb_6) 12 dX11_init_9 rfl mn_11_9 ⟨mc_X6_init, ini_6, by decide, by decide, by decide, by decide⟩ mi_X6_init rfl rfl rfl rfl rfl rfl c_X6_init (fun ad9_6 had9_6 => ?_)
  subst had9_6
  refine gn_putF (fs' := [.ref (ad9_6 0), .null, .int (Int32.ofInt 0), .null, .null, .null, .null, .null, .int (Int32.ofInt 0), .null, .int (Int32.ofInt 0), .null, .int (Int32.ofInt 0), .null, .null, .null]) 15 dX11_init_12 rfl Q_11_10 rfl rfl ?_
  refine gn_aload 16 dX11_init_15 rfl rfl ?_
  refine gn_newo (C := RX6) (T := TX6) (N := 5) (ci' := 6) (fs0 := gn_f6) tyX6 19 dX11_init_16 rfl cl_11_7 inst_6 ini_6 inX6 tyX6_ok rfl gn_df6 rfl rfl (fun q16_9 => ?_)
  refine gn_dup 20 dX11_init_19 rfl ?_
  refine gn_call (mt' := M_X6_init) (B := gb_6) 23 dX11_init_20 rfl mn_11_9 ⟨mc_X6_init, ini_6, by decide, by decide, by decide, by decide⟩ mi_X6_init rfl rfl rfl rfl rfl rfl c_X6_init (fun ad20_11 had20_11 => ?_)
  subst had20_11
  refine gn_putF (fs' := [.ref (ad9_6 0), .ref (ad20_11 0), .int (Int32.ofInt 0), .null, .null, .null, .null, .null, .int (Int32.ofInt 0), .null, .int (Int32.ofInt 0), .null, .int (Int32.ofInt 0), .null, .null, .null]) 26 dX11_init_23 rfl Q_11_16 rfl rfl ?_
  refine gn_aload 27 dX11_init_26 rfl rfl ?_
  refine gn_iconst 28 dX11_init_27 rfl ?_
  refine gn_putI (fs' := [.ref (ad9_6 0), .ref (ad20_11 0), .int (Int32.ofInt 0), .null, .null, .null, .null, .null, .int (Int32.ofInt 0), .null, .int (Int32.ofInt 0), .null, .int (Int32.ofInt 0), .null, .null, .null]) 31 dX11_init_28 rfl P_11_19 (Or.inr ⟨rfl, Or.inl rfl⟩) rfl rfl ?_
  refine gn_aload 32 dX11_init_31 rfl rfl ?_
  refine gn_newo (C := RX9) (T := TX9) (N := 4) (ci' := 9) (fs0 := gn_f9) tyX9 35 dX11_init_32 rfl cl_11_23 inst_9 ini_9 inX9 tyX9_ok rfl gn_df9 rfl rfl (fun q32_17 => ?_)
  refine gn_dup 36 dX11_init_35 rfl ?_
  refine gn_call (mt' := M_X9_init) (B := gb_9) 39 dX11_init_36 rfl mn_11_25 ⟨mc_X9_init, ini_9, by decide, by decide, by decide, by decide⟩ mi_X9_init rfl rfl rfl rfl rfl rfl c_X9_init (fun ad36_19 had36_19 => ?_)
  subst had36_19
  refine gn_putF (fs' := [.ref (ad9_6 0), .ref (ad20_11 0), .int (Int32.ofInt 0), .ref (ad36_19 0), .null, .null, .null, .null, .int (Int32.ofInt 0), .null, .int (Int32.ofInt 0), .null, .int (Int32.ofInt 0), .null, .null, .null]) 42 dX11_init_39 rfl Q_11_26 rfl rfl ?_
  refine gn_aload 43 dX11_init_42 rfl rfl ?_
  refine gn_newo (C := RX3) (T := TX3) (N := 4) (ci' := 3) (fs0 := gn_f3) tyX3 46 dX11_init_43 rfl cl_11_30 inst_3 ini_3 inX3 tyX3_ok rfl gn_df3 rfl rfl (fun q43_22 => ?_)
  refine gn_dup 47 dX11_init_46 rfl ?_
  refine gn_call (mt' := M_X3_init) (B := gb_3) 50 dX11_init_47 rfl mn_11_32 ⟨mc_X3_init, ini_3, by decide, by decide, by decide, by decide⟩ mi_X3_init rfl rfl rfl rfl rfl rfl c_X3_init (fun ad47_24 had47_24 => ?_)
  subst had47_24
  refine gn_putF (fs' := [.ref (ad9_6 0), .ref (ad20_11 0), .int (Int32.ofInt 0), .ref (ad36_19 0), .ref (ad47_24 0), .null, .null, .null, .int (Int32.ofInt 0), .null, .int (Int32.ofInt 0), .null, .int (Int32.ofInt 0), .null, .null, .null]) 53 dX11_init_50 rfl Q_11_33 rfl rfl ?_
  refine gn_aload 54 dX11_init_53 rfl rfl ?_
  refine gn_newo (C := RX5) (T := TX5) (N := 4) (ci' := 5) (fs0 := gn_f5) tyX5 57 dX11_init_54 rfl cl_11_37 inst_5 ini_5 inX5 tyX5_ok rfl gn_df5 rfl rfl (fun q54_27 => ?_)
  refine gn_dup 58 dX11_init_57 rfl ?_
  refine gn_call (mt' := M_X5_init) (B := gb_5) 61 dX11_init_58 rfl mn_11_39 ⟨mc_X5_init, ini_5, by decide, by decide, by decide, by decide⟩ mi_X5_init rfl rfl rfl rfl rfl rfl c_X5_init (fun ad58_29 had58_29 => ?_)
  subst had58_29
  refine gn_putF (fs' := [.ref (ad9_6 0), .ref (ad20_11 0), .int (Int32.ofInt 0), .ref (ad36_19 0), .ref (ad47_24 0), .ref (ad58_29 0), .null, .null, .int (Int32.ofInt 0), .null, .int (Int32.ofInt 0), .null, .int (Int32.ofInt 0), .null, .null, .null]) 64 dX11_init_61 rfl Q_11_40 rfl rfl ?_
  refine gn_aload 65 dX11_init_64 rfl rfl ?_
  refine gn_newo (C := RX10) (T := TX10) (N := 16) (ci' := 10) (fs0 := gn_f10) tyX10 68 dX11_init_65 rfl cl_11_44 inst_10 ini_10 inX10 tyX10_ok rfl gn_df10 rfl rfl (fun q65_32 => ?_)
  refine gn_dup 69 dX11_init_68 rfl ?_
  refine gn_call (mt' := M_X10_init) (B := gb_10) 72 dX11_init_69 rfl mn_11_46 ⟨mc_X10_init, ini_10, by decide, by decide, by decide, by decide⟩ mi_X10_init rfl rfl rfl rfl rfl rfl c_X10_init (fun ad69_34 had69_34 => ?_)
  subst had69_34
  refine gn_putF (fs' := [.ref (ad9_6 0), .ref (ad20_11 0), .int (Int32.ofInt 0), .ref (ad36_19 0), .ref (ad47_24 0), .ref (ad58_29 0), .ref (ad69_34 0), .null, .int (Int32.ofInt 0), .null, .int (Int32.ofInt 0), .null, .int (Int32.ofInt 0), .null, .null, .null]) 75 dX11_init_72 rfl Q_11_47 rfl rfl ?_
  refine gn_aload 76 dX11_init_75 rfl rfl ?_
  refine gn_newo (C := RX10) (T := TX10) (N := 16) (ci' := 10) (fs0 := gn_f10) tyX10 79 dX11_init_76 rfl cl_11_44 inst_10 ini_10 inX10 tyX10_ok rfl gn_df10 rfl rfl (fun q76_37 => ?_)
  refine gn_dup 80 dX11_init_79 rfl ?_
  refine gn_call (mt' := M_X10_init) (B := gb_10) 83 dX11_init_80 rfl mn_11_46 ⟨mc_X10_init, ini_10, by decide, by decide, by decide, by decide⟩ mi_X10_init rfl rfl rfl rfl rfl rfl c_X10_init (fun ad80_39 had80_39 => ?_)
  subst had80_39
  refine gn_putF (fs' := [.ref (ad9_6 0), .ref (ad20_11 0), .int (Int32.ofInt 0), .ref (ad36_19 0), .ref (ad47_24 0), .ref (ad58_29 0), .ref (ad69_34 0), .ref (ad80_39 0), .int (Int32.ofInt 0), .null, .int (Int32.ofInt 0), .null, .int (Int32.ofInt 0), .null, .null, .null]) 86 dX11_init_83 rfl Q_11_51 rfl rfl ?_
  refine gn_aload 87 dX11_init_86 rfl rfl ?_
  refine gn_iconst 88 dX11_init_87 rfl ?_
  refine gn_putI (fs' := [.ref (ad9_6 0), .ref (ad20_11 0), .int (Int32.ofInt 0), .ref (ad36_19 0), .ref (ad47_24 0), .ref (ad58_29 0), .ref (ad69_34 0), .ref (ad80_39 0), .int (Int32.ofInt 0), .null, .int (Int32.ofInt 0), .null, .int (Int32.ofInt 0), .null, .null, .null]) 91 dX11_init_88 rfl P_11_54 (Or.inr ⟨rfl, Or.inl rfl⟩) rfl rfl ?_
  refine gn_aload 92 dX11_init_91 rfl rfl ?_
  refine gn_sipush 95 dX11_init_92 rfl (by decide) ?_
  refine gn_newi (kd := 0) (cA := cx.2.1 1) (n := 3600) (ty := .int) 97 dX11_init_95 rfl rfl rfl arc_int rfl rfl (by decide) rfl rfl rfl (fun q95 => ?_)
  refine gn_putF (fs' := [.ref (ad9_6 0), .ref (ad20_11 0), .int (Int32.ofInt 0), .ref (ad36_19 0), .ref (ad47_24 0), .ref (ad58_29 0), .ref (ad69_34 0), .ref (ad80_39 0), .int (Int32.ofInt 0), .ref q95, .int (Int32.ofInt 0), .null, .int (Int32.ofInt 0), .null, .null, .null]) 100 dX11_init_97 rfl Q_11_57 rfl rfl ?_
  refine gn_aload 101 dX11_init_100 rfl rfl ?_
  refine gn_iconst 102 dX11_init_101 rfl ?_
  refine gn_putI (fs' := [.ref (ad9_6 0), .ref (ad20_11 0), .int (Int32.ofInt 0), .ref (ad36_19 0), .ref (ad47_24 0), .ref (ad58_29 0), .ref (ad69_34 0), .ref (ad80_39 0), .int (Int32.ofInt 0), .ref q95, .int (Int32.ofInt 0), .null, .int (Int32.ofInt 0), .null, .null, .null]) 105 dX11_init_102 rfl P_11_61 (Or.inl rfl) rfl rfl ?_
  refine gn_aload 106 dX11_init_105 rfl rfl ?_
  refine gn_iconst 107 dX11_init_106 rfl ?_
  refine gn_newi (kd := 0) (cA := cx.2.1 1) (n := 4) (ty := .int) 109 dX11_init_107 rfl rfl rfl arc_int rfl rfl (by decide) rfl rfl rfl (fun q107 => ?_)
  refine gn_putF (fs' := [.ref (ad9_6 0), .ref (ad20_11 0), .int (Int32.ofInt 0), .ref (ad36_19 0), .ref (ad47_24 0), .ref (ad58_29 0), .ref (ad69_34 0), .ref (ad80_39 0), .int (Int32.ofInt 0), .ref q95, .int (Int32.ofInt 0), .ref q107, .int (Int32.ofInt 0), .null, .null, .null]) 112 dX11_init_109 rfl Q_11_65 rfl rfl ?_
  refine gn_aload 113 dX11_init_112 rfl rfl ?_
  refine gn_iconst 114 dX11_init_113 rfl ?_
  refine gn_putI (fs' := [.ref (ad9_6 0), .ref (ad20_11 0), .int (Int32.ofInt 0), .ref (ad36_19 0), .ref (ad47_24 0), .ref (ad58_29 0), .ref (ad69_34 0), .ref (ad80_39 0), .int (Int32.ofInt 0), .ref q95, .int (Int32.ofInt 0), .ref q107, .int (Int32.ofInt (-1)), .null, .null, .null]) 117 dX11_init_114 rfl P_11_68 (Or.inl rfl) rfl rfl ?_
  refine gn_aload 118 dX11_init_117 rfl rfl ?_
  refine gn_newo (C := RX1) (T := TX1) (N := 3) (ci' := 1) (fs0 := gn_f1) tyX1 121 dX11_init_118 rfl cl_11_71 inst_1 ini_1 inX1 tyX1_ok rfl gn_df1 rfl rfl (fun q118_59 => ?_)
  refine gn_dup 122 dX11_init_121 rfl ?_
  refine gn_call (mt' := M_X1_init) (B := gb_1) 125 dX11_init_122 rfl mn_11_73 ⟨mc_X1_init, ini_1, by decide, by decide, by decide, by decide⟩ mi_X1_init rfl rfl rfl rfl rfl rfl c_X1_init (fun ad122_61 had122_61 => ?_)
  subst had122_61
  refine gn_putF (fs' := [.ref (ad9_6 0), .ref (ad20_11 0), .int (Int32.ofInt 0), .ref (ad36_19 0), .ref (ad47_24 0), .ref (ad58_29 0), .ref (ad69_34 0), .ref (ad80_39 0), .int (Int32.ofInt 0), .ref q95, .int (Int32.ofInt 0), .ref q107, .int (Int32.ofInt (-1)), .ref (ad122_61 0), .null, .null]) 128 dX11_init_125 rfl Q_11_74 rfl rfl ?_
  refine gn_aload 129 dX11_init_128 rfl rfl ?_
  refine gn_newo (C := RX0) (T := TX0) (N := 6) (ci' := 0) (fs0 := gn_f0) tyX0 132 dX11_init_129 rfl cl_11_78 inst_0 ini_0 inX0 tyX0_ok rfl gn_df0 rfl rfl (fun q129_64 => ?_)
  refine gn_dup 133 dX11_init_132 rfl ?_
  refine gn_call (mt' := M_X0_init) (B := gb_0) 136 dX11_init_133 rfl mn_11_80 ⟨mc_X0_init, ini_0, by decide, by decide, by decide, by decide⟩ mi_X0_init rfl rfl rfl rfl rfl rfl c_X0_init (fun ad133_66 had133_66 => ?_)
  subst had133_66
  refine gn_putF (fs' := [.ref (ad9_6 0), .ref (ad20_11 0), .int (Int32.ofInt 0), .ref (ad36_19 0), .ref (ad47_24 0), .ref (ad58_29 0), .ref (ad69_34 0), .ref (ad80_39 0), .int (Int32.ofInt 0), .ref q95, .int (Int32.ofInt 0), .ref q107, .int (Int32.ofInt (-1)), .ref (ad122_61 0), .ref (ad133_66 0), .null]) 139 dX11_init_136 rfl Q_11_81 rfl rfl ?_
  refine gn_aload 140 dX11_init_139 rfl rfl ?_
  refine gn_iconst 141 dX11_init_140 rfl ?_
  refine gn_newq 144 dX11_init_141 rfl cl_11_85 rfl rfl (fun q141 C1 hC1 => ?_)
  refine gn_putF (fs' := [.ref (ad9_6 0), .ref (ad20_11 0), .int (Int32.ofInt 0), .ref (ad36_19 0), .ref (ad47_24 0), .ref (ad58_29 0), .ref (ad69_34 0), .ref (ad80_39 0), .int (Int32.ofInt 0), .ref q95, .int (Int32.ofInt 0), .ref q107, .int (Int32.ofInt (-1)), .ref (ad122_61 0), .ref (ad133_66 0), .ref q141]) 147 dX11_init_144 rfl Q_11_87 rfl rfl ?_
  refine gn_iconst 148 dX11_init_147 rfl ?_
  refine gn_istore (ls' := [some (gR h0), some (gI 0)]) 149 dX11_init_148 rfl rfl rfl rfl ?_
  refine gn_iload 150 dX11_init_149 rfl rfl ?_
  refine gn_iconst 151 dX11_init_150 rfl ?_
  refine gn_geN 173 154 dX11_init_151 (by decide) rfl (by decide) ?_
  refine gn_aload 155 dX11_init_154 rfl rfl ?_
  refine gn_get (k := 15) (q := q141) 158 dX11_init_155 rfl F_11_87 rfl ?_
  refine gn_iload 159 dX11_init_158 rfl rfl ?_
  refine gn_newo (C := RX7) (T := TX7) (N := 3) (ci' := 7) (fs0 := gn_f7) tyX7 162 dX11_init_159 rfl cl_11_85 inst_7 ini_7 inX7 tyX7_ok rfl gn_df7 rfl rfl (fun q159_80 => ?_)
  refine gn_dup 163 dX11_init_162 rfl ?_
  refine gn_call (mt' := M_X7_init) (B := gb_7) 166 dX11_init_163 rfl mn_11_91 ⟨mc_X7_init, ini_7, by decide, by decide, by decide, by decide⟩ mi_X7_init rfl rfl rfl rfl rfl rfl c_X7_init (fun ad163_82 had163_82 => ?_)
  subst had163_82
  refine gn_aast (iv := 0) (vs := _) (l := [none, none, none, none]) (l' := [some (ad163_82 0), none, none, none]) (C1 := C1) (gn_at ad163_82 (gb_7 cx.2.1 ad163_82)) 167 dX11_init_166 rfl (by simp only [List.append_assoc, List.cons_append, List.nil_append]) rfl ⟨by decide, by decide⟩ rfl rfl ?_
  refine gn_iinc (y := 1) (ls' := [some (gR h0), some (gI 1)]) 170 dX11_init_167 rfl rfl rfl rfl (by decide) rfl ?_
  refine gn_goto 149 dX11_init_170 (by decide) ?_
  refine gn_iload 150 dX11_init_149 rfl rfl ?_
  refine gn_iconst 151 dX11_init_150 rfl ?_
  refine gn_geN 173 154 dX11_init_151 (by decide) rfl (by decide) ?_
  refine gn_aload 155 dX11_init_154 rfl rfl ?_
  refine gn_get (k := 15) (q := q141) 158 dX11_init_155 rfl F_11_87 rfl ?_
  refine gn_iload 159 dX11_init_158 rfl rfl ?_
  refine gn_newo (C := RX7) (T := TX7) (N := 3) (ci' := 7) (fs0 := gn_f7) tyX7 162 dX11_init_159 rfl cl_11_85 inst_7 ini_7 inX7 tyX7_ok rfl gn_df7 rfl rfl (fun q159_92 => ?_)
  refine gn_dup 163 dX11_init_162 rfl ?_
  refine gn_call (mt' := M_X7_init) (B := gb_7) 166 dX11_init_163 rfl mn_11_91 ⟨mc_X7_init, ini_7, by decide, by decide, by decide, by decide⟩ mi_X7_init rfl rfl rfl rfl rfl rfl c_X7_init (fun ad163_94 had163_94 => ?_)
  subst had163_94
  refine gn_aast (iv := 2) (vs := _) (l := [some (ad163_82 0), none, none, none]) (l' := [some (ad163_82 0), some (ad163_94 0), none, none]) (C1 := C1) ((gn_at ad163_82 (gb_7 cx.2.1 ad163_82)) ++ gn_at ad163_94 (gb_7 cx.2.1 ad163_94)) 167 dX11_init_166 rfl (by simp only [List.append_assoc, List.cons_append, List.nil_append]) rfl ⟨by decide, by decide⟩ rfl rfl ?_
  refine gn_iinc (y := 2) (ls' := [some (gR h0), some (gI 2)]) 170 dX11_init_167 rfl rfl rfl rfl (by decide) rfl ?_
  refine gn_goto 149 dX11_init_170 (by decide) ?_
  refine gn_iload 150 dX11_init_149 rfl rfl ?_
  refine gn_iconst 151 dX11_init_150 rfl ?_
  refine gn_geN 173 154 dX11_init_151 (by decide) rfl (by decide) ?_
  refine gn_aload 155 dX11_init_154 rfl rfl ?_
  refine gn_get (k := 15) (q := q141) 158 dX11_init_155 rfl F_11_87 rfl ?_
  refine gn_iload 159 dX11_init_158 rfl rfl ?_
  refine gn_newo (C := RX7) (T := TX7) (N := 3) (ci' := 7) (fs0 := gn_f7) tyX7 162 dX11_init_159 rfl cl_11_85 inst_7 ini_7 inX7 tyX7_ok rfl gn_df7 rfl rfl (fun q159_104 => ?_)
  refine gn_dup 163 dX11_init_162 rfl ?_
  refine gn_call (mt' := M_X7_init) (B := gb_7) 166 dX11_init_163 rfl mn_11_91 ⟨mc_X7_init, ini_7, by decide, by decide, by decide, by decide⟩ mi_X7_init rfl rfl rfl rfl rfl rfl c_X7_init (fun ad163_106 had163_106 => ?_)
  subst had163_106
  refine gn_aast (iv := 4) (vs := _) (l := [some (ad163_82 0), some (ad163_94 0), none, none]) (l' := [some (ad163_82 0), some (ad163_94 0), some (ad163_106 0), none]) (C1 := C1) (((gn_at ad163_82 (gb_7 cx.2.1 ad163_82)) ++ gn_at ad163_94 (gb_7 cx.2.1 ad163_94)) ++ gn_at ad163_106 (gb_7 cx.2.1 ad163_106)) 167 dX11_init_166 rfl (by simp only [List.append_assoc, List.cons_append, List.nil_append]) rfl ⟨by decide, by decide⟩ rfl rfl ?_
  refine gn_iinc (y := 3) (ls' := [some (gR h0), some (gI 3)]) 170 dX11_init_167 rfl rfl rfl rfl (by decide) rfl ?_
  refine gn_goto 149 dX11_init_170 (by decide) ?_
  refine gn_iload 150 dX11_init_149 rfl rfl ?_
  refine gn_iconst 151 dX11_init_150 rfl ?_
  refine gn_geN 173 154 dX11_init_151 (by decide) rfl (by decide) ?_
  refine gn_aload 155 dX11_init_154 rfl rfl ?_
  refine gn_get (k := 15) (q := q141) 158 dX11_init_155 rfl F_11_87 rfl ?_
  refine gn_iload 159 dX11_init_158 rfl rfl ?_
  refine gn_newo (C := RX7) (T := TX7) (N := 3) (ci' := 7) (fs0 := gn_f7) tyX7 162 dX11_init_159 rfl cl_11_85 inst_7 ini_7 inX7 tyX7_ok rfl gn_df7 rfl rfl (fun q159_116 => ?_)
  refine gn_dup 163 dX11_init_162 rfl ?_
  refine gn_call (mt' := M_X7_init) (B := gb_7) 166 dX11_init_163 rfl mn_11_91 ⟨mc_X7_init, ini_7, by decide, by decide, by decide, by decide⟩ mi_X7_init rfl rfl rfl rfl rfl rfl c_X7_init (fun ad163_118 had163_118 => ?_)
  subst had163_118
  refine gn_aast (iv := 6) (vs := _) (l := [some (ad163_82 0), some (ad163_94 0), some (ad163_106 0), none]) (l' := [some (ad163_82 0), some (ad163_94 0), some (ad163_106 0), some (ad163_118 0)]) (C1 := C1) ((((gn_at ad163_82 (gb_7 cx.2.1 ad163_82)) ++ gn_at ad163_94 (gb_7 cx.2.1 ad163_94)) ++ gn_at ad163_106 (gb_7 cx.2.1 ad163_106)) ++ gn_at ad163_118 (gb_7 cx.2.1 ad163_118)) 167 dX11_init_166 rfl (by simp only [List.append_assoc, List.cons_append, List.nil_append]) rfl ⟨by decide, by decide⟩ rfl rfl ?_
  refine gn_iinc (y := 4) (ls' := [some (gR h0), some (gI 4)]) 170 dX11_init_167 rfl rfl rfl rfl (by decide) rfl ?_
  refine gn_goto 149 dX11_init_170 (by decide) ?_
  refine gn_iload 150 dX11_init_149 rfl rfl ?_
  refine gn_iconst 151 dX11_init_150 rfl ?_
  refine gn_geY 173 dX11_init_151 (by decide) (by decide) ?_
  subst hC1
  refine gn_return dX11_init_173 rfl rfl ⟨fun i => if i < 1 then h0 else if i < 22 then ad9_6 (i - 1) else if i < 43 then ad20_11 (i - 22) else if i < 45 then ad36_19 (i - 43) else if i < 58 then ad47_24 (i - 45) else if i < 62 then ad58_29 (i - 58) else if i < 80 then ad69_34 (i - 62) else if i < 98 then ad80_39 (i - 80) else if i < 99 then q95 else if i < 100 then q107 else if i < 103 then ad122_61 (i - 100) else if i < 108 then ad133_66 (i - 103) else if i < 109 then q141 else if i < 111 then ad163_82 (i - 109) else if i < 113 then ad163_94 (i - 111) else if i < 115 then ad163_106 (i - 113) else ad163_118 (i - 115), rfl, ?_⟩
  rfl
