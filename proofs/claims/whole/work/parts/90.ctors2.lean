/-! the constructors of the class and of the reference -/
theorem c_X11_init : gn_Spec M_X11_init 3 116 5591 11 gn_f11 gb_11 := by
  refine gn_intro (by decide) rfl rfl rfl (fun cx Γ T0 h0 => ?_)
  show gn_G cx _ Γ 0 [some (gR h0), none] [] (gn_V T0 h0 11 [.null, .null, .int (Int32.ofInt 0), .null, .null, .null, .null, .null, .int (Int32.ofInt 0), .null, .int (Int32.ofInt 0), .null, .int (Int32.ofInt 0), .null, .null, .null] []) 0 0
  refine gn_aload 1 dX11_init_0 rfl rfl ?_
  refine gn_obj 4 dX11_init_1 rfl mj_11_1 rfl ?_
  refine gn_aload 5 dX11_init_4 rfl rfl ?_
  refine gn_newo (C := RX6) (T := TX6) (N := 5) (ci' := 6) (fs0 := gn_f6) tyX6 8 dX11_init_5 rfl cl_11_7 inst_6 ini_6 inX6 tyX6_ok rfl gn_df6 rfl rfl (fun q5_4 => ?_)
  refine gn_dup 9 dX11_init_8 rfl ?_
  refine gn_call (mt' := M_X6_init) (B := gb_6) 12 dX11_init_9 rfl mn_11_9 ⟨mc_X6_init, ini_6, by decide, by decide, by decide, by decide⟩ mi_X6_init rfl rfl rfl rfl rfl rfl c_X6_init (fun ad9_6 had9_6 => ?_)
  subst had9_6
  refine gn_putF (fs' := [.ref (ad9_6 0), .null, .int (Int32.ofInt 0), .null, .null, .null, .null, .null, .int (Int32.ofInt 0), .null, .int (Int32.ofInt 0), .null, .int (Int32.ofInt 0), .null, .null, .null]) 15 dX11_init_12 rfl Q_11_10 rfl rfl ?_
  refine gn_aload 16 dX11_init_15 rfl rfl ?_
  refine gn_newo (C := RX6) (T := TX6) (N := 5) (ci' := 6) (fs0 := gn_f6) tyX6 19 dX11_init_16 rfl cl_11_7 inst_6 ini_6 inX6 tyX6_ok rfl gn_df6 rfl rfl (fun q16_9 => ?_)
  refine gn_dup 20 dX11_init_19 rfl ?_
  refine gn_call (mt' := M_X6_init) (B := gb_6) 23 dX11_init_20 rfl mn_11_9 ⟨mc_X6_init, ini_6, by decide, by decide, by decide, by decide⟩ mi_X6_init rfl rfl rfl rfl rfl rfl c_X6_init (fun ad20_11 had20_11 => ?_)
  subst had20_11
  refine gn_putF (fs' := [.ref (ad9_6 0), .ref (ad20_11 0), .int (Int32.ofInt 0), .null, .null, .null, .null, .null, .int (Int32.ofInt 0), .null, .int (Int32.ofInt 0), .null, .int (Int32.ofInt 0), .null, .null, .null]) 26 dX11_init_23 rfl Q_11_16 rfl rfl ?_
  refine gn_aload 27 dX11_init_26 rfl rfl ?_
  refine gn_iconst 28 dX11_init_27 rfl ?_
  refine gn_putI (fs' := [.ref (ad9_6 0), .ref (ad20_11 0), .int (Int32.ofInt 0), .null, .null, .null, .null, .null, .int (Int32.ofInt 0), .null, .int (Int32.ofInt 0), .null, .int (Int32.ofInt 0), .null, .null, .null]) 31 dX11_init_28 rfl P_11_19 (Or.inr ⟨rfl, Or.inl rfl⟩) rfl rfl ?_
  refine gn_aload 32 dX11_init_31 rfl rfl ?_
  refine gn_newo (C := RX9) (T := TX9) (N := 4) (ci' := 9) (fs0 := gn_f9) tyX9 35 dX11_init_32 rfl cl_11_23 inst_9 ini_9 inX9 tyX9_ok rfl gn_df9 rfl rfl (fun q32_17 => ?_)
  refine gn_dup 36 dX11_init_35 rfl ?_
  refine gn_call (mt' := M_X9_init) (B := gb_9) 39 dX11_init_36 rfl mn_11_25 ⟨mc_X9_init, ini_9, by decide, by decide, by decide, by decide⟩ mi_X9_init rfl rfl rfl rfl rfl rfl c_X9_init (fun ad36_19 had36_19 => ?_)
  subst had36_19
  refine gn_putF (fs' := [.ref (ad9_6 0), .ref (ad20_11 0), .int (Int32.ofInt 0), .ref (ad36_19 0), .null, .null, .null, .null, .int (Int32.ofInt 0), .null, .int (Int32.ofInt 0), .null, .int (Int32.ofInt 0), .null, .null, .null]) 42 dX11_init_39 rfl Q_11_26 rfl rfl ?_
  refine gn_aload 43 dX11_init_42 rfl rfl ?_
  refine gn_newo (C := RX3) (T := TX3) (N := 4) (ci' := 3) (fs0 := gn_f3) tyX3 46 dX11_init_43 rfl cl_11_30 inst_3 ini_3 inX3 tyX3_ok rfl gn_df3 rfl rfl (fun q43_22 => ?_)
  refine gn_dup 47 dX11_init_46 rfl ?_
  refine gn_call (mt' := M_X3_init) (B := gb_3) 50 dX11_init_47 rfl mn_11_32 ⟨mc_X3_init, ini_3, by decide, by decide, by decide, by decide⟩ mi_X3_init rfl rfl rfl rfl rfl rfl c_X3_init (fun ad47_24 had47_24 => ?_)
  subst had47_24
  refine gn_putF (fs' := [.ref (ad9_6 0), .ref (ad20_11 0), .int (Int32.ofInt 0), .ref (ad36_19 0), .ref (ad47_24 0), .null, .null, .null, .int (Int32.ofInt 0), .null, .int (Int32.ofInt 0), .null, .int (Int32.ofInt 0), .null, .null, .null]) 53 dX11_init_50 rfl Q_11_33 rfl rfl ?_
  refine gn_aload 54 dX11_init_53 rfl rfl ?_
  refine gn_newo (C := RX5) (T := TX5) (N := 4) (ci' := 5) (fs0 := gn_f5) tyX5 57 dX11_init_54 rfl cl_11_37 inst_5 ini_5 inX5 tyX5_ok rfl gn_df5 rfl rfl (fun q54_27 => ?_)
  refine gn_dup 58 dX11_init_57 rfl ?_
  refine gn_call (mt' := M_X5_init) (B := gb_5) 61 dX11_init_58 rfl mn_11_39 ⟨mc_X5_init, ini_5, by decide, by decide, by decide, by decide⟩ mi_X5_init rfl rfl rfl rfl rfl rfl c_X5_init (fun ad58_29 had58_29 => ?_)
  subst had58_29
  refine gn_putF (fs' := [.ref (ad9_6 0), .ref (ad20_11 0), .int (Int32.ofInt 0), .ref (ad36_19 0), .ref (ad47_24 0), .ref (ad58_29 0), .null, .null, .int (Int32.ofInt 0), .null, .int (Int32.ofInt 0), .null, .int (Int32.ofInt 0), .null, .null, .null]) 64 dX11_init_61 rfl Q_11_40 rfl rfl ?_
  refine gn_aload 65 dX11_init_64 rfl rfl ?_
  refine gn_newo (C := RX10) (T := TX10) (N := 16) (ci' := 10) (fs0 := gn_f10) tyX10 68 dX11_init_65 rfl cl_11_44 inst_10 ini_10 inX10 tyX10_ok rfl gn_df10 rfl rfl (fun q65_32 => ?_)
  refine gn_dup 69 dX11_init_68 rfl ?_
  refine gn_call (mt' := M_X10_init) (B := gb_10) 72 dX11_init_69 rfl mn_11_46 ⟨mc_X10_init, ini_10, by decide, by decide, by decide, by decide⟩ mi_X10_init rfl rfl rfl rfl rfl rfl c_X10_init (fun ad69_34 had69_34 => ?_)
  subst had69_34
  refine gn_putF (fs' := [.ref (ad9_6 0), .ref (ad20_11 0), .int (Int32.ofInt 0), .ref (ad36_19 0), .ref (ad47_24 0), .ref (ad58_29 0), .ref (ad69_34 0), .null, .int (Int32.ofInt 0), .null, .int (Int32.ofInt 0), .null, .int (Int32.ofInt 0), .null, .null, .null]) 75 dX11_init_72 rfl Q_11_47 rfl rfl ?_
  refine gn_aload 76 dX11_init_75 rfl rfl ?_
  refine gn_newo (C := RX10) (T := TX10) (N := 16) (ci' := 10) (fs0 := gn_f10) tyX10 79 dX11_init_76 rfl cl_11_44 inst_10 ini_10 inX10 tyX10_ok rfl gn_df10 rfl rfl (fun q76_37 => ?_)
  refine gn_dup 80 dX11_init_79 rfl ?_
  refine gn_call (mt' := M_X10_init) (B := gb_10) 83 dX11_init_80 rfl mn_11_46 ⟨mc_X10_init, ini_10, by decide, by decide, by decide, by decide⟩ mi_X10_init rfl rfl rfl rfl rfl rfl c_X10_init (fun ad80_39 had80_39 => ?_)
  subst had80_39
  refine gn_putF (fs' := [.ref (ad9_6 0), .ref (ad20_11 0), .int (Int32.ofInt 0), .ref (ad36_19 0), .ref (ad47_24 0), .ref (ad58_29 0), .ref (ad69_34 0), .ref (ad80_39 0), .int (Int32.ofInt 0), .null, .int (Int32.ofInt 0), .null, .int (Int32.ofInt 0), .null, .null, .null]) 86 dX11_init_83 rfl Q_11_51 rfl rfl ?_
  refine gn_aload 87 dX11_init_86 rfl rfl ?_
  refine gn_iconst 88 dX11_init_87 rfl ?_
  refine gn_putI (fs' := [.ref (ad9_6 0), .ref (ad20_11 0), .int (Int32.ofInt 0), .ref (ad36_19 0), .ref (ad47_24 0), .ref (ad58_29 0), .ref (ad69_34 0), .ref (ad80_39 0), .int (Int32.ofInt 0), .null, .int (Int32.ofInt 0), .null, .int (Int32.ofInt 0), .null, .null, .null]) 91 dX11_init_88 rfl P_11_54 (Or.inr ⟨rfl, Or.inl rfl⟩) rfl rfl ?_
  refine gn_aload 92 dX11_init_91 rfl rfl ?_
  refine gn_sipush 95 dX11_init_92 rfl (by decide) ?_
  refine gn_newi (kd := 0) (cA := cx.2.1 1) (n := 3600) (ty := .int) 97 dX11_init_95 rfl rfl rfl arc_int rfl rfl (by decide) rfl rfl rfl (fun q95 => ?_)
  refine gn_putF (fs' := [.ref (ad9_6 0), .ref (ad20_11 0), .int (Int32.ofInt 0), .ref (ad36_19 0), .ref (ad47_24 0), .ref (ad58_29 0), .ref (ad69_34 0), .ref (ad80_39 0), .int (Int32.ofInt 0), .ref q95, .int (Int32.ofInt 0), .null, .int (Int32.ofInt 0), .null, .null, .null]) 100 dX11_init_97 rfl Q_11_57 rfl rfl ?_
  refine gn_aload 101 dX11_init_100 rfl rfl ?_
  refine gn_iconst 102 dX11_init_101 rfl ?_
  refine gn_putI (fs' := [.ref (ad9_6 0), .ref (ad20_11 0), .int (Int32.ofInt 0), .ref (ad36_19 0), .ref (ad47_24 0), .ref (ad58_29 0), .ref (ad69_34 0), .ref (ad80_39 0), .int (Int32.ofInt 0), .ref q95, .int (Int32.ofInt 0), .null, .int (Int32.ofInt 0), .null, .null, .null]) 105 dX11_init_102 rfl P_11_61 (Or.inl rfl) rfl rfl ?_
  refine gn_aload 106 dX11_init_105 rfl rfl ?_
  refine gn_iconst 107 dX11_init_106 rfl ?_
  refine gn_newi (kd := 0) (cA := cx.2.1 1) (n := 4) (ty := .int) 109 dX11_init_107 rfl rfl rfl arc_int rfl rfl (by decide) rfl rfl rfl (fun q107 => ?_)
  refine gn_putF (fs' := [.ref (ad9_6 0), .ref (ad20_11 0), .int (Int32.ofInt 0), .ref (ad36_19 0), .ref (ad47_24 0), .ref (ad58_29 0), .ref (ad69_34 0), .ref (ad80_39 0), .int (Int32.ofInt 0), .ref q95, .int (Int32.ofInt 0), .ref q107, .int (Int32.ofInt 0), .null, .null, .null]) 112 dX11_init_109 rfl Q_11_65 rfl rfl ?_
  refine gn_aload 113 dX11_init_112 rfl rfl ?_
  refine gn_iconst 114 dX11_init_113 rfl ?_
  refine gn_putI (fs' := [.ref (ad9_6 0), .ref (ad20_11 0), .int (Int32.ofInt 0), .ref (ad36_19 0), .ref (ad47_24 0), .ref (ad58_29 0), .ref (ad69_34 0), .ref (ad80_39 0), .int (Int32.ofInt 0), .ref q95, .int (Int32.ofInt 0), .ref q107, .int (Int32.ofInt (-1)), .null, .null, .null]) 117 dX11_init_114 rfl P_11_68 (Or.inl rfl) rfl rfl ?_
  refine gn_aload 118 dX11_init_117 rfl rfl ?_
  refine gn_newo (C := RX1) (T := TX1) (N := 3) (ci' := 1) (fs0 := gn_f1) tyX1 121 dX11_init_118 rfl cl_11_71 inst_1 ini_1 inX1 tyX1_ok rfl gn_df1 rfl rfl (fun q118_59 => ?_)
  refine gn_dup 122 dX11_init_121 rfl ?_
  refine gn_call (mt' := M_X1_init) (B := gb_1) 125 dX11_init_122 rfl mn_11_73 ⟨mc_X1_init, ini_1, by decide, by decide, by decide, by decide⟩ mi_X1_init rfl rfl rfl rfl rfl rfl c_X1_init (fun ad122_61 had122_61 => ?_)
  subst had122_61
  refine gn_putF (fs' := [.ref (ad9_6 0), .ref (ad20_11 0), .int (Int32.ofInt 0), .ref (ad36_19 0), .ref (ad47_24 0), .ref (ad58_29 0), .ref (ad69_34 0), .ref (ad80_39 0), .int (Int32.ofInt 0), .ref q95, .int (Int32.ofInt 0), .ref q107, .int (Int32.ofInt (-1)), .ref (ad122_61 0), .null, .null]) 128 dX11_init_125 rfl Q_11_74 rfl rfl ?_
  refine gn_aload 129 dX11_init_128 rfl rfl ?_
  refine gn_newo (C := RX0) (T := TX0) (N := 6) (ci' := 0) (fs0 := gn_f0) tyX0 132 dX11_init_129 rfl cl_11_78 inst_0 ini_0 inX0 tyX0_ok rfl gn_df0 rfl rfl (fun q129_64 => ?_)
  refine gn_dup 133 dX11_init_132 rfl ?_
  refine gn_call (mt' := M_X0_init) (B := gb_0) 136 dX11_init_133 rfl mn_11_80 ⟨mc_X0_init, ini_0, by decide, by decide, by decide, by decide⟩ mi_X0_init rfl rfl rfl rfl rfl rfl c_X0_init (fun ad133_66 had133_66 => ?_)
  subst had133_66
  refine gn_putF (fs' := [.ref (ad9_6 0), .ref (ad20_11 0), .int (Int32.ofInt 0), .ref (ad36_19 0), .ref (ad47_24 0), .ref (ad58_29 0), .ref (ad69_34 0), .ref (ad80_39 0), .int (Int32.ofInt 0), .ref q95, .int (Int32.ofInt 0), .ref q107, .int (Int32.ofInt (-1)), .ref (ad122_61 0), .ref (ad133_66 0), .null]) 139 dX11_init_136 rfl Q_11_81 rfl rfl ?_
  refine gn_aload 140 dX11_init_139 rfl rfl ?_
  refine gn_iconst 141 dX11_init_140 rfl ?_
  refine gn_newq 144 dX11_init_141 rfl cl_11_85 rfl rfl (fun q141 C1 hC1 => ?_)
  refine gn_putF (fs' := [.ref (ad9_6 0), .ref (ad20_11 0), .int (Int32.ofInt 0), .ref (ad36_19 0), .ref (ad47_24 0), .ref (ad58_29 0), .ref (ad69_34 0), .ref (ad80_39 0), .int (Int32.ofInt 0), .ref q95, .int (Int32.ofInt 0), .ref q107, .int (Int32.ofInt (-1)), .ref (ad122_61 0), .ref (ad133_66 0), .ref q141]) 147 dX11_init_144 rfl Q_11_87 rfl rfl ?_
  refine gn_iconst 148 dX11_init_147 rfl ?_
  refine gn_istore (ls' := [some (gR h0), some (gI 0)]) 149 dX11_init_148 rfl rfl rfl rfl ?_
  refine gn_iload 150 dX11_init_149 rfl rfl ?_
  refine gn_iconst 151 dX11_init_150 rfl ?_
  refine gn_geN 173 154 dX11_init_151 (by decide) rfl (by decide) ?_
  refine gn_aload 155 dX11_init_154 rfl rfl ?_
  refine gn_get (k := 15) (q := q141) 158 dX11_init_155 rfl F_11_87 rfl ?_
  refine gn_iload 159 dX11_init_158 rfl rfl ?_
  refine gn_newo (C := RX7) (T := TX7) (N := 3) (ci' := 7) (fs0 := gn_f7) tyX7 162 dX11_init_159 rfl cl_11_85 inst_7 ini_7 inX7 tyX7_ok rfl gn_df7 rfl rfl (fun q159_80 => ?_)
  refine gn_dup 163 dX11_init_162 rfl ?_
  refine gn_call (mt' := M_X7_init) (B := gb_7) 166 dX11_init_163 rfl mn_11_91 ⟨mc_X7_init, ini_7, by decide, by decide, by decide, by decide⟩ mi_X7_init rfl rfl rfl rfl rfl rfl c_X7_init (fun ad163_82 had163_82 => ?_)
  subst had163_82
  refine gn_aast (iv := 0) (vs := _) (l := [none, none, none, none]) (l' := [some (ad163_82 0), none, none, none]) (C1 := C1) (gn_at ad163_82 (gb_7 cx.2.1 ad163_82)) 167 dX11_init_166 rfl (by simp only [List.append_assoc, List.cons_append, List.nil_append]) rfl ⟨by decide, by decide⟩ rfl rfl ?_
  refine gn_iinc (y := 1) (ls' := [some (gR h0), some (gI 1)]) 170 dX11_init_167 rfl rfl rfl rfl (by decide) rfl ?_
  refine gn_goto 149 dX11_init_170 (by decide) ?_
  refine gn_iload 150 dX11_init_149 rfl rfl ?_
  refine gn_iconst 151 dX11_init_150 rfl ?_
  refine gn_geN 173 154 dX11_init_151 (by decide) rfl (by decide) ?_
  refine gn_aload 155 dX11_init_154 rfl rfl ?_
  refine gn_get (k := 15) (q := q141) 158 dX11_init_155 rfl F_11_87 rfl ?_
  refine gn_iload 159 dX11_init_158 rfl rfl ?_
  refine gn_newo (C := RX7) (T := TX7) (N := 3) (ci' := 7) (fs0 := gn_f7) tyX7 162 dX11_init_159 rfl cl_11_85 inst_7 ini_7 inX7 tyX7_ok rfl gn_df7 rfl rfl (fun q159_92 => ?_)
  refine gn_dup 163 dX11_init_162 rfl ?_
  refine gn_call (mt' := M_X7_init) (B := gb_7) 166 dX11_init_163 rfl mn_11_91 ⟨mc_X7_init, ini_7, by decide, by decide, by decide, by decide⟩ mi_X7_init rfl rfl rfl rfl rfl rfl c_X7_init (fun ad163_94 had163_94 => ?_)
  subst had163_94
  refine gn_aast (iv := 2) (vs := _) (l := [some (ad163_82 0), none, none, none]) (l' := [some (ad163_82 0), some (ad163_94 0), none, none]) (C1 := C1) ((gn_at ad163_82 (gb_7 cx.2.1 ad163_82)) ++ gn_at ad163_94 (gb_7 cx.2.1 ad163_94)) 167 dX11_init_166 rfl (by simp only [List.append_assoc, List.cons_append, List.nil_append]) rfl ⟨by decide, by decide⟩ rfl rfl ?_
  refine gn_iinc (y := 2) (ls' := [some (gR h0), some (gI 2)]) 170 dX11_init_167 rfl rfl rfl rfl (by decide) rfl ?_
  refine gn_goto 149 dX11_init_170 (by decide) ?_
  refine gn_iload 150 dX11_init_149 rfl rfl ?_
  refine gn_iconst 151 dX11_init_150 rfl ?_
  refine gn_geN 173 154 dX11_init_151 (by decide) rfl (by decide) ?_
  refine gn_aload 155 dX11_init_154 rfl rfl ?_
  refine gn_get (k := 15) (q := q141) 158 dX11_init_155 rfl F_11_87 rfl ?_
  refine gn_iload 159 dX11_init_158 rfl rfl ?_
  refine gn_newo (C := RX7) (T := TX7) (N := 3) (ci' := 7) (fs0 := gn_f7) tyX7 162 dX11_init_159 rfl cl_11_85 inst_7 ini_7 inX7 tyX7_ok rfl gn_df7 rfl rfl (fun q159_104 => ?_)
  refine gn_dup 163 dX11_init_162 rfl ?_
  refine gn_call (mt' := M_X7_init) (B := gb_7) 166 dX11_init_163 rfl mn_11_91 ⟨mc_X7_init, ini_7, by decide, by decide, by decide, by decide⟩ mi_X7_init rfl rfl rfl rfl rfl rfl c_X7_init (fun ad163_106 had163_106 => ?_)
  subst had163_106
  refine gn_aast (iv := 4) (vs := _) (l := [some (ad163_82 0), some (ad163_94 0), none, none]) (l' := [some (ad163_82 0), some (ad163_94 0), some (ad163_106 0), none]) (C1 := C1) (((gn_at ad163_82 (gb_7 cx.2.1 ad163_82)) ++ gn_at ad163_94 (gb_7 cx.2.1 ad163_94)) ++ gn_at ad163_106 (gb_7 cx.2.1 ad163_106)) 167 dX11_init_166 rfl (by simp only [List.append_assoc, List.cons_append, List.nil_append]) rfl ⟨by decide, by decide⟩ rfl rfl ?_
  refine gn_iinc (y := 3) (ls' := [some (gR h0), some (gI 3)]) 170 dX11_init_167 rfl rfl rfl rfl (by decide) rfl ?_
  refine gn_goto 149 dX11_init_170 (by decide) ?_
  refine gn_iload 150 dX11_init_149 rfl rfl ?_
  refine gn_iconst 151 dX11_init_150 rfl ?_
  refine gn_geN 173 154 dX11_init_151 (by decide) rfl (by decide) ?_
  refine gn_aload 155 dX11_init_154 rfl rfl ?_
  refine gn_get (k := 15) (q := q141) 158 dX11_init_155 rfl F_11_87 rfl ?_
  refine gn_iload 159 dX11_init_158 rfl rfl ?_
  refine gn_newo (C := RX7) (T := TX7) (N := 3) (ci' := 7) (fs0 := gn_f7) tyX7 162 dX11_init_159 rfl cl_11_85 inst_7 ini_7 inX7 tyX7_ok rfl gn_df7 rfl rfl (fun q159_116 => ?_)
  refine gn_dup 163 dX11_init_162 rfl ?_
  refine gn_call (mt' := M_X7_init) (B := gb_7) 166 dX11_init_163 rfl mn_11_91 ⟨mc_X7_init, ini_7, by decide, by decide, by decide, by decide⟩ mi_X7_init rfl rfl rfl rfl rfl rfl c_X7_init (fun ad163_118 had163_118 => ?_)
  subst had163_118
  refine gn_aast (iv := 6) (vs := _) (l := [some (ad163_82 0), some (ad163_94 0), some (ad163_106 0), none]) (l' := [some (ad163_82 0), some (ad163_94 0), some (ad163_106 0), some (ad163_118 0)]) (C1 := C1) ((((gn_at ad163_82 (gb_7 cx.2.1 ad163_82)) ++ gn_at ad163_94 (gb_7 cx.2.1 ad163_94)) ++ gn_at ad163_106 (gb_7 cx.2.1 ad163_106)) ++ gn_at ad163_118 (gb_7 cx.2.1 ad163_118)) 167 dX11_init_166 rfl (by simp only [List.append_assoc, List.cons_append, List.nil_append]) rfl ⟨by decide, by decide⟩ rfl rfl ?_
  refine gn_iinc (y := 4) (ls' := [some (gR h0), some (gI 4)]) 170 dX11_init_167 rfl rfl rfl rfl (by decide) rfl ?_
  refine gn_goto 149 dX11_init_170 (by decide) ?_
  refine gn_iload 150 dX11_init_149 rfl rfl ?_
  refine gn_iconst 151 dX11_init_150 rfl ?_
  refine gn_geY 173 dX11_init_151 (by decide) (by decide) ?_
  subst hC1
  refine gn_return dX11_init_173 rfl rfl ⟨fun i => if i < 1 then h0 else if i < 22 then ad9_6 (i - 1) else if i < 43 then ad20_11 (i - 22) else if i < 45 then ad36_19 (i - 43) else if i < 58 then ad47_24 (i - 45) else if i < 62 then ad58_29 (i - 58) else if i < 80 then ad69_34 (i - 62) else if i < 98 then ad80_39 (i - 80) else if i < 99 then q95 else if i < 100 then q107 else if i < 103 then ad122_61 (i - 100) else if i < 108 then ad133_66 (i - 103) else if i < 109 then q141 else if i < 111 then ad163_82 (i - 109) else if i < 113 then ad163_94 (i - 111) else if i < 115 then ad163_106 (i - 113) else ad163_118 (i - 115), rfl, ?_⟩
  rfl
theorem c_X12_init : gn_Spec M_X12_init 1 26 4443 12 gn_f12 gb_12 := by
  refine gn_intro (by decide) rfl rfl rfl (fun cx Γ T0 h0 => ?_)
  show gn_G cx _ Γ 0 [some (gR h0), none] [] (gn_V T0 h0 12 [.int (Int32.ofInt 0), .null, .null, .null, .null, .null, .int (Int32.ofInt 0), .null, .null, .null, .null, .null, .int (Int32.ofInt 0), .int (Int32.ofInt 0), .int (Int32.ofInt 0), .null, .int (Int32.ofInt 0), .int (Int32.ofInt 0), .int (Int32.ofInt 0), .int (Int32.ofInt 0), .int (Int32.ofInt 0), .int (Int32.ofInt 0), .int (Int32.ofInt 0), .null, .null, .null, .null, .null, .null, .int (Int32.ofInt 0), .int (Int32.ofInt 0), .null, .null, .null, .int (Int32.ofInt 0), .null, .null, .null, .null, .null, .null] []) 0 0
  refine gn_aload 1 dX12_init_0 rfl rfl ?_
  refine gn_obj 4 dX12_init_1 rfl mj_12_1 rfl ?_
  refine gn_aload 5 dX12_init_4 rfl rfl ?_
  refine gn_iconst 6 dX12_init_5 rfl ?_
  refine gn_newi (kd := 0) (cA := cx.2.1 1) (n := 4) (ty := .int) 8 dX12_init_6 rfl rfl rfl arc_int rfl rfl (by decide) rfl rfl rfl (fun q6 => ?_)
  refine gn_putF (fs' := [.int (Int32.ofInt 0), .ref q6, .null, .null, .null, .null, .int (Int32.ofInt 0), .null, .null, .null, .null, .null, .int (Int32.ofInt 0), .int (Int32.ofInt 0), .int (Int32.ofInt 0), .null, .int (Int32.ofInt 0), .int (Int32.ofInt 0), .int (Int32.ofInt 0), .int (Int32.ofInt 0), .int (Int32.ofInt 0), .int (Int32.ofInt 0), .int (Int32.ofInt 0), .null, .null, .null, .null, .null, .null, .int (Int32.ofInt 0), .int (Int32.ofInt 0), .null, .null, .null, .int (Int32.ofInt 0), .null, .null, .null, .null, .null, .null]) 11 dX12_init_8 rfl Q_12_7 rfl rfl ?_
  refine gn_aload 12 dX12_init_11 rfl rfl ?_
  refine gn_bipush 14 dX12_init_12 rfl (by decide) ?_
  refine gn_newi (kd := 0) (cA := cx.2.1 1) (n := 32) (ty := .int) 16 dX12_init_14 rfl rfl rfl arc_int rfl rfl (by decide) rfl rfl rfl (fun q14 => ?_)
  refine gn_putF (fs' := [.int (Int32.ofInt 0), .ref q6, .ref q14, .null, .null, .null, .int (Int32.ofInt 0), .null, .null, .null, .null, .null, .int (Int32.ofInt 0), .int (Int32.ofInt 0), .int (Int32.ofInt 0), .null, .int (Int32.ofInt 0), .int (Int32.ofInt 0), .int (Int32.ofInt 0), .int (Int32.ofInt 0), .int (Int32.ofInt 0), .int (Int32.ofInt 0), .int (Int32.ofInt 0), .null, .null, .null, .null, .null, .null, .int (Int32.ofInt 0), .int (Int32.ofInt 0), .null, .null, .null, .int (Int32.ofInt 0), .null, .null, .null, .null, .null, .null]) 19 dX12_init_16 rfl Q_12_13 rfl rfl ?_
  refine gn_aload 20 dX12_init_19 rfl rfl ?_
  refine gn_bipush 22 dX12_init_20 rfl (by decide) ?_
  refine gn_newi (kd := 0) (cA := cx.2.1 1) (n := 32) (ty := .int) 24 dX12_init_22 rfl rfl rfl arc_int rfl rfl (by decide) rfl rfl rfl (fun q22 => ?_)
  refine gn_putF (fs' := [.int (Int32.ofInt 0), .ref q6, .ref q14, .ref q22, .null, .null, .int (Int32.ofInt 0), .null, .null, .null, .null, .null, .int (Int32.ofInt 0), .int (Int32.ofInt 0), .int (Int32.ofInt 0), .null, .int (Int32.ofInt 0), .int (Int32.ofInt 0), .int (Int32.ofInt 0), .int (Int32.ofInt 0), .int (Int32.ofInt 0), .int (Int32.ofInt 0), .int (Int32.ofInt 0), .null, .null, .null, .null, .null, .null, .int (Int32.ofInt 0), .int (Int32.ofInt 0), .null, .null, .null, .int (Int32.ofInt 0), .null, .null, .null, .null, .null, .null]) 27 dX12_init_24 rfl Q_12_16 rfl rfl ?_
  refine gn_aload 28 dX12_init_27 rfl rfl ?_
  refine gn_bipush 30 dX12_init_28 rfl (by decide) ?_
  refine gn_newi (kd := 0) (cA := cx.2.1 1) (n := 8) (ty := .int) 32 dX12_init_30 rfl rfl rfl arc_int rfl rfl (by decide) rfl rfl rfl (fun q30 => ?_)
  refine gn_putF (fs' := [.int (Int32.ofInt 0), .ref q6, .ref q14, .ref q22, .ref q30, .null, .int (Int32.ofInt 0), .null, .null, .null, .null, .null, .int (Int32.ofInt 0), .int (Int32.ofInt 0), .int (Int32.ofInt 0), .null, .int (Int32.ofInt 0), .int (Int32.ofInt 0), .int (Int32.ofInt 0), .int (Int32.ofInt 0), .int (Int32.ofInt 0), .int (Int32.ofInt 0), .int (Int32.ofInt 0), .null, .null, .null, .null, .null, .null, .int (Int32.ofInt 0), .int (Int32.ofInt 0), .null, .null, .null, .int (Int32.ofInt 0), .null, .null, .null, .null, .null, .null]) 35 dX12_init_32 rfl Q_12_19 rfl rfl ?_
  refine gn_aload 36 dX12_init_35 rfl rfl ?_
  refine gn_iconst 37 dX12_init_36 rfl ?_
  refine gn_newi (kd := 0) (cA := cx.2.1 1) (n := 5) (ty := .int) 39 dX12_init_37 rfl rfl rfl arc_int rfl rfl (by decide) rfl rfl rfl (fun q37 => ?_)
  refine gn_putF (fs' := [.int (Int32.ofInt 0), .ref q6, .ref q14, .ref q22, .ref q30, .ref q37, .int (Int32.ofInt 0), .null, .null, .null, .null, .null, .int (Int32.ofInt 0), .int (Int32.ofInt 0), .int (Int32.ofInt 0), .null, .int (Int32.ofInt 0), .int (Int32.ofInt 0), .int (Int32.ofInt 0), .int (Int32.ofInt 0), .int (Int32.ofInt 0), .int (Int32.ofInt 0), .int (Int32.ofInt 0), .null, .null, .null, .null, .null, .null, .int (Int32.ofInt 0), .int (Int32.ofInt 0), .null, .null, .null, .int (Int32.ofInt 0), .null, .null, .null, .null, .null, .null]) 42 dX12_init_39 rfl Q_12_22 rfl rfl ?_
  refine gn_aload 43 dX12_init_42 rfl rfl ?_
  refine gn_bipush 45 dX12_init_43 rfl (by decide) ?_
  refine gn_newi (kd := 0) (cA := cx.2.1 1) (n := 10) (ty := .int) 47 dX12_init_45 rfl rfl rfl arc_int rfl rfl (by decide) rfl rfl rfl (fun q45 => ?_)
  refine gn_putF (fs' := [.int (Int32.ofInt 0), .ref q6, .ref q14, .ref q22, .ref q30, .ref q37, .int (Int32.ofInt 0), .ref q45, .null, .null, .null, .null, .int (Int32.ofInt 0), .int (Int32.ofInt 0), .int (Int32.ofInt 0), .null, .int (Int32.ofInt 0), .int (Int32.ofInt 0), .int (Int32.ofInt 0), .int (Int32.ofInt 0), .int (Int32.ofInt 0), .int (Int32.ofInt 0), .int (Int32.ofInt 0), .null, .null, .null, .null, .null, .null, .int (Int32.ofInt 0), .int (Int32.ofInt 0), .null, .null, .null, .int (Int32.ofInt 0), .null, .null, .null, .null, .null, .null]) 50 dX12_init_47 rfl Q_12_25 rfl rfl ?_
  refine gn_aload 51 dX12_init_50 rfl rfl ?_
  refine gn_bipush 53 dX12_init_51 rfl (by decide) ?_
  refine gn_newi (kd := 0) (cA := cx.2.1 1) (n := 10) (ty := .int) 55 dX12_init_53 rfl rfl rfl arc_int rfl rfl (by decide) rfl rfl rfl (fun q53 => ?_)
  refine gn_putF (fs' := [.int (Int32.ofInt 0), .ref q6, .ref q14, .ref q22, .ref q30, .ref q37, .int (Int32.ofInt 0), .ref q45, .ref q53, .null, .null, .null, .int (Int32.ofInt 0), .int (Int32.ofInt 0), .int (Int32.ofInt 0), .null, .int (Int32.ofInt 0), .int (Int32.ofInt 0), .int (Int32.ofInt 0), .int (Int32.ofInt 0), .int (Int32.ofInt 0), .int (Int32.ofInt 0), .int (Int32.ofInt 0), .null, .null, .null, .null, .null, .null, .int (Int32.ofInt 0), .int (Int32.ofInt 0), .null, .null, .null, .int (Int32.ofInt 0), .null, .null, .null, .null, .null, .null]) 58 dX12_init_55 rfl Q_12_28 rfl rfl ?_
  refine gn_aload 59 dX12_init_58 rfl rfl ?_
  refine gn_bipush 61 dX12_init_59 rfl (by decide) ?_
  refine gn_newi (kd := 0) (cA := cx.2.1 1) (n := 10) (ty := .int) 63 dX12_init_61 rfl rfl rfl arc_int rfl rfl (by decide) rfl rfl rfl (fun q61 => ?_)
  refine gn_putF (fs' := [.int (Int32.ofInt 0), .ref q6, .ref q14, .ref q22, .ref q30, .ref q37, .int (Int32.ofInt 0), .ref q45, .ref q53, .ref q61, .null, .null, .int (Int32.ofInt 0), .int (Int32.ofInt 0), .int (Int32.ofInt 0), .null, .int (Int32.ofInt 0), .int (Int32.ofInt 0), .int (Int32.ofInt 0), .int (Int32.ofInt 0), .int (Int32.ofInt 0), .int (Int32.ofInt 0), .int (Int32.ofInt 0), .null, .null, .null, .null, .null, .null, .int (Int32.ofInt 0), .int (Int32.ofInt 0), .null, .null, .null, .int (Int32.ofInt 0), .null, .null, .null, .null, .null, .null]) 66 dX12_init_63 rfl Q_12_31 rfl rfl ?_
  refine gn_aload 67 dX12_init_66 rfl rfl ?_
  refine gn_sipush 70 dX12_init_67 rfl (by decide) ?_
  refine gn_newi (kd := 0) (cA := cx.2.1 1) (n := 144) (ty := .int) 72 dX12_init_70 rfl rfl rfl arc_int rfl rfl (by decide) rfl rfl rfl (fun q70 => ?_)
  refine gn_putF (fs' := [.int (Int32.ofInt 0), .ref q6, .ref q14, .ref q22, .ref q30, .ref q37, .int (Int32.ofInt 0), .ref q45, .ref q53, .ref q61, .ref q70, .null, .int (Int32.ofInt 0), .int (Int32.ofInt 0), .int (Int32.ofInt 0), .null, .int (Int32.ofInt 0), .int (Int32.ofInt 0), .int (Int32.ofInt 0), .int (Int32.ofInt 0), .int (Int32.ofInt 0), .int (Int32.ofInt 0), .int (Int32.ofInt 0), .null, .null, .null, .null, .null, .null, .int (Int32.ofInt 0), .int (Int32.ofInt 0), .null, .null, .null, .int (Int32.ofInt 0), .null, .null, .null, .null, .null, .null]) 75 dX12_init_72 rfl Q_12_34 rfl rfl ?_
  refine gn_aload 76 dX12_init_75 rfl rfl ?_
  refine gn_bipush 78 dX12_init_76 rfl (by decide) ?_
  refine gn_newi (kd := 0) (cA := cx.2.1 1) (n := 80) (ty := .int) 80 dX12_init_78 rfl rfl rfl arc_int rfl rfl (by decide) rfl rfl rfl (fun q78 => ?_)
  refine gn_putF (fs' := [.int (Int32.ofInt 0), .ref q6, .ref q14, .ref q22, .ref q30, .ref q37, .int (Int32.ofInt 0), .ref q45, .ref q53, .ref q61, .ref q70, .ref q78, .int (Int32.ofInt 0), .int (Int32.ofInt 0), .int (Int32.ofInt 0), .null, .int (Int32.ofInt 0), .int (Int32.ofInt 0), .int (Int32.ofInt 0), .int (Int32.ofInt 0), .int (Int32.ofInt 0), .int (Int32.ofInt 0), .int (Int32.ofInt 0), .null, .null, .null, .null, .null, .null, .int (Int32.ofInt 0), .int (Int32.ofInt 0), .null, .null, .null, .int (Int32.ofInt 0), .null, .null, .null, .null, .null, .null]) 83 dX12_init_80 rfl Q_12_37 rfl rfl ?_
  refine gn_aload 84 dX12_init_83 rfl rfl ?_
  refine gn_bipush 86 dX12_init_84 rfl (by decide) ?_
  refine gn_newi (kd := 0) (cA := cx.2.1 1) (n := 30) (ty := .int) 88 dX12_init_86 rfl rfl rfl arc_int rfl rfl (by decide) rfl rfl rfl (fun q86 => ?_)
  refine gn_putF (fs' := [.int (Int32.ofInt 0), .ref q6, .ref q14, .ref q22, .ref q30, .ref q37, .int (Int32.ofInt 0), .ref q45, .ref q53, .ref q61, .ref q70, .ref q78, .int (Int32.ofInt 0), .int (Int32.ofInt 0), .int (Int32.ofInt 0), .ref q86, .int (Int32.ofInt 0), .int (Int32.ofInt 0), .int (Int32.ofInt 0), .int (Int32.ofInt 0), .int (Int32.ofInt 0), .int (Int32.ofInt 0), .int (Int32.ofInt 0), .null, .null, .null, .null, .null, .null, .int (Int32.ofInt 0), .int (Int32.ofInt 0), .null, .null, .null, .int (Int32.ofInt 0), .null, .null, .null, .null, .null, .null]) 91 dX12_init_88 rfl Q_12_40 rfl rfl ?_
  refine gn_aload 92 dX12_init_91 rfl rfl ?_
  refine gn_bipush 94 dX12_init_92 rfl (by decide) ?_
  refine gn_newi (kd := 0) (cA := cx.2.1 1) (n := 10) (ty := .int) 96 dX12_init_94 rfl rfl rfl arc_int rfl rfl (by decide) rfl rfl rfl (fun q94 => ?_)
  refine gn_putF (fs' := [.int (Int32.ofInt 0), .ref q6, .ref q14, .ref q22, .ref q30, .ref q37, .int (Int32.ofInt 0), .ref q45, .ref q53, .ref q61, .ref q70, .ref q78, .int (Int32.ofInt 0), .int (Int32.ofInt 0), .int (Int32.ofInt 0), .ref q86, .int (Int32.ofInt 0), .int (Int32.ofInt 0), .int (Int32.ofInt 0), .int (Int32.ofInt 0), .int (Int32.ofInt 0), .int (Int32.ofInt 0), .int (Int32.ofInt 0), .ref q94, .null, .null, .null, .null, .null, .int (Int32.ofInt 0), .int (Int32.ofInt 0), .null, .null, .null, .int (Int32.ofInt 0), .null, .null, .null, .null, .null, .null]) 99 dX12_init_96 rfl Q_12_43 rfl rfl ?_
  refine gn_aload 100 dX12_init_99 rfl rfl ?_
  refine gn_bipush 102 dX12_init_100 rfl (by decide) ?_
  refine gn_newi (kd := 0) (cA := cx.2.1 1) (n := 10) (ty := .int) 104 dX12_init_102 rfl rfl rfl arc_int rfl rfl (by decide) rfl rfl rfl (fun q102 => ?_)
  refine gn_putF (fs' := [.int (Int32.ofInt 0), .ref q6, .ref q14, .ref q22, .ref q30, .ref q37, .int (Int32.ofInt 0), .ref q45, .ref q53, .ref q61, .ref q70, .ref q78, .int (Int32.ofInt 0), .int (Int32.ofInt 0), .int (Int32.ofInt 0), .ref q86, .int (Int32.ofInt 0), .int (Int32.ofInt 0), .int (Int32.ofInt 0), .int (Int32.ofInt 0), .int (Int32.ofInt 0), .int (Int32.ofInt 0), .int (Int32.ofInt 0), .ref q94, .ref q102, .null, .null, .null, .null, .int (Int32.ofInt 0), .int (Int32.ofInt 0), .null, .null, .null, .int (Int32.ofInt 0), .null, .null, .null, .null, .null, .null]) 107 dX12_init_104 rfl Q_12_46 rfl rfl ?_
  refine gn_aload 108 dX12_init_107 rfl rfl ?_
  refine gn_bipush 110 dX12_init_108 rfl (by decide) ?_
  refine gn_newi (kd := 0) (cA := cx.2.1 1) (n := 10) (ty := .int) 112 dX12_init_110 rfl rfl rfl arc_int rfl rfl (by decide) rfl rfl rfl (fun q110 => ?_)
  refine gn_putF (fs' := [.int (Int32.ofInt 0), .ref q6, .ref q14, .ref q22, .ref q30, .ref q37, .int (Int32.ofInt 0), .ref q45, .ref q53, .ref q61, .ref q70, .ref q78, .int (Int32.ofInt 0), .int (Int32.ofInt 0), .int (Int32.ofInt 0), .ref q86, .int (Int32.ofInt 0), .int (Int32.ofInt 0), .int (Int32.ofInt 0), .int (Int32.ofInt 0), .int (Int32.ofInt 0), .int (Int32.ofInt 0), .int (Int32.ofInt 0), .ref q94, .ref q102, .ref q110, .null, .null, .null, .int (Int32.ofInt 0), .int (Int32.ofInt 0), .null, .null, .null, .int (Int32.ofInt 0), .null, .null, .null, .null, .null, .null]) 115 dX12_init_112 rfl Q_12_49 rfl rfl ?_
  refine gn_aload 116 dX12_init_115 rfl rfl ?_
  refine gn_bipush 118 dX12_init_116 rfl (by decide) ?_
  refine gn_newi (kd := 0) (cA := cx.2.1 1) (n := 10) (ty := .int) 120 dX12_init_118 rfl rfl rfl arc_int rfl rfl (by decide) rfl rfl rfl (fun q118 => ?_)
  refine gn_putF (fs' := [.int (Int32.ofInt 0), .ref q6, .ref q14, .ref q22, .ref q30, .ref q37, .int (Int32.ofInt 0), .ref q45, .ref q53, .ref q61, .ref q70, .ref q78, .int (Int32.ofInt 0), .int (Int32.ofInt 0), .int (Int32.ofInt 0), .ref q86, .int (Int32.ofInt 0), .int (Int32.ofInt 0), .int (Int32.ofInt 0), .int (Int32.ofInt 0), .int (Int32.ofInt 0), .int (Int32.ofInt 0), .int (Int32.ofInt 0), .ref q94, .ref q102, .ref q110, .ref q118, .null, .null, .int (Int32.ofInt 0), .int (Int32.ofInt 0), .null, .null, .null, .int (Int32.ofInt 0), .null, .null, .null, .null, .null, .null]) 123 dX12_init_120 rfl Q_12_52 rfl rfl ?_
  refine gn_aload 124 dX12_init_123 rfl rfl ?_
  refine gn_bipush 126 dX12_init_124 rfl (by decide) ?_
  refine gn_newi (kd := 0) (cA := cx.2.1 1) (n := 10) (ty := .int) 128 dX12_init_126 rfl rfl rfl arc_int rfl rfl (by decide) rfl rfl rfl (fun q126 => ?_)
  refine gn_putF (fs' := [.int (Int32.ofInt 0), .ref q6, .ref q14, .ref q22, .ref q30, .ref q37, .int (Int32.ofInt 0), .ref q45, .ref q53, .ref q61, .ref q70, .ref q78, .int (Int32.ofInt 0), .int (Int32.ofInt 0), .int (Int32.ofInt 0), .ref q86, .int (Int32.ofInt 0), .int (Int32.ofInt 0), .int (Int32.ofInt 0), .int (Int32.ofInt 0), .int (Int32.ofInt 0), .int (Int32.ofInt 0), .int (Int32.ofInt 0), .ref q94, .ref q102, .ref q110, .ref q118, .ref q126, .null, .int (Int32.ofInt 0), .int (Int32.ofInt 0), .null, .null, .null, .int (Int32.ofInt 0), .null, .null, .null, .null, .null, .null]) 131 dX12_init_128 rfl Q_12_55 rfl rfl ?_
  refine gn_aload 132 dX12_init_131 rfl rfl ?_
  refine gn_bipush 134 dX12_init_132 rfl (by decide) ?_
  refine gn_newi (kd := 0) (cA := cx.2.1 1) (n := 10) (ty := .int) 136 dX12_init_134 rfl rfl rfl arc_int rfl rfl (by decide) rfl rfl rfl (fun q134 => ?_)
  refine gn_putF (fs' := [.int (Int32.ofInt 0), .ref q6, .ref q14, .ref q22, .ref q30, .ref q37, .int (Int32.ofInt 0), .ref q45, .ref q53, .ref q61, .ref q70, .ref q78, .int (Int32.ofInt 0), .int (Int32.ofInt 0), .int (Int32.ofInt 0), .ref q86, .int (Int32.ofInt 0), .int (Int32.ofInt 0), .int (Int32.ofInt 0), .int (Int32.ofInt 0), .int (Int32.ofInt 0), .int (Int32.ofInt 0), .int (Int32.ofInt 0), .ref q94, .ref q102, .ref q110, .ref q118, .ref q126, .ref q134, .int (Int32.ofInt 0), .int (Int32.ofInt 0), .null, .null, .null, .int (Int32.ofInt 0), .null, .null, .null, .null, .null, .null]) 139 dX12_init_136 rfl Q_12_58 rfl rfl ?_
  refine gn_aload 140 dX12_init_139 rfl rfl ?_
  refine gn_sipush 143 dX12_init_140 rfl (by decide) ?_
  refine gn_newi (kd := 0) (cA := cx.2.1 1) (n := 3600) (ty := .int) 145 dX12_init_143 rfl rfl rfl arc_int rfl rfl (by decide) rfl rfl rfl (fun q143 => ?_)
  refine gn_putF (fs' := [.int (Int32.ofInt 0), .ref q6, .ref q14, .ref q22, .ref q30, .ref q37, .int (Int32.ofInt 0), .ref q45, .ref q53, .ref q61, .ref q70, .ref q78, .int (Int32.ofInt 0), .int (Int32.ofInt 0), .int (Int32.ofInt 0), .ref q86, .int (Int32.ofInt 0), .int (Int32.ofInt 0), .int (Int32.ofInt 0), .int (Int32.ofInt 0), .int (Int32.ofInt 0), .int (Int32.ofInt 0), .int (Int32.ofInt 0), .ref q94, .ref q102, .ref q110, .ref q118, .ref q126, .ref q134, .int (Int32.ofInt 0), .int (Int32.ofInt 0), .ref q143, .null, .null, .int (Int32.ofInt 0), .null, .null, .null, .null, .null, .null]) 148 dX12_init_145 rfl Q_12_61 rfl rfl ?_
  refine gn_aload 149 dX12_init_148 rfl rfl ?_
  refine gn_bipush 151 dX12_init_149 rfl (by decide) ?_
  refine gn_newi (kd := 0) (cA := cx.2.1 1) (n := 8) (ty := .int) 153 dX12_init_151 rfl rfl rfl arc_int rfl rfl (by decide) rfl rfl rfl (fun q151 => ?_)
  refine gn_putF (fs' := [.int (Int32.ofInt 0), .ref q6, .ref q14, .ref q22, .ref q30, .ref q37, .int (Int32.ofInt 0), .ref q45, .ref q53, .ref q61, .ref q70, .ref q78, .int (Int32.ofInt 0), .int (Int32.ofInt 0), .int (Int32.ofInt 0), .ref q86, .int (Int32.ofInt 0), .int (Int32.ofInt 0), .int (Int32.ofInt 0), .int (Int32.ofInt 0), .int (Int32.ofInt 0), .int (Int32.ofInt 0), .int (Int32.ofInt 0), .ref q94, .ref q102, .ref q110, .ref q118, .ref q126, .ref q134, .int (Int32.ofInt 0), .int (Int32.ofInt 0), .ref q143, .ref q151, .null, .int (Int32.ofInt 0), .null, .null, .null, .null, .null, .null]) 156 dX12_init_153 rfl Q_12_64 rfl rfl ?_
  refine gn_aload 157 dX12_init_156 rfl rfl ?_
  refine gn_sipush 160 dX12_init_157 rfl (by decide) ?_
  refine gn_newi (kd := 0) (cA := cx.2.1 1) (n := 270) (ty := .int) 162 dX12_init_160 rfl rfl rfl arc_int rfl rfl (by decide) rfl rfl rfl (fun q160 => ?_)
  refine gn_putF (fs' := [.int (Int32.ofInt 0), .ref q6, .ref q14, .ref q22, .ref q30, .ref q37, .int (Int32.ofInt 0), .ref q45, .ref q53, .ref q61, .ref q70, .ref q78, .int (Int32.ofInt 0), .int (Int32.ofInt 0), .int (Int32.ofInt 0), .ref q86, .int (Int32.ofInt 0), .int (Int32.ofInt 0), .int (Int32.ofInt 0), .int (Int32.ofInt 0), .int (Int32.ofInt 0), .int (Int32.ofInt 0), .int (Int32.ofInt 0), .ref q94, .ref q102, .ref q110, .ref q118, .ref q126, .ref q134, .int (Int32.ofInt 0), .int (Int32.ofInt 0), .ref q143, .ref q151, .ref q160, .int (Int32.ofInt 0), .null, .null, .null, .null, .null, .null]) 165 dX12_init_162 rfl Q_12_67 rfl rfl ?_
  refine gn_aload 166 dX12_init_165 rfl rfl ?_
  refine gn_iconst 167 dX12_init_166 rfl ?_
  refine gn_newi (kd := 0) (cA := cx.2.1 1) (n := 4) (ty := .int) 169 dX12_init_167 rfl rfl rfl arc_int rfl rfl (by decide) rfl rfl rfl (fun q167 => ?_)
  refine gn_putF (fs' := [.int (Int32.ofInt 0), .ref q6, .ref q14, .ref q22, .ref q30, .ref q37, .int (Int32.ofInt 0), .ref q45, .ref q53, .ref q61, .ref q70, .ref q78, .int (Int32.ofInt 0), .int (Int32.ofInt 0), .int (Int32.ofInt 0), .ref q86, .int (Int32.ofInt 0), .int (Int32.ofInt 0), .int (Int32.ofInt 0), .int (Int32.ofInt 0), .int (Int32.ofInt 0), .int (Int32.ofInt 0), .int (Int32.ofInt 0), .ref q94, .ref q102, .ref q110, .ref q118, .ref q126, .ref q134, .int (Int32.ofInt 0), .int (Int32.ofInt 0), .ref q143, .ref q151, .ref q160, .int (Int32.ofInt 0), .ref q167, .null, .null, .null, .null, .null]) 172 dX12_init_169 rfl Q_12_70 rfl rfl ?_
  refine gn_aload 173 dX12_init_172 rfl rfl ?_
  refine gn_iconst 174 dX12_init_173 rfl ?_
  refine gn_newi (kd := 0) (cA := cx.2.1 1) (n := 4) (ty := .int) 176 dX12_init_174 rfl rfl rfl arc_int rfl rfl (by decide) rfl rfl rfl (fun q174 => ?_)
  refine gn_putF (fs' := [.int (Int32.ofInt 0), .ref q6, .ref q14, .ref q22, .ref q30, .ref q37, .int (Int32.ofInt 0), .ref q45, .ref q53, .ref q61, .ref q70, .ref q78, .int (Int32.ofInt 0), .int (Int32.ofInt 0), .int (Int32.ofInt 0), .ref q86, .int (Int32.ofInt 0), .int (Int32.ofInt 0), .int (Int32.ofInt 0), .int (Int32.ofInt 0), .int (Int32.ofInt 0), .int (Int32.ofInt 0), .int (Int32.ofInt 0), .ref q94, .ref q102, .ref q110, .ref q118, .ref q126, .ref q134, .int (Int32.ofInt 0), .int (Int32.ofInt 0), .ref q143, .ref q151, .ref q160, .int (Int32.ofInt 0), .ref q167, .ref q174, .null, .null, .null, .null]) 179 dX12_init_176 rfl Q_12_73 rfl rfl ?_
  refine gn_aload 180 dX12_init_179 rfl rfl ?_
  refine gn_bipush 182 dX12_init_180 rfl (by decide) ?_
  refine gn_newi (kd := 0) (cA := cx.2.1 1) (n := 96) (ty := .int) 184 dX12_init_182 rfl rfl rfl arc_int rfl rfl (by decide) rfl rfl rfl (fun q182 => ?_)
  refine gn_putF (fs' := [.int (Int32.ofInt 0), .ref q6, .ref q14, .ref q22, .ref q30, .ref q37, .int (Int32.ofInt 0), .ref q45, .ref q53, .ref q61, .ref q70, .ref q78, .int (Int32.ofInt 0), .int (Int32.ofInt 0), .int (Int32.ofInt 0), .ref q86, .int (Int32.ofInt 0), .int (Int32.ofInt 0), .int (Int32.ofInt 0), .int (Int32.ofInt 0), .int (Int32.ofInt 0), .int (Int32.ofInt 0), .int (Int32.ofInt 0), .ref q94, .ref q102, .ref q110, .ref q118, .ref q126, .ref q134, .int (Int32.ofInt 0), .int (Int32.ofInt 0), .ref q143, .ref q151, .ref q160, .int (Int32.ofInt 0), .ref q167, .ref q174, .ref q182, .null, .null, .null]) 187 dX12_init_184 rfl Q_12_76 rfl rfl ?_
  refine gn_aload 188 dX12_init_187 rfl rfl ?_
  refine gn_bipush 190 dX12_init_188 rfl (by decide) ?_
  refine gn_newi (kd := 0) (cA := cx.2.1 1) (n := 24) (ty := .int) 192 dX12_init_190 rfl rfl rfl arc_int rfl rfl (by decide) rfl rfl rfl (fun q190 => ?_)
  refine gn_putF (fs' := [.int (Int32.ofInt 0), .ref q6, .ref q14, .ref q22, .ref q30, .ref q37, .int (Int32.ofInt 0), .ref q45, .ref q53, .ref q61, .ref q70, .ref q78, .int (Int32.ofInt 0), .int (Int32.ofInt 0), .int (Int32.ofInt 0), .ref q86, .int (Int32.ofInt 0), .int (Int32.ofInt 0), .int (Int32.ofInt 0), .int (Int32.ofInt 0), .int (Int32.ofInt 0), .int (Int32.ofInt 0), .int (Int32.ofInt 0), .ref q94, .ref q102, .ref q110, .ref q118, .ref q126, .ref q134, .int (Int32.ofInt 0), .int (Int32.ofInt 0), .ref q143, .ref q151, .ref q160, .int (Int32.ofInt 0), .ref q167, .ref q174, .ref q182, .ref q190, .null, .null]) 195 dX12_init_192 rfl Q_12_79 rfl rfl ?_
  refine gn_aload 196 dX12_init_195 rfl rfl ?_
  refine gn_bipush 198 dX12_init_196 rfl (by decide) ?_
  refine gn_newi (kd := 0) (cA := cx.2.1 1) (n := 6) (ty := .int) 200 dX12_init_198 rfl rfl rfl arc_int rfl rfl (by decide) rfl rfl rfl (fun q198 => ?_)
  refine gn_putF (fs' := [.int (Int32.ofInt 0), .ref q6, .ref q14, .ref q22, .ref q30, .ref q37, .int (Int32.ofInt 0), .ref q45, .ref q53, .ref q61, .ref q70, .ref q78, .int (Int32.ofInt 0), .int (Int32.ofInt 0), .int (Int32.ofInt 0), .ref q86, .int (Int32.ofInt 0), .int (Int32.ofInt 0), .int (Int32.ofInt 0), .int (Int32.ofInt 0), .int (Int32.ofInt 0), .int (Int32.ofInt 0), .int (Int32.ofInt 0), .ref q94, .ref q102, .ref q110, .ref q118, .ref q126, .ref q134, .int (Int32.ofInt 0), .int (Int32.ofInt 0), .ref q143, .ref q151, .ref q160, .int (Int32.ofInt 0), .ref q167, .ref q174, .ref q182, .ref q190, .ref q198, .null]) 203 dX12_init_200 rfl Q_12_82 rfl rfl ?_
  refine gn_aload 204 dX12_init_203 rfl rfl ?_
  refine gn_bipush 206 dX12_init_204 rfl (by decide) ?_
  refine gn_newi (kd := 0) (cA := cx.2.1 1) (n := 6) (ty := .int) 208 dX12_init_206 rfl rfl rfl arc_int rfl rfl (by decide) rfl rfl rfl (fun q206 => ?_)
  refine gn_putF (fs' := [.int (Int32.ofInt 0), .ref q6, .ref q14, .ref q22, .ref q30, .ref q37, .int (Int32.ofInt 0), .ref q45, .ref q53, .ref q61, .ref q70, .ref q78, .int (Int32.ofInt 0), .int (Int32.ofInt 0), .int (Int32.ofInt 0), .ref q86, .int (Int32.ofInt 0), .int (Int32.ofInt 0), .int (Int32.ofInt 0), .int (Int32.ofInt 0), .int (Int32.ofInt 0), .int (Int32.ofInt 0), .int (Int32.ofInt 0), .ref q94, .ref q102, .ref q110, .ref q118, .ref q126, .ref q134, .int (Int32.ofInt 0), .int (Int32.ofInt 0), .ref q143, .ref q151, .ref q160, .int (Int32.ofInt 0), .ref q167, .ref q174, .ref q182, .ref q190, .ref q198, .ref q206]) 211 dX12_init_208 rfl Q_12_85 rfl rfl ?_
  refine gn_iconst 212 dX12_init_211 rfl ?_
  refine gn_istore (ls' := [some (gR h0), some (gI 0)]) 213 dX12_init_212 rfl rfl rfl rfl ?_
  refine gn_iload 214 dX12_init_213 rfl rfl ?_
  refine gn_iconst 215 dX12_init_214 rfl ?_
  refine gn_geN 231 218 dX12_init_215 (by decide) rfl (by decide) ?_
  refine gn_aload 219 dX12_init_218 rfl rfl ?_
  refine gn_get (k := 35) (q := q167) 222 dX12_init_219 rfl F_12_70 rfl ?_
  refine gn_iload 223 dX12_init_222 rfl rfl ?_
  refine gn_iconst 224 dX12_init_223 rfl ?_
  refine gn_eq (ch' := [(q6, gn_z (cx.2.1 1) 4), (q14, gn_z (cx.2.1 1) 32), (q22, gn_z (cx.2.1 1) 32), (q30, gn_z (cx.2.1 1) 8), (q37, gn_z (cx.2.1 1) 5), (q45, gn_z (cx.2.1 1) 10), (q53, gn_z (cx.2.1 1) 10), (q61, gn_z (cx.2.1 1) 10), (q70, gn_z (cx.2.1 1) 144), (q78, gn_z (cx.2.1 1) 80), (q86, gn_z (cx.2.1 1) 30), (q94, gn_z (cx.2.1 1) 10), (q102, gn_z (cx.2.1 1) 10), (q110, gn_z (cx.2.1 1) 10), (q118, gn_z (cx.2.1 1) 10), (q126, gn_z (cx.2.1 1) 10), (q134, gn_z (cx.2.1 1) 10), (q143, gn_z (cx.2.1 1) 3600), (q151, gn_z (cx.2.1 1) 8), (q160, gn_z (cx.2.1 1) 270), (q167, gn_z (cx.2.1 1) 4), (q174, gn_z (cx.2.1 1) 4), (q182, gn_z (cx.2.1 1) 96), (q190, gn_z (cx.2.1 1) 24), (q198, gn_z (cx.2.1 1) 6), (q206, gn_z (cx.2.1 1) 6)]) (by simp only [List.nil_append, List.cons_append]) ?_
  refine gn_iast (ch' := [(q6, gn_z (cx.2.1 1) 4), (q14, gn_z (cx.2.1 1) 32), (q22, gn_z (cx.2.1 1) 32), (q30, gn_z (cx.2.1 1) 8), (q37, gn_z (cx.2.1 1) 5), (q45, gn_z (cx.2.1 1) 10), (q53, gn_z (cx.2.1 1) 10), (q61, gn_z (cx.2.1 1) 10), (q70, gn_z (cx.2.1 1) 144), (q78, gn_z (cx.2.1 1) 80), (q86, gn_z (cx.2.1 1) 30), (q94, gn_z (cx.2.1 1) 10), (q102, gn_z (cx.2.1 1) 10), (q110, gn_z (cx.2.1 1) 10), (q118, gn_z (cx.2.1 1) 10), (q126, gn_z (cx.2.1 1) 10), (q134, gn_z (cx.2.1 1) 10), (q143, gn_z (cx.2.1 1) 3600), (q151, gn_z (cx.2.1 1) 8), (q160, gn_z (cx.2.1 1) 270), (q167, .inl (cx.2.1 1, 4, .inl (gn_ar [-1, 0, 0, 0]))), (q174, gn_z (cx.2.1 1) 4), (q182, gn_z (cx.2.1 1) 96), (q190, gn_z (cx.2.1 1) 24), (q198, gn_z (cx.2.1 1) 6), (q206, gn_z (cx.2.1 1) 6)]) (i := 20) (n := 4) (f := (fun _ => Int32.ofInt 0)) (l := [0, 0, 0, 0]) (l' := [-1, 0, 0, 0]) 225 dX12_init_224 rfl rfl (gn_ar_z 4) ⟨by decide, by decide⟩ rfl (by decide) (by decide) rfl rfl ?_
  refine gn_iinc (y := 1) (ls' := [some (gR h0), some (gI 1)]) 228 dX12_init_225 rfl rfl rfl rfl (by decide) rfl ?_
  refine gn_goto 213 dX12_init_228 (by decide) ?_
  refine gn_iload 214 dX12_init_213 rfl rfl ?_
  refine gn_iconst 215 dX12_init_214 rfl ?_
  refine gn_geN 231 218 dX12_init_215 (by decide) rfl (by decide) ?_
  refine gn_aload 219 dX12_init_218 rfl rfl ?_
  refine gn_get (k := 35) (q := q167) 222 dX12_init_219 rfl F_12_70 rfl ?_
  refine gn_iload 223 dX12_init_222 rfl rfl ?_
  refine gn_iconst 224 dX12_init_223 rfl ?_
  refine gn_iast (ch' := [(q6, gn_z (cx.2.1 1) 4), (q14, gn_z (cx.2.1 1) 32), (q22, gn_z (cx.2.1 1) 32), (q30, gn_z (cx.2.1 1) 8), (q37, gn_z (cx.2.1 1) 5), (q45, gn_z (cx.2.1 1) 10), (q53, gn_z (cx.2.1 1) 10), (q61, gn_z (cx.2.1 1) 10), (q70, gn_z (cx.2.1 1) 144), (q78, gn_z (cx.2.1 1) 80), (q86, gn_z (cx.2.1 1) 30), (q94, gn_z (cx.2.1 1) 10), (q102, gn_z (cx.2.1 1) 10), (q110, gn_z (cx.2.1 1) 10), (q118, gn_z (cx.2.1 1) 10), (q126, gn_z (cx.2.1 1) 10), (q134, gn_z (cx.2.1 1) 10), (q143, gn_z (cx.2.1 1) 3600), (q151, gn_z (cx.2.1 1) 8), (q160, gn_z (cx.2.1 1) 270), (q167, .inl (cx.2.1 1, 4, .inl (gn_ar [-1, -1, 0, 0]))), (q174, gn_z (cx.2.1 1) 4), (q182, gn_z (cx.2.1 1) 96), (q190, gn_z (cx.2.1 1) 24), (q198, gn_z (cx.2.1 1) 6), (q206, gn_z (cx.2.1 1) 6)]) (i := 20) (n := 4) (f := gn_ar [-1, 0, 0, 0]) (l := [-1, 0, 0, 0]) (l' := [-1, -1, 0, 0]) 225 dX12_init_224 rfl rfl rfl ⟨by decide, by decide⟩ rfl (by decide) (by decide) rfl rfl ?_
  refine gn_iinc (y := 2) (ls' := [some (gR h0), some (gI 2)]) 228 dX12_init_225 rfl rfl rfl rfl (by decide) rfl ?_
  refine gn_goto 213 dX12_init_228 (by decide) ?_
  refine gn_iload 214 dX12_init_213 rfl rfl ?_
  refine gn_iconst 215 dX12_init_214 rfl ?_
  refine gn_geN 231 218 dX12_init_215 (by decide) rfl (by decide) ?_
  refine gn_aload 219 dX12_init_218 rfl rfl ?_
  refine gn_get (k := 35) (q := q167) 222 dX12_init_219 rfl F_12_70 rfl ?_
  refine gn_iload 223 dX12_init_222 rfl rfl ?_
  refine gn_iconst 224 dX12_init_223 rfl ?_
  refine gn_iast (ch' := [(q6, gn_z (cx.2.1 1) 4), (q14, gn_z (cx.2.1 1) 32), (q22, gn_z (cx.2.1 1) 32), (q30, gn_z (cx.2.1 1) 8), (q37, gn_z (cx.2.1 1) 5), (q45, gn_z (cx.2.1 1) 10), (q53, gn_z (cx.2.1 1) 10), (q61, gn_z (cx.2.1 1) 10), (q70, gn_z (cx.2.1 1) 144), (q78, gn_z (cx.2.1 1) 80), (q86, gn_z (cx.2.1 1) 30), (q94, gn_z (cx.2.1 1) 10), (q102, gn_z (cx.2.1 1) 10), (q110, gn_z (cx.2.1 1) 10), (q118, gn_z (cx.2.1 1) 10), (q126, gn_z (cx.2.1 1) 10), (q134, gn_z (cx.2.1 1) 10), (q143, gn_z (cx.2.1 1) 3600), (q151, gn_z (cx.2.1 1) 8), (q160, gn_z (cx.2.1 1) 270), (q167, .inl (cx.2.1 1, 4, .inl (gn_ar [-1, -1, -1, 0]))), (q174, gn_z (cx.2.1 1) 4), (q182, gn_z (cx.2.1 1) 96), (q190, gn_z (cx.2.1 1) 24), (q198, gn_z (cx.2.1 1) 6), (q206, gn_z (cx.2.1 1) 6)]) (i := 20) (n := 4) (f := gn_ar [-1, -1, 0, 0]) (l := [-1, -1, 0, 0]) (l' := [-1, -1, -1, 0]) 225 dX12_init_224 rfl rfl rfl ⟨by decide, by decide⟩ rfl (by decide) (by decide) rfl rfl ?_
  refine gn_iinc (y := 3) (ls' := [some (gR h0), some (gI 3)]) 228 dX12_init_225 rfl rfl rfl rfl (by decide) rfl ?_
  refine gn_goto 213 dX12_init_228 (by decide) ?_
  refine gn_iload 214 dX12_init_213 rfl rfl ?_
  refine gn_iconst 215 dX12_init_214 rfl ?_
  refine gn_geN 231 218 dX12_init_215 (by decide) rfl (by decide) ?_
  refine gn_aload 219 dX12_init_218 rfl rfl ?_
  refine gn_get (k := 35) (q := q167) 222 dX12_init_219 rfl F_12_70 rfl ?_
  refine gn_iload 223 dX12_init_222 rfl rfl ?_
  refine gn_iconst 224 dX12_init_223 rfl ?_
  refine gn_iast (ch' := [(q6, gn_z (cx.2.1 1) 4), (q14, gn_z (cx.2.1 1) 32), (q22, gn_z (cx.2.1 1) 32), (q30, gn_z (cx.2.1 1) 8), (q37, gn_z (cx.2.1 1) 5), (q45, gn_z (cx.2.1 1) 10), (q53, gn_z (cx.2.1 1) 10), (q61, gn_z (cx.2.1 1) 10), (q70, gn_z (cx.2.1 1) 144), (q78, gn_z (cx.2.1 1) 80), (q86, gn_z (cx.2.1 1) 30), (q94, gn_z (cx.2.1 1) 10), (q102, gn_z (cx.2.1 1) 10), (q110, gn_z (cx.2.1 1) 10), (q118, gn_z (cx.2.1 1) 10), (q126, gn_z (cx.2.1 1) 10), (q134, gn_z (cx.2.1 1) 10), (q143, gn_z (cx.2.1 1) 3600), (q151, gn_z (cx.2.1 1) 8), (q160, gn_z (cx.2.1 1) 270), (q167, .inl (cx.2.1 1, 4, .inl (gn_ar [-1, -1, -1, -1]))), (q174, gn_z (cx.2.1 1) 4), (q182, gn_z (cx.2.1 1) 96), (q190, gn_z (cx.2.1 1) 24), (q198, gn_z (cx.2.1 1) 6), (q206, gn_z (cx.2.1 1) 6)]) (i := 20) (n := 4) (f := gn_ar [-1, -1, -1, 0]) (l := [-1, -1, -1, 0]) (l' := [-1, -1, -1, -1]) 225 dX12_init_224 rfl rfl rfl ⟨by decide, by decide⟩ rfl (by decide) (by decide) rfl rfl ?_
  refine gn_iinc (y := 4) (ls' := [some (gR h0), some (gI 4)]) 228 dX12_init_225 rfl rfl rfl rfl (by decide) rfl ?_
  refine gn_goto 213 dX12_init_228 (by decide) ?_
  refine gn_iload 214 dX12_init_213 rfl rfl ?_
  refine gn_iconst 215 dX12_init_214 rfl ?_
  refine gn_geY 231 dX12_init_215 (by decide) (by decide) ?_
  refine gn_aload 232 dX12_init_231 rfl rfl ?_
  refine gn_bipush 234 dX12_init_232 rfl (by decide) ?_
  refine gn_putI (fs' := [.int (Int32.ofInt 40), .ref q6, .ref q14, .ref q22, .ref q30, .ref q37, .int (Int32.ofInt 0), .ref q45, .ref q53, .ref q61, .ref q70, .ref q78, .int (Int32.ofInt 0), .int (Int32.ofInt 0), .int (Int32.ofInt 0), .ref q86, .int (Int32.ofInt 0), .int (Int32.ofInt 0), .int (Int32.ofInt 0), .int (Int32.ofInt 0), .int (Int32.ofInt 0), .int (Int32.ofInt 0), .int (Int32.ofInt 0), .ref q94, .ref q102, .ref q110, .ref q118, .ref q126, .ref q134, .int (Int32.ofInt 0), .int (Int32.ofInt 0), .ref q143, .ref q151, .ref q160, .int (Int32.ofInt 0), .ref q167, .ref q174, .ref q182, .ref q190, .ref q198, .ref q206]) 237 dX12_init_234 rfl P_12_88 (Or.inl rfl) rfl rfl ?_
  refine gn_aload 238 dX12_init_237 rfl rfl ?_
  refine gn_get (k := 5) (q := q37) 241 dX12_init_238 rfl F_12_22 rfl ?_
  refine gn_iconst 242 dX12_init_241 rfl ?_
  refine gn_iconst 243 dX12_init_242 rfl ?_
  refine gn_iast (ch' := [(q6, gn_z (cx.2.1 1) 4), (q14, gn_z (cx.2.1 1) 32), (q22, gn_z (cx.2.1 1) 32), (q30, gn_z (cx.2.1 1) 8), (q37, .inl (cx.2.1 1, 5, .inl (gn_ar [2, 0, 0, 0, 0]))), (q45, gn_z (cx.2.1 1) 10), (q53, gn_z (cx.2.1 1) 10), (q61, gn_z (cx.2.1 1) 10), (q70, gn_z (cx.2.1 1) 144), (q78, gn_z (cx.2.1 1) 80), (q86, gn_z (cx.2.1 1) 30), (q94, gn_z (cx.2.1 1) 10), (q102, gn_z (cx.2.1 1) 10), (q110, gn_z (cx.2.1 1) 10), (q118, gn_z (cx.2.1 1) 10), (q126, gn_z (cx.2.1 1) 10), (q134, gn_z (cx.2.1 1) 10), (q143, gn_z (cx.2.1 1) 3600), (q151, gn_z (cx.2.1 1) 8), (q160, gn_z (cx.2.1 1) 270), (q167, .inl (cx.2.1 1, 4, .inl (gn_ar [-1, -1, -1, -1]))), (q174, gn_z (cx.2.1 1) 4), (q182, gn_z (cx.2.1 1) 96), (q190, gn_z (cx.2.1 1) 24), (q198, gn_z (cx.2.1 1) 6), (q206, gn_z (cx.2.1 1) 6)]) (i := 4) (n := 5) (f := (fun _ => Int32.ofInt 0)) (l := [0, 0, 0, 0, 0]) (l' := [2, 0, 0, 0, 0]) 244 dX12_init_243 rfl rfl (gn_ar_z 5) ⟨by decide, by decide⟩ rfl (by decide) (by decide) rfl rfl ?_
  refine gn_aload 245 dX12_init_244 rfl rfl ?_
  refine gn_get (k := 5) (q := q37) 248 dX12_init_245 rfl F_12_22 rfl ?_
  refine gn_iconst 249 dX12_init_248 rfl ?_
  refine gn_iconst 250 dX12_init_249 rfl ?_
  refine gn_iast (ch' := [(q6, gn_z (cx.2.1 1) 4), (q14, gn_z (cx.2.1 1) 32), (q22, gn_z (cx.2.1 1) 32), (q30, gn_z (cx.2.1 1) 8), (q37, .inl (cx.2.1 1, 5, .inl (gn_ar [2, 5, 0, 0, 0]))), (q45, gn_z (cx.2.1 1) 10), (q53, gn_z (cx.2.1 1) 10), (q61, gn_z (cx.2.1 1) 10), (q70, gn_z (cx.2.1 1) 144), (q78, gn_z (cx.2.1 1) 80), (q86, gn_z (cx.2.1 1) 30), (q94, gn_z (cx.2.1 1) 10), (q102, gn_z (cx.2.1 1) 10), (q110, gn_z (cx.2.1 1) 10), (q118, gn_z (cx.2.1 1) 10), (q126, gn_z (cx.2.1 1) 10), (q134, gn_z (cx.2.1 1) 10), (q143, gn_z (cx.2.1 1) 3600), (q151, gn_z (cx.2.1 1) 8), (q160, gn_z (cx.2.1 1) 270), (q167, .inl (cx.2.1 1, 4, .inl (gn_ar [-1, -1, -1, -1]))), (q174, gn_z (cx.2.1 1) 4), (q182, gn_z (cx.2.1 1) 96), (q190, gn_z (cx.2.1 1) 24), (q198, gn_z (cx.2.1 1) 6), (q206, gn_z (cx.2.1 1) 6)]) (i := 4) (n := 5) (f := gn_ar [2, 0, 0, 0, 0]) (l := [2, 0, 0, 0, 0]) (l' := [2, 5, 0, 0, 0]) 251 dX12_init_250 rfl rfl rfl ⟨by decide, by decide⟩ rfl (by decide) (by decide) rfl rfl ?_
  refine gn_aload 252 dX12_init_251 rfl rfl ?_
  refine gn_get (k := 5) (q := q37) 255 dX12_init_252 rfl F_12_22 rfl ?_
  refine gn_iconst 256 dX12_init_255 rfl ?_
  refine gn_bipush 258 dX12_init_256 rfl (by decide) ?_
  refine gn_iast (ch' := [(q6, gn_z (cx.2.1 1) 4), (q14, gn_z (cx.2.1 1) 32), (q22, gn_z (cx.2.1 1) 32), (q30, gn_z (cx.2.1 1) 8), (q37, .inl (cx.2.1 1, 5, .inl (gn_ar [2, 5, 0, 10, 0]))), (q45, gn_z (cx.2.1 1) 10), (q53, gn_z (cx.2.1 1) 10), (q61, gn_z (cx.2.1 1) 10), (q70, gn_z (cx.2.1 1) 144), (q78, gn_z (cx.2.1 1) 80), (q86, gn_z (cx.2.1 1) 30), (q94, gn_z (cx.2.1 1) 10), (q102, gn_z (cx.2.1 1) 10), (q110, gn_z (cx.2.1 1) 10), (q118, gn_z (cx.2.1 1) 10), (q126, gn_z (cx.2.1 1) 10), (q134, gn_z (cx.2.1 1) 10), (q143, gn_z (cx.2.1 1) 3600), (q151, gn_z (cx.2.1 1) 8), (q160, gn_z (cx.2.1 1) 270), (q167, .inl (cx.2.1 1, 4, .inl (gn_ar [-1, -1, -1, -1]))), (q174, gn_z (cx.2.1 1) 4), (q182, gn_z (cx.2.1 1) 96), (q190, gn_z (cx.2.1 1) 24), (q198, gn_z (cx.2.1 1) 6), (q206, gn_z (cx.2.1 1) 6)]) (i := 4) (n := 5) (f := gn_ar [2, 5, 0, 0, 0]) (l := [2, 5, 0, 0, 0]) (l' := [2, 5, 0, 10, 0]) 259 dX12_init_258 rfl rfl rfl ⟨by decide, by decide⟩ rfl (by decide) (by decide) rfl rfl ?_
  refine gn_aload 260 dX12_init_259 rfl rfl ?_
  refine gn_get (k := 5) (q := q37) 263 dX12_init_260 rfl F_12_22 rfl ?_
  refine gn_iconst 264 dX12_init_263 rfl ?_
  refine gn_iconst 265 dX12_init_264 rfl ?_
  refine gn_iast (ch' := [(q6, gn_z (cx.2.1 1) 4), (q14, gn_z (cx.2.1 1) 32), (q22, gn_z (cx.2.1 1) 32), (q30, gn_z (cx.2.1 1) 8), (q37, .inl (cx.2.1 1, 5, .inl (gn_ar [2, 5, 0, 10, 3]))), (q45, gn_z (cx.2.1 1) 10), (q53, gn_z (cx.2.1 1) 10), (q61, gn_z (cx.2.1 1) 10), (q70, gn_z (cx.2.1 1) 144), (q78, gn_z (cx.2.1 1) 80), (q86, gn_z (cx.2.1 1) 30), (q94, gn_z (cx.2.1 1) 10), (q102, gn_z (cx.2.1 1) 10), (q110, gn_z (cx.2.1 1) 10), (q118, gn_z (cx.2.1 1) 10), (q126, gn_z (cx.2.1 1) 10), (q134, gn_z (cx.2.1 1) 10), (q143, gn_z (cx.2.1 1) 3600), (q151, gn_z (cx.2.1 1) 8), (q160, gn_z (cx.2.1 1) 270), (q167, .inl (cx.2.1 1, 4, .inl (gn_ar [-1, -1, -1, -1]))), (q174, gn_z (cx.2.1 1) 4), (q182, gn_z (cx.2.1 1) 96), (q190, gn_z (cx.2.1 1) 24), (q198, gn_z (cx.2.1 1) 6), (q206, gn_z (cx.2.1 1) 6)]) (i := 4) (n := 5) (f := gn_ar [2, 5, 0, 10, 0]) (l := [2, 5, 0, 10, 0]) (l' := [2, 5, 0, 10, 3]) 266 dX12_init_265 rfl rfl rfl ⟨by decide, by decide⟩ rfl (by decide) (by decide) rfl rfl ?_
  refine gn_iconst 267 dX12_init_266 rfl ?_
  refine gn_istore (ls' := [some (gR h0), some (gI 0)]) 268 dX12_init_267 rfl rfl rfl rfl ?_
  refine gn_iload 269 dX12_init_268 rfl rfl ?_
  refine gn_bipush 271 dX12_init_269 rfl (by decide) ?_
  refine gn_geN 288 274 dX12_init_271 (by decide) rfl (by decide) ?_
  refine gn_aload 275 dX12_init_274 rfl rfl ?_
  refine gn_get (k := 4) (q := q30) 278 dX12_init_275 rfl F_12_19 rfl ?_
  refine gn_iload 279 dX12_init_278 rfl rfl ?_
  refine gn_bipush 281 dX12_init_279 rfl (by decide) ?_
  refine gn_iast (ch' := [(q6, gn_z (cx.2.1 1) 4), (q14, gn_z (cx.2.1 1) 32), (q22, gn_z (cx.2.1 1) 32), (q30, .inl (cx.2.1 1, 8, .inl (gn_ar [10, 0, 0, 0, 0, 0, 0, 0]))), (q37, .inl (cx.2.1 1, 5, .inl (gn_ar [2, 5, 0, 10, 3]))), (q45, gn_z (cx.2.1 1) 10), (q53, gn_z (cx.2.1 1) 10), (q61, gn_z (cx.2.1 1) 10), (q70, gn_z (cx.2.1 1) 144), (q78, gn_z (cx.2.1 1) 80), (q86, gn_z (cx.2.1 1) 30), (q94, gn_z (cx.2.1 1) 10), (q102, gn_z (cx.2.1 1) 10), (q110, gn_z (cx.2.1 1) 10), (q118, gn_z (cx.2.1 1) 10), (q126, gn_z (cx.2.1 1) 10), (q134, gn_z (cx.2.1 1) 10), (q143, gn_z (cx.2.1 1) 3600), (q151, gn_z (cx.2.1 1) 8), (q160, gn_z (cx.2.1 1) 270), (q167, .inl (cx.2.1 1, 4, .inl (gn_ar [-1, -1, -1, -1]))), (q174, gn_z (cx.2.1 1) 4), (q182, gn_z (cx.2.1 1) 96), (q190, gn_z (cx.2.1 1) 24), (q198, gn_z (cx.2.1 1) 6), (q206, gn_z (cx.2.1 1) 6)]) (i := 3) (n := 8) (f := (fun _ => Int32.ofInt 0)) (l := [0, 0, 0, 0, 0, 0, 0, 0]) (l' := [10, 0, 0, 0, 0, 0, 0, 0]) 282 dX12_init_281 rfl rfl (gn_ar_z 8) ⟨by decide, by decide⟩ rfl (by decide) (by decide) rfl rfl ?_
  refine gn_iinc (y := 1) (ls' := [some (gR h0), some (gI 1)]) 285 dX12_init_282 rfl rfl rfl rfl (by decide) rfl ?_
  refine gn_goto 268 dX12_init_285 (by decide) ?_
  refine gn_iload 269 dX12_init_268 rfl rfl ?_
  refine gn_bipush 271 dX12_init_269 rfl (by decide) ?_
  refine gn_geN 288 274 dX12_init_271 (by decide) rfl (by decide) ?_
  refine gn_aload 275 dX12_init_274 rfl rfl ?_
  refine gn_get (k := 4) (q := q30) 278 dX12_init_275 rfl F_12_19 rfl ?_
  refine gn_iload 279 dX12_init_278 rfl rfl ?_
  refine gn_bipush 281 dX12_init_279 rfl (by decide) ?_
  refine gn_iast (ch' := [(q6, gn_z (cx.2.1 1) 4), (q14, gn_z (cx.2.1 1) 32), (q22, gn_z (cx.2.1 1) 32), (q30, .inl (cx.2.1 1, 8, .inl (gn_ar [10, 10, 0, 0, 0, 0, 0, 0]))), (q37, .inl (cx.2.1 1, 5, .inl (gn_ar [2, 5, 0, 10, 3]))), (q45, gn_z (cx.2.1 1) 10), (q53, gn_z (cx.2.1 1) 10), (q61, gn_z (cx.2.1 1) 10), (q70, gn_z (cx.2.1 1) 144), (q78, gn_z (cx.2.1 1) 80), (q86, gn_z (cx.2.1 1) 30), (q94, gn_z (cx.2.1 1) 10), (q102, gn_z (cx.2.1 1) 10), (q110, gn_z (cx.2.1 1) 10), (q118, gn_z (cx.2.1 1) 10), (q126, gn_z (cx.2.1 1) 10), (q134, gn_z (cx.2.1 1) 10), (q143, gn_z (cx.2.1 1) 3600), (q151, gn_z (cx.2.1 1) 8), (q160, gn_z (cx.2.1 1) 270), (q167, .inl (cx.2.1 1, 4, .inl (gn_ar [-1, -1, -1, -1]))), (q174, gn_z (cx.2.1 1) 4), (q182, gn_z (cx.2.1 1) 96), (q190, gn_z (cx.2.1 1) 24), (q198, gn_z (cx.2.1 1) 6), (q206, gn_z (cx.2.1 1) 6)]) (i := 3) (n := 8) (f := gn_ar [10, 0, 0, 0, 0, 0, 0, 0]) (l := [10, 0, 0, 0, 0, 0, 0, 0]) (l' := [10, 10, 0, 0, 0, 0, 0, 0]) 282 dX12_init_281 rfl rfl rfl ⟨by decide, by decide⟩ rfl (by decide) (by decide) rfl rfl ?_
  refine gn_iinc (y := 2) (ls' := [some (gR h0), some (gI 2)]) 285 dX12_init_282 rfl rfl rfl rfl (by decide) rfl ?_
  refine gn_goto 268 dX12_init_285 (by decide) ?_
  refine gn_iload 269 dX12_init_268 rfl rfl ?_
  refine gn_bipush 271 dX12_init_269 rfl (by decide) ?_
  refine gn_geN 288 274 dX12_init_271 (by decide) rfl (by decide) ?_
  refine gn_aload 275 dX12_init_274 rfl rfl ?_
  refine gn_get (k := 4) (q := q30) 278 dX12_init_275 rfl F_12_19 rfl ?_
  refine gn_iload 279 dX12_init_278 rfl rfl ?_
  refine gn_bipush 281 dX12_init_279 rfl (by decide) ?_
  refine gn_iast (ch' := [(q6, gn_z (cx.2.1 1) 4), (q14, gn_z (cx.2.1 1) 32), (q22, gn_z (cx.2.1 1) 32), (q30, .inl (cx.2.1 1, 8, .inl (gn_ar [10, 10, 10, 0, 0, 0, 0, 0]))), (q37, .inl (cx.2.1 1, 5, .inl (gn_ar [2, 5, 0, 10, 3]))), (q45, gn_z (cx.2.1 1) 10), (q53, gn_z (cx.2.1 1) 10), (q61, gn_z (cx.2.1 1) 10), (q70, gn_z (cx.2.1 1) 144), (q78, gn_z (cx.2.1 1) 80), (q86, gn_z (cx.2.1 1) 30), (q94, gn_z (cx.2.1 1) 10), (q102, gn_z (cx.2.1 1) 10), (q110, gn_z (cx.2.1 1) 10), (q118, gn_z (cx.2.1 1) 10), (q126, gn_z (cx.2.1 1) 10), (q134, gn_z (cx.2.1 1) 10), (q143, gn_z (cx.2.1 1) 3600), (q151, gn_z (cx.2.1 1) 8), (q160, gn_z (cx.2.1 1) 270), (q167, .inl (cx.2.1 1, 4, .inl (gn_ar [-1, -1, -1, -1]))), (q174, gn_z (cx.2.1 1) 4), (q182, gn_z (cx.2.1 1) 96), (q190, gn_z (cx.2.1 1) 24), (q198, gn_z (cx.2.1 1) 6), (q206, gn_z (cx.2.1 1) 6)]) (i := 3) (n := 8) (f := gn_ar [10, 10, 0, 0, 0, 0, 0, 0]) (l := [10, 10, 0, 0, 0, 0, 0, 0]) (l' := [10, 10, 10, 0, 0, 0, 0, 0]) 282 dX12_init_281 rfl rfl rfl ⟨by decide, by decide⟩ rfl (by decide) (by decide) rfl rfl ?_
  refine gn_iinc (y := 3) (ls' := [some (gR h0), some (gI 3)]) 285 dX12_init_282 rfl rfl rfl rfl (by decide) rfl ?_
  refine gn_goto 268 dX12_init_285 (by decide) ?_
  refine gn_iload 269 dX12_init_268 rfl rfl ?_
  refine gn_bipush 271 dX12_init_269 rfl (by decide) ?_
  refine gn_geN 288 274 dX12_init_271 (by decide) rfl (by decide) ?_
  refine gn_aload 275 dX12_init_274 rfl rfl ?_
  refine gn_get (k := 4) (q := q30) 278 dX12_init_275 rfl F_12_19 rfl ?_
  refine gn_iload 279 dX12_init_278 rfl rfl ?_
  refine gn_bipush 281 dX12_init_279 rfl (by decide) ?_
  refine gn_iast (ch' := [(q6, gn_z (cx.2.1 1) 4), (q14, gn_z (cx.2.1 1) 32), (q22, gn_z (cx.2.1 1) 32), (q30, .inl (cx.2.1 1, 8, .inl (gn_ar [10, 10, 10, 10, 0, 0, 0, 0]))), (q37, .inl (cx.2.1 1, 5, .inl (gn_ar [2, 5, 0, 10, 3]))), (q45, gn_z (cx.2.1 1) 10), (q53, gn_z (cx.2.1 1) 10), (q61, gn_z (cx.2.1 1) 10), (q70, gn_z (cx.2.1 1) 144), (q78, gn_z (cx.2.1 1) 80), (q86, gn_z (cx.2.1 1) 30), (q94, gn_z (cx.2.1 1) 10), (q102, gn_z (cx.2.1 1) 10), (q110, gn_z (cx.2.1 1) 10), (q118, gn_z (cx.2.1 1) 10), (q126, gn_z (cx.2.1 1) 10), (q134, gn_z (cx.2.1 1) 10), (q143, gn_z (cx.2.1 1) 3600), (q151, gn_z (cx.2.1 1) 8), (q160, gn_z (cx.2.1 1) 270), (q167, .inl (cx.2.1 1, 4, .inl (gn_ar [-1, -1, -1, -1]))), (q174, gn_z (cx.2.1 1) 4), (q182, gn_z (cx.2.1 1) 96), (q190, gn_z (cx.2.1 1) 24), (q198, gn_z (cx.2.1 1) 6), (q206, gn_z (cx.2.1 1) 6)]) (i := 3) (n := 8) (f := gn_ar [10, 10, 10, 0, 0, 0, 0, 0]) (l := [10, 10, 10, 0, 0, 0, 0, 0]) (l' := [10, 10, 10, 10, 0, 0, 0, 0]) 282 dX12_init_281 rfl rfl rfl ⟨by decide, by decide⟩ rfl (by decide) (by decide) rfl rfl ?_
  refine gn_iinc (y := 4) (ls' := [some (gR h0), some (gI 4)]) 285 dX12_init_282 rfl rfl rfl rfl (by decide) rfl ?_
  refine gn_goto 268 dX12_init_285 (by decide) ?_
  refine gn_iload 269 dX12_init_268 rfl rfl ?_
  refine gn_bipush 271 dX12_init_269 rfl (by decide) ?_
  refine gn_geN 288 274 dX12_init_271 (by decide) rfl (by decide) ?_
  refine gn_aload 275 dX12_init_274 rfl rfl ?_
  refine gn_get (k := 4) (q := q30) 278 dX12_init_275 rfl F_12_19 rfl ?_
  refine gn_iload 279 dX12_init_278 rfl rfl ?_
  refine gn_bipush 281 dX12_init_279 rfl (by decide) ?_
  refine gn_iast (ch' := [(q6, gn_z (cx.2.1 1) 4), (q14, gn_z (cx.2.1 1) 32), (q22, gn_z (cx.2.1 1) 32), (q30, .inl (cx.2.1 1, 8, .inl (gn_ar [10, 10, 10, 10, 10, 0, 0, 0]))), (q37, .inl (cx.2.1 1, 5, .inl (gn_ar [2, 5, 0, 10, 3]))), (q45, gn_z (cx.2.1 1) 10), (q53, gn_z (cx.2.1 1) 10), (q61, gn_z (cx.2.1 1) 10), (q70, gn_z (cx.2.1 1) 144), (q78, gn_z (cx.2.1 1) 80), (q86, gn_z (cx.2.1 1) 30), (q94, gn_z (cx.2.1 1) 10), (q102, gn_z (cx.2.1 1) 10), (q110, gn_z (cx.2.1 1) 10), (q118, gn_z (cx.2.1 1) 10), (q126, gn_z (cx.2.1 1) 10), (q134, gn_z (cx.2.1 1) 10), (q143, gn_z (cx.2.1 1) 3600), (q151, gn_z (cx.2.1 1) 8), (q160, gn_z (cx.2.1 1) 270), (q167, .inl (cx.2.1 1, 4, .inl (gn_ar [-1, -1, -1, -1]))), (q174, gn_z (cx.2.1 1) 4), (q182, gn_z (cx.2.1 1) 96), (q190, gn_z (cx.2.1 1) 24), (q198, gn_z (cx.2.1 1) 6), (q206, gn_z (cx.2.1 1) 6)]) (i := 3) (n := 8) (f := gn_ar [10, 10, 10, 10, 0, 0, 0, 0]) (l := [10, 10, 10, 10, 0, 0, 0, 0]) (l' := [10, 10, 10, 10, 10, 0, 0, 0]) 282 dX12_init_281 rfl rfl rfl ⟨by decide, by decide⟩ rfl (by decide) (by decide) rfl rfl ?_
  refine gn_iinc (y := 5) (ls' := [some (gR h0), some (gI 5)]) 285 dX12_init_282 rfl rfl rfl rfl (by decide) rfl ?_
  refine gn_goto 268 dX12_init_285 (by decide) ?_
  refine gn_iload 269 dX12_init_268 rfl rfl ?_
  refine gn_bipush 271 dX12_init_269 rfl (by decide) ?_
  refine gn_geN 288 274 dX12_init_271 (by decide) rfl (by decide) ?_
  refine gn_aload 275 dX12_init_274 rfl rfl ?_
  refine gn_get (k := 4) (q := q30) 278 dX12_init_275 rfl F_12_19 rfl ?_
  refine gn_iload 279 dX12_init_278 rfl rfl ?_
  refine gn_bipush 281 dX12_init_279 rfl (by decide) ?_
  refine gn_iast (ch' := [(q6, gn_z (cx.2.1 1) 4), (q14, gn_z (cx.2.1 1) 32), (q22, gn_z (cx.2.1 1) 32), (q30, .inl (cx.2.1 1, 8, .inl (gn_ar [10, 10, 10, 10, 10, 10, 0, 0]))), (q37, .inl (cx.2.1 1, 5, .inl (gn_ar [2, 5, 0, 10, 3]))), (q45, gn_z (cx.2.1 1) 10), (q53, gn_z (cx.2.1 1) 10), (q61, gn_z (cx.2.1 1) 10), (q70, gn_z (cx.2.1 1) 144), (q78, gn_z (cx.2.1 1) 80), (q86, gn_z (cx.2.1 1) 30), (q94, gn_z (cx.2.1 1) 10), (q102, gn_z (cx.2.1 1) 10), (q110, gn_z (cx.2.1 1) 10), (q118, gn_z (cx.2.1 1) 10), (q126, gn_z (cx.2.1 1) 10), (q134, gn_z (cx.2.1 1) 10), (q143, gn_z (cx.2.1 1) 3600), (q151, gn_z (cx.2.1 1) 8), (q160, gn_z (cx.2.1 1) 270), (q167, .inl (cx.2.1 1, 4, .inl (gn_ar [-1, -1, -1, -1]))), (q174, gn_z (cx.2.1 1) 4), (q182, gn_z (cx.2.1 1) 96), (q190, gn_z (cx.2.1 1) 24), (q198, gn_z (cx.2.1 1) 6), (q206, gn_z (cx.2.1 1) 6)]) (i := 3) (n := 8) (f := gn_ar [10, 10, 10, 10, 10, 0, 0, 0]) (l := [10, 10, 10, 10, 10, 0, 0, 0]) (l' := [10, 10, 10, 10, 10, 10, 0, 0]) 282 dX12_init_281 rfl rfl rfl ⟨by decide, by decide⟩ rfl (by decide) (by decide) rfl rfl ?_
  refine gn_iinc (y := 6) (ls' := [some (gR h0), some (gI 6)]) 285 dX12_init_282 rfl rfl rfl rfl (by decide) rfl ?_
  refine gn_goto 268 dX12_init_285 (by decide) ?_
  refine gn_iload 269 dX12_init_268 rfl rfl ?_
  refine gn_bipush 271 dX12_init_269 rfl (by decide) ?_
  refine gn_geN 288 274 dX12_init_271 (by decide) rfl (by decide) ?_
  refine gn_aload 275 dX12_init_274 rfl rfl ?_
  refine gn_get (k := 4) (q := q30) 278 dX12_init_275 rfl F_12_19 rfl ?_
  refine gn_iload 279 dX12_init_278 rfl rfl ?_
  refine gn_bipush 281 dX12_init_279 rfl (by decide) ?_
  refine gn_iast (ch' := [(q6, gn_z (cx.2.1 1) 4), (q14, gn_z (cx.2.1 1) 32), (q22, gn_z (cx.2.1 1) 32), (q30, .inl (cx.2.1 1, 8, .inl (gn_ar [10, 10, 10, 10, 10, 10, 10, 0]))), (q37, .inl (cx.2.1 1, 5, .inl (gn_ar [2, 5, 0, 10, 3]))), (q45, gn_z (cx.2.1 1) 10), (q53, gn_z (cx.2.1 1) 10), (q61, gn_z (cx.2.1 1) 10), (q70, gn_z (cx.2.1 1) 144), (q78, gn_z (cx.2.1 1) 80), (q86, gn_z (cx.2.1 1) 30), (q94, gn_z (cx.2.1 1) 10), (q102, gn_z (cx.2.1 1) 10), (q110, gn_z (cx.2.1 1) 10), (q118, gn_z (cx.2.1 1) 10), (q126, gn_z (cx.2.1 1) 10), (q134, gn_z (cx.2.1 1) 10), (q143, gn_z (cx.2.1 1) 3600), (q151, gn_z (cx.2.1 1) 8), (q160, gn_z (cx.2.1 1) 270), (q167, .inl (cx.2.1 1, 4, .inl (gn_ar [-1, -1, -1, -1]))), (q174, gn_z (cx.2.1 1) 4), (q182, gn_z (cx.2.1 1) 96), (q190, gn_z (cx.2.1 1) 24), (q198, gn_z (cx.2.1 1) 6), (q206, gn_z (cx.2.1 1) 6)]) (i := 3) (n := 8) (f := gn_ar [10, 10, 10, 10, 10, 10, 0, 0]) (l := [10, 10, 10, 10, 10, 10, 0, 0]) (l' := [10, 10, 10, 10, 10, 10, 10, 0]) 282 dX12_init_281 rfl rfl rfl ⟨by decide, by decide⟩ rfl (by decide) (by decide) rfl rfl ?_
  refine gn_iinc (y := 7) (ls' := [some (gR h0), some (gI 7)]) 285 dX12_init_282 rfl rfl rfl rfl (by decide) rfl ?_
  refine gn_goto 268 dX12_init_285 (by decide) ?_
  refine gn_iload 269 dX12_init_268 rfl rfl ?_
  refine gn_bipush 271 dX12_init_269 rfl (by decide) ?_
  refine gn_geN 288 274 dX12_init_271 (by decide) rfl (by decide) ?_
  refine gn_aload 275 dX12_init_274 rfl rfl ?_
  refine gn_get (k := 4) (q := q30) 278 dX12_init_275 rfl F_12_19 rfl ?_
  refine gn_iload 279 dX12_init_278 rfl rfl ?_
  refine gn_bipush 281 dX12_init_279 rfl (by decide) ?_
  refine gn_iast (ch' := [(q6, gn_z (cx.2.1 1) 4), (q14, gn_z (cx.2.1 1) 32), (q22, gn_z (cx.2.1 1) 32), (q30, .inl (cx.2.1 1, 8, .inl (gn_ar [10, 10, 10, 10, 10, 10, 10, 10]))), (q37, .inl (cx.2.1 1, 5, .inl (gn_ar [2, 5, 0, 10, 3]))), (q45, gn_z (cx.2.1 1) 10), (q53, gn_z (cx.2.1 1) 10), (q61, gn_z (cx.2.1 1) 10), (q70, gn_z (cx.2.1 1) 144), (q78, gn_z (cx.2.1 1) 80), (q86, gn_z (cx.2.1 1) 30), (q94, gn_z (cx.2.1 1) 10), (q102, gn_z (cx.2.1 1) 10), (q110, gn_z (cx.2.1 1) 10), (q118, gn_z (cx.2.1 1) 10), (q126, gn_z (cx.2.1 1) 10), (q134, gn_z (cx.2.1 1) 10), (q143, gn_z (cx.2.1 1) 3600), (q151, gn_z (cx.2.1 1) 8), (q160, gn_z (cx.2.1 1) 270), (q167, .inl (cx.2.1 1, 4, .inl (gn_ar [-1, -1, -1, -1]))), (q174, gn_z (cx.2.1 1) 4), (q182, gn_z (cx.2.1 1) 96), (q190, gn_z (cx.2.1 1) 24), (q198, gn_z (cx.2.1 1) 6), (q206, gn_z (cx.2.1 1) 6)]) (i := 3) (n := 8) (f := gn_ar [10, 10, 10, 10, 10, 10, 10, 0]) (l := [10, 10, 10, 10, 10, 10, 10, 0]) (l' := [10, 10, 10, 10, 10, 10, 10, 10]) 282 dX12_init_281 rfl rfl rfl ⟨by decide, by decide⟩ rfl (by decide) (by decide) rfl rfl ?_
  refine gn_iinc (y := 8) (ls' := [some (gR h0), some (gI 8)]) 285 dX12_init_282 rfl rfl rfl rfl (by decide) rfl ?_
  refine gn_goto 268 dX12_init_285 (by decide) ?_
  refine gn_iload 269 dX12_init_268 rfl rfl ?_
  refine gn_bipush 271 dX12_init_269 rfl (by decide) ?_
  refine gn_geY 288 dX12_init_271 (by decide) (by decide) ?_
  refine gn_return dX12_init_288 rfl rfl ⟨fun i => if i < 1 then h0 else if i < 2 then q6 else if i < 3 then q14 else if i < 4 then q22 else if i < 5 then q30 else if i < 6 then q37 else if i < 7 then q45 else if i < 8 then q53 else if i < 9 then q61 else if i < 10 then q70 else if i < 11 then q78 else if i < 12 then q86 else if i < 13 then q94 else if i < 14 then q102 else if i < 15 then q110 else if i < 16 then q118 else if i < 17 then q126 else if i < 18 then q134 else if i < 19 then q143 else if i < 20 then q151 else if i < 21 then q160 else if i < 22 then q167 else if i < 23 then q174 else if i < 24 then q182 else if i < 25 then q190 else if i < 26 then q198 else q206, rfl, ?_⟩
  rfl
