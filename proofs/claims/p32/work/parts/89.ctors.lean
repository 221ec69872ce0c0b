/-! the constructors -/
theorem c_X0_init : gn_Spec M_X0_init 1 4 24 0 gn_f0 gb_0 := by
  refine gn_intro (by decide) rfl rfl rfl (fun cx Γ T0 h0 => ?_)
  show gn_G cx _ Γ 0 [some (gR h0)] [] (gn_V T0 h0 0 [.int (Int32.ofInt 0), .null, .null, .null, .null, .int (Int32.ofInt 0)] []) 0 0
  refine gn_aload 1 dX0_init_0 rfl rfl ?_
  refine gn_obj 4 dX0_init_1 rfl mj_0_3 rfl ?_
  refine gn_aload 5 dX0_init_4 rfl rfl ?_
  refine gn_iconst 6 dX0_init_5 rfl ?_
  refine gn_putI (fs' := [.int (Int32.ofInt 0), .null, .null, .null, .null, .int (Int32.ofInt 0)]) 9 dX0_init_6 rfl P_0_9 (Or.inl rfl) rfl rfl ?_
  refine gn_aload 10 dX0_init_9 rfl rfl ?_
  refine gn_bipush 12 dX0_init_10 rfl (by decide) ?_
  refine gn_newi (kd := 0) (cA := cx.2.1 1) (n := 6) (ty := .int) 14 dX0_init_12 rfl rfl rfl arc_int rfl rfl (by decide) rfl rfl rfl (fun q12 => ?_)
  refine gn_putF (fs' := [.int (Int32.ofInt 0), .ref q12, .null, .null, .null, .int (Int32.ofInt 0)]) 17 dX0_init_14 rfl Q_0_15 rfl rfl ?_
  refine gn_aload 18 dX0_init_17 rfl rfl ?_
  refine gn_bipush 20 dX0_init_18 rfl (by decide) ?_
  refine gn_newi (kd := 0) (cA := cx.2.1 1) (n := 6) (ty := .int) 22 dX0_init_20 rfl rfl rfl arc_int rfl rfl (by decide) rfl rfl rfl (fun q20 => ?_)
  refine gn_putF (fs' := [.int (Int32.ofInt 0), .ref q12, .ref q20, .null, .null, .int (Int32.ofInt 0)]) 25 dX0_init_22 rfl Q_0_19 rfl rfl ?_
  refine gn_aload 26 dX0_init_25 rfl rfl ?_
  refine gn_bipush 28 dX0_init_26 rfl (by decide) ?_
  refine gn_newi (kd := 0) (cA := cx.2.1 1) (n := 6) (ty := .int) 30 dX0_init_28 rfl rfl rfl arc_int rfl rfl (by decide) rfl rfl rfl (fun q28 => ?_)
  refine gn_putF (fs' := [.int (Int32.ofInt 0), .ref q12, .ref q20, .ref q28, .null, .int (Int32.ofInt 0)]) 33 dX0_init_30 rfl Q_0_22 rfl rfl ?_
  refine gn_aload 34 dX0_init_33 rfl rfl ?_
  refine gn_bipush 36 dX0_init_34 rfl (by decide) ?_
  refine gn_newi (kd := 0) (cA := cx.2.1 1) (n := 6) (ty := .int) 38 dX0_init_36 rfl rfl rfl arc_int rfl rfl (by decide) rfl rfl rfl (fun q36 => ?_)
  refine gn_putF (fs' := [.int (Int32.ofInt 0), .ref q12, .ref q20, .ref q28, .ref q36, .int (Int32.ofInt 0)]) 41 dX0_init_38 rfl Q_0_25 rfl rfl ?_
  refine gn_aload 42 dX0_init_41 rfl rfl ?_
  refine gn_iconst 43 dX0_init_42 rfl ?_
  refine gn_putI (fs' := [.int (Int32.ofInt 0), .ref q12, .ref q20, .ref q28, .ref q36, .int (Int32.ofInt 0)]) 46 dX0_init_43 rfl P_0_28 (Or.inl rfl) rfl rfl ?_
  refine gn_return dX0_init_46 rfl rfl ⟨fun i => if i < 1 then h0 else if i < 2 then q12 else if i < 3 then q20 else if i < 4 then q28 else q36, rfl, ?_⟩
  rfl
theorem c_X1_init : gn_Spec M_X1_init 1 2 16 1 gn_f1 gb_1 := by
  refine gn_intro (by decide) rfl rfl rfl (fun cx Γ T0 h0 => ?_)
  show gn_G cx _ Γ 0 [some (gR h0)] [] (gn_V T0 h0 1 [.int (Int32.ofInt 0), .null, .null] []) 0 0
  refine gn_aload 1 dX1_init_0 rfl rfl ?_
  refine gn_obj 4 dX1_init_1 rfl mj_1_3 rfl ?_
  refine gn_aload 5 dX1_init_4 rfl rfl ?_
  refine gn_iconst 6 dX1_init_5 rfl ?_
  refine gn_putI (fs' := [.int (Int32.ofInt 0), .null, .null]) 9 dX1_init_6 rfl P_1_9 (Or.inl rfl) rfl rfl ?_
  refine gn_aload 10 dX1_init_9 rfl rfl ?_
  refine gn_bipush 12 dX1_init_10 rfl (by decide) ?_
  refine gn_newi (kd := 0) (cA := cx.2.1 1) (n := 8) (ty := .int) 14 dX1_init_12 rfl rfl rfl arc_int rfl rfl (by decide) rfl rfl rfl (fun q12 => ?_)
  refine gn_putF (fs' := [.int (Int32.ofInt 0), .ref q12, .null]) 17 dX1_init_14 rfl Q_1_15 rfl rfl ?_
  refine gn_aload 18 dX1_init_17 rfl rfl ?_
  refine gn_bipush 20 dX1_init_18 rfl (by decide) ?_
  refine gn_newi (kd := 0) (cA := cx.2.1 1) (n := 8) (ty := .int) 22 dX1_init_20 rfl rfl rfl arc_int rfl rfl (by decide) rfl rfl rfl (fun q20 => ?_)
  refine gn_putF (fs' := [.int (Int32.ofInt 0), .ref q12, .ref q20]) 25 dX1_init_22 rfl Q_1_19 rfl rfl ?_
  refine gn_return dX1_init_25 rfl rfl ⟨fun i => if i < 1 then h0 else if i < 2 then q12 else q20, rfl, ?_⟩
  rfl
theorem c_X2_init : gn_Spec M_X2_init 1 0 0 2 gn_f2 gb_2 := by
  refine gn_intro (by decide) rfl rfl rfl (fun cx Γ T0 h0 => ?_)
  show gn_G cx _ Γ 0 [some (gR h0)] [] (gn_V T0 h0 2 [.int (Int32.ofInt 0), .int (Int32.ofInt 0), .int (Int32.ofInt 0), .int (Int32.ofInt 0), .int (Int32.ofInt 0), .int (Int32.ofInt 0)] []) 0 0
  refine gn_aload 1 dX2_init_0 rfl rfl ?_
  refine gn_obj 4 dX2_init_1 rfl mj_2_1 rfl ?_
  refine gn_aload 5 dX2_init_4 rfl rfl ?_
  refine gn_iconst 6 dX2_init_5 rfl ?_
  refine gn_putI (fs' := [.int (Int32.ofInt 0), .int (Int32.ofInt 0), .int (Int32.ofInt 0), .int (Int32.ofInt 0), .int (Int32.ofInt 0), .int (Int32.ofInt 0)]) 9 dX2_init_6 rfl P_2_7 (Or.inr ⟨rfl, Or.inl rfl⟩) rfl rfl ?_
  refine gn_aload 10 dX2_init_9 rfl rfl ?_
  refine gn_iconst 11 dX2_init_10 rfl ?_
  refine gn_putI (fs' := [.int (Int32.ofInt 0), .int (Int32.ofInt 0), .int (Int32.ofInt 0), .int (Int32.ofInt 0), .int (Int32.ofInt 0), .int (Int32.ofInt 0)]) 14 dX2_init_11 rfl P_2_13 (Or.inr ⟨rfl, Or.inl rfl⟩) rfl rfl ?_
  refine gn_aload 15 dX2_init_14 rfl rfl ?_
  refine gn_iconst 16 dX2_init_15 rfl ?_
  refine gn_putI (fs' := [.int (Int32.ofInt 0), .int (Int32.ofInt 0), .int (Int32.ofInt 0), .int (Int32.ofInt 0), .int (Int32.ofInt 0), .int (Int32.ofInt 0)]) 19 dX2_init_16 rfl P_2_16 (Or.inl rfl) rfl rfl ?_
  refine gn_aload 20 dX2_init_19 rfl rfl ?_
  refine gn_iconst 21 dX2_init_20 rfl ?_
  refine gn_putI (fs' := [.int (Int32.ofInt 0), .int (Int32.ofInt 0), .int (Int32.ofInt 0), .int (Int32.ofInt 0), .int (Int32.ofInt 0), .int (Int32.ofInt 0)]) 24 dX2_init_21 rfl P_2_20 (Or.inl rfl) rfl rfl ?_
  refine gn_aload 25 dX2_init_24 rfl rfl ?_
  refine gn_iconst 26 dX2_init_25 rfl ?_
  refine gn_putI (fs' := [.int (Int32.ofInt 0), .int (Int32.ofInt 0), .int (Int32.ofInt 0), .int (Int32.ofInt 0), .int (Int32.ofInt 0), .int (Int32.ofInt 0)]) 29 dX2_init_26 rfl P_2_23 (Or.inl rfl) rfl rfl ?_
  refine gn_aload 30 dX2_init_29 rfl rfl ?_
  refine gn_iconst 31 dX2_init_30 rfl ?_
  refine gn_putI (fs' := [.int (Int32.ofInt 0), .int (Int32.ofInt 0), .int (Int32.ofInt 0), .int (Int32.ofInt 0), .int (Int32.ofInt 0), .int (Int32.ofInt 0)]) 34 dX2_init_31 rfl P_2_26 (Or.inl rfl) rfl rfl ?_
  refine gn_return dX2_init_34 rfl rfl ⟨fun _ => h0, rfl, ?_⟩
  rfl
theorem c_X4_init : gn_Spec M_X4_init 1 4 400 4 gn_f4 gb_4 := by
  refine gn_intro (by decide) rfl rfl rfl (fun cx Γ T0 h0 => ?_)
  show gn_G cx _ Γ 0 [some (gR h0)] [] (gn_V T0 h0 4 [.int (Int32.ofInt 0), .null, .null, .null, .null] []) 0 0
  refine gn_aload 1 dX4_init_0 rfl rfl ?_
  refine gn_obj 4 dX4_init_1 rfl mj_4_3 rfl ?_
  refine gn_aload 5 dX4_init_4 rfl rfl ?_
  refine gn_iconst 6 dX4_init_5 rfl ?_
  refine gn_putI (fs' := [.int (Int32.ofInt 0), .null, .null, .null, .null]) 9 dX4_init_6 rfl P_4_9 (Or.inl rfl) rfl rfl ?_
  refine gn_aload 10 dX4_init_9 rfl rfl ?_
  refine gn_bipush 12 dX4_init_10 rfl (by decide) ?_
  refine gn_newi (kd := 0) (cA := cx.2.1 1) (n := 100) (ty := .int) 14 dX4_init_12 rfl rfl rfl arc_int rfl rfl (by decide) rfl rfl rfl (fun q12 => ?_)
  refine gn_putF (fs' := [.int (Int32.ofInt 0), .ref q12, .null, .null, .null]) 17 dX4_init_14 rfl Q_4_15 rfl rfl ?_
  refine gn_aload 18 dX4_init_17 rfl rfl ?_
  refine gn_bipush 20 dX4_init_18 rfl (by decide) ?_
  refine gn_newi (kd := 0) (cA := cx.2.1 1) (n := 100) (ty := .int) 22 dX4_init_20 rfl rfl rfl arc_int rfl rfl (by decide) rfl rfl rfl (fun q20 => ?_)
  refine gn_putF (fs' := [.int (Int32.ofInt 0), .ref q12, .ref q20, .null, .null]) 25 dX4_init_22 rfl Q_4_19 rfl rfl ?_
  refine gn_aload 26 dX4_init_25 rfl rfl ?_
  refine gn_bipush 28 dX4_init_26 rfl (by decide) ?_
  refine gn_newi (kd := 0) (cA := cx.2.1 1) (n := 100) (ty := .int) 30 dX4_init_28 rfl rfl rfl arc_int rfl rfl (by decide) rfl rfl rfl (fun q28 => ?_)
  refine gn_putF (fs' := [.int (Int32.ofInt 0), .ref q12, .ref q20, .ref q28, .null]) 33 dX4_init_30 rfl Q_4_22 rfl rfl ?_
  refine gn_aload 34 dX4_init_33 rfl rfl ?_
  refine gn_bipush 36 dX4_init_34 rfl (by decide) ?_
  refine gn_newi (kd := 0) (cA := cx.2.1 1) (n := 100) (ty := .int) 38 dX4_init_36 rfl rfl rfl arc_int rfl rfl (by decide) rfl rfl rfl (fun q36 => ?_)
  refine gn_putF (fs' := [.int (Int32.ofInt 0), .ref q12, .ref q20, .ref q28, .ref q36]) 41 dX4_init_38 rfl Q_4_25 rfl rfl ?_
  refine gn_return dX4_init_41 rfl rfl ⟨fun i => if i < 1 then h0 else if i < 2 then q12 else if i < 3 then q20 else if i < 4 then q28 else q36, rfl, ?_⟩
  rfl
theorem c_X5_init : gn_Spec M_X5_init 1 3 30 5 gn_f5 gb_5 := by
  refine gn_intro (by decide) rfl rfl rfl (fun cx Γ T0 h0 => ?_)
  show gn_G cx _ Γ 0 [some (gR h0)] [] (gn_V T0 h0 5 [.int (Int32.ofInt 0), .null, .null, .null] []) 0 0
  refine gn_aload 1 dX5_init_0 rfl rfl ?_
  refine gn_obj 4 dX5_init_1 rfl mj_5_3 rfl ?_
  refine gn_aload 5 dX5_init_4 rfl rfl ?_
  refine gn_iconst 6 dX5_init_5 rfl ?_
  refine gn_putI (fs' := [.int (Int32.ofInt 0), .null, .null, .null]) 9 dX5_init_6 rfl P_5_9 (Or.inl rfl) rfl rfl ?_
  refine gn_aload 10 dX5_init_9 rfl rfl ?_
  refine gn_bipush 12 dX5_init_10 rfl (by decide) ?_
  refine gn_newi (kd := 0) (cA := cx.2.1 1) (n := 10) (ty := .int) 14 dX5_init_12 rfl rfl rfl arc_int rfl rfl (by decide) rfl rfl rfl (fun q12 => ?_)
  refine gn_putF (fs' := [.int (Int32.ofInt 0), .ref q12, .null, .null]) 17 dX5_init_14 rfl Q_5_15 rfl rfl ?_
  refine gn_aload 18 dX5_init_17 rfl rfl ?_
  refine gn_bipush 20 dX5_init_18 rfl (by decide) ?_
  refine gn_newi (kd := 0) (cA := cx.2.1 1) (n := 10) (ty := .int) 22 dX5_init_20 rfl rfl rfl arc_int rfl rfl (by decide) rfl rfl rfl (fun q20 => ?_)
  refine gn_putF (fs' := [.int (Int32.ofInt 0), .ref q12, .ref q20, .null]) 25 dX5_init_22 rfl Q_5_19 rfl rfl ?_
  refine gn_aload 26 dX5_init_25 rfl rfl ?_
  refine gn_bipush 28 dX5_init_26 rfl (by decide) ?_
  refine gn_newi (kd := 2) (cA := cx.2.1 3) (n := 10) (ty := .boolean) 30 dX5_init_28 rfl rfl rfl arc_boolean rfl rfl (by decide) rfl rfl rfl (fun q28 => ?_)
  refine gn_putF (fs' := [.int (Int32.ofInt 0), .ref q12, .ref q20, .ref q28]) 33 dX5_init_30 rfl Q_5_22 rfl rfl ?_
  refine gn_return dX5_init_33 rfl rfl ⟨fun i => if i < 1 then h0 else if i < 2 then q12 else if i < 3 then q20 else q28, rfl, ?_⟩
  rfl
theorem c_X7_init : gn_Spec M_X7_init 1 1 24 7 gn_f7 gb_7 := by
  refine gn_intro (by decide) rfl rfl rfl (fun cx Γ T0 h0 => ?_)
  show gn_G cx _ Γ 0 [some (gR h0)] [] (gn_V T0 h0 7 [.int (Int32.ofInt 0), .int (Int32.ofInt 0), .null] []) 0 0
  refine gn_aload 1 dX7_init_0 rfl rfl ?_
  refine gn_obj 4 dX7_init_1 rfl mj_7_3 rfl ?_
  refine gn_aload 5 dX7_init_4 rfl rfl ?_
  refine gn_iconst 6 dX7_init_5 rfl ?_
  refine gn_putI (fs' := [.int (Int32.ofInt (-1)), .int (Int32.ofInt 0), .null]) 9 dX7_init_6 rfl P_7_9 (Or.inl rfl) rfl rfl ?_
  refine gn_aload 10 dX7_init_9 rfl rfl ?_
  refine gn_iconst 11 dX7_init_10 rfl ?_
  refine gn_putI (fs' := [.int (Int32.ofInt (-1)), .int (Int32.ofInt 0), .null]) 14 dX7_init_11 rfl P_7_15 (Or.inl rfl) rfl rfl ?_
  refine gn_aload 15 dX7_init_14 rfl rfl ?_
  refine gn_bipush 17 dX7_init_15 rfl (by decide) ?_
  refine gn_newi (kd := 0) (cA := cx.2.1 1) (n := 24) (ty := .int) 19 dX7_init_17 rfl rfl rfl arc_int rfl rfl (by decide) rfl rfl rfl (fun q17 => ?_)
  refine gn_putF (fs' := [.int (Int32.ofInt (-1)), .int (Int32.ofInt 0), .ref q17]) 22 dX7_init_19 rfl Q_7_18 rfl rfl ?_
  refine gn_return dX7_init_22 rfl rfl ⟨fun i => if i < 1 then h0 else q17, rfl, ?_⟩
  rfl
theorem c_X8_init : gn_Spec M_X8_init 1 1 144 8 gn_f8 gb_8 := by
  refine gn_intro (by decide) rfl rfl rfl (fun cx Γ T0 h0 => ?_)
  show gn_G cx _ Γ 0 [some (gR h0)] [] (gn_V T0 h0 8 [.null, .int (Int32.ofInt 0), .int (Int32.ofInt 0), .int (Int32.ofInt 0), .int (Int32.ofInt 0), .int (Int32.ofInt 0), .int (Int32.ofInt 0), .int (Int32.ofInt 0)] []) 0 0
  refine gn_aload 1 dX8_init_0 rfl rfl ?_
  refine gn_obj 4 dX8_init_1 rfl mj_8_3 rfl ?_
  refine gn_aload 5 dX8_init_4 rfl rfl ?_
  refine gn_sipush 8 dX8_init_5 rfl (by decide) ?_
  refine gn_newi (kd := 0) (cA := cx.2.1 1) (n := 144) (ty := .int) 10 dX8_init_8 rfl rfl rfl arc_int rfl rfl (by decide) rfl rfl rfl (fun q8 => ?_)
  refine gn_putF (fs' := [.ref q8, .int (Int32.ofInt 0), .int (Int32.ofInt 0), .int (Int32.ofInt 0), .int (Int32.ofInt 0), .int (Int32.ofInt 0), .int (Int32.ofInt 0), .int (Int32.ofInt 0)]) 13 dX8_init_10 rfl Q_8_9 rfl rfl ?_
  refine gn_aload 14 dX8_init_13 rfl rfl ?_
  refine gn_iconst 15 dX8_init_14 rfl ?_
  refine gn_putI (fs' := [.ref q8, .int (Int32.ofInt 0), .int (Int32.ofInt 0), .int (Int32.ofInt 0), .int (Int32.ofInt 0), .int (Int32.ofInt 0), .int (Int32.ofInt 0), .int (Int32.ofInt 0)]) 18 dX8_init_15 rfl P_8_15 (Or.inl rfl) rfl rfl ?_
  refine gn_aload 19 dX8_init_18 rfl rfl ?_
  refine gn_iconst 20 dX8_init_19 rfl ?_
  refine gn_putI (fs' := [.ref q8, .int (Int32.ofInt 0), .int (Int32.ofInt 0), .int (Int32.ofInt 0), .int (Int32.ofInt 0), .int (Int32.ofInt 0), .int (Int32.ofInt 0), .int (Int32.ofInt 0)]) 23 dX8_init_20 rfl P_8_19 (Or.inl rfl) rfl rfl ?_
  refine gn_aload 24 dX8_init_23 rfl rfl ?_
  refine gn_iconst 25 dX8_init_24 rfl ?_
  refine gn_putI (fs' := [.ref q8, .int (Int32.ofInt 0), .int (Int32.ofInt 0), .int (Int32.ofInt 0), .int (Int32.ofInt 0), .int (Int32.ofInt 0), .int (Int32.ofInt 0), .int (Int32.ofInt 0)]) 28 dX8_init_25 rfl P_8_22 (Or.inl rfl) rfl rfl ?_
  refine gn_aload 29 dX8_init_28 rfl rfl ?_
  refine gn_iconst 30 dX8_init_29 rfl ?_
  refine gn_putI (fs' := [.ref q8, .int (Int32.ofInt 0), .int (Int32.ofInt 0), .int (Int32.ofInt 0), .int (Int32.ofInt 0), .int (Int32.ofInt 0), .int (Int32.ofInt 0), .int (Int32.ofInt 0)]) 33 dX8_init_30 rfl P_8_25 (Or.inl rfl) rfl rfl ?_
  refine gn_aload 34 dX8_init_33 rfl rfl ?_
  refine gn_iconst 35 dX8_init_34 rfl ?_
  refine gn_putI (fs' := [.ref q8, .int (Int32.ofInt 0), .int (Int32.ofInt 0), .int (Int32.ofInt 0), .int (Int32.ofInt 0), .int (Int32.ofInt 0), .int (Int32.ofInt 0), .int (Int32.ofInt 0)]) 38 dX8_init_35 rfl P_8_28 (Or.inl rfl) rfl rfl ?_
  refine gn_aload 39 dX8_init_38 rfl rfl ?_
  refine gn_iconst 40 dX8_init_39 rfl ?_
  refine gn_putI (fs' := [.ref q8, .int (Int32.ofInt 0), .int (Int32.ofInt 0), .int (Int32.ofInt 0), .int (Int32.ofInt 0), .int (Int32.ofInt 0), .int (Int32.ofInt 0), .int (Int32.ofInt 0)]) 43 dX8_init_40 rfl P_8_31 (Or.inl rfl) rfl rfl ?_
  refine gn_aload 44 dX8_init_43 rfl rfl ?_
  refine gn_iconst 45 dX8_init_44 rfl ?_
  refine gn_putI (fs' := [.ref q8, .int (Int32.ofInt 0), .int (Int32.ofInt 0), .int (Int32.ofInt 0), .int (Int32.ofInt 0), .int (Int32.ofInt 0), .int (Int32.ofInt 0), .int (Int32.ofInt 0)]) 48 dX8_init_45 rfl P_8_34 (Or.inl rfl) rfl rfl ?_
  refine gn_return dX8_init_48 rfl rfl ⟨fun i => if i < 1 then h0 else q8, rfl, ?_⟩
  rfl
theorem c_X9_init : gn_Spec M_X9_init 1 1 80 9 gn_f9 gb_9 := by
  refine gn_intro (by decide) rfl rfl rfl (fun cx Γ T0 h0 => ?_)
  show gn_G cx _ Γ 0 [some (gR h0)] [] (gn_V T0 h0 9 [.null, .int (Int32.ofInt 0), .int (Int32.ofInt 0), .int (Int32.ofInt 0)] []) 0 0
  refine gn_aload 1 dX9_init_0 rfl rfl ?_
  refine gn_obj 4 dX9_init_1 rfl mj_9_3 rfl ?_
  refine gn_aload 5 dX9_init_4 rfl rfl ?_
  refine gn_bipush 7 dX9_init_5 rfl (by decide) ?_
  refine gn_newi (kd := 1) (cA := cx.2.1 2) (n := 80) (ty := .byte) 9 dX9_init_7 rfl rfl rfl arc_byte rfl rfl (by decide) rfl rfl rfl (fun q7 => ?_)
  refine gn_putF (fs' := [.ref q7, .int (Int32.ofInt 0), .int (Int32.ofInt 0), .int (Int32.ofInt 0)]) 12 dX9_init_9 rfl Q_9_9 rfl rfl ?_
  refine gn_aload 13 dX9_init_12 rfl rfl ?_
  refine gn_iconst 14 dX9_init_13 rfl ?_
  refine gn_putI (fs' := [.ref q7, .int (Int32.ofInt 0), .int (Int32.ofInt 0), .int (Int32.ofInt 0)]) 17 dX9_init_14 rfl P_9_15 (Or.inl rfl) rfl rfl ?_
  refine gn_aload 18 dX9_init_17 rfl rfl ?_
  refine gn_iconst 19 dX9_init_18 rfl ?_
  refine gn_putI (fs' := [.ref q7, .int (Int32.ofInt 0), .int (Int32.ofInt 0), .int (Int32.ofInt 0)]) 22 dX9_init_19 rfl P_9_19 (Or.inl rfl) rfl rfl ?_
  refine gn_aload 23 dX9_init_22 rfl rfl ?_
  refine gn_iconst 24 dX9_init_23 rfl ?_
  refine gn_putI (fs' := [.ref q7, .int (Int32.ofInt 0), .int (Int32.ofInt 0), .int (Int32.ofInt 0)]) 27 dX9_init_24 rfl P_9_22 (Or.inl rfl) rfl rfl ?_
  refine gn_return dX9_init_27 rfl rfl ⟨fun i => if i < 1 then h0 else q7, rfl, ?_⟩
  rfl
theorem c_X3_init : gn_Spec M_X3_init 1 12 84 3 gn_f3 gb_3 := by
  refine gn_intro (by decide) rfl rfl rfl (fun cx Γ T0 h0 => ?_)
  show gn_G cx _ Γ 0 [some (gR h0)] [] (gn_V T0 h0 3 [.null, .null, .null, .null] []) 0 0
  refine gn_aload 1 dX3_init_0 rfl rfl ?_
  refine gn_obj 4 dX3_init_1 rfl mj_3_3 rfl ?_
  refine gn_aload 5 dX3_init_4 rfl rfl ?_
  refine gn_iconst 6 dX3_init_5 rfl ?_
  refine gn_newi (kd := 0) (cA := cx.2.1 1) (n := 4) (ty := .int) 8 dX3_init_6 rfl rfl rfl arc_int rfl rfl (by decide) rfl rfl rfl (fun q6 => ?_)
  refine gn_putF (fs' := [.ref q6, .null, .null, .null]) 11 dX3_init_8 rfl Q_3_9 rfl rfl ?_
  refine gn_aload 12 dX3_init_11 rfl rfl ?_
  refine gn_iconst 13 dX3_init_12 rfl ?_
  refine gn_bipush 15 dX3_init_13 rfl (by decide) ?_
  refine gn_mna 19 dX3_init_15 rfl cl_3_15 rfl rfl (fun q15 r15_0 r15_1 r15_2 r15_3 => ?_)
  refine gn_putF (fs' := [.ref q6, .ref q15, .null, .null]) 22 dX3_init_19 rfl Q_3_17 rfl rfl ?_
  refine gn_aload 23 dX3_init_22 rfl rfl ?_
  refine gn_iconst 24 dX3_init_23 rfl ?_
  refine gn_bipush 26 dX3_init_24 rfl (by decide) ?_
  refine gn_mna 30 dX3_init_26 rfl cl_3_15 rfl rfl (fun q26 r26_0 r26_1 r26_2 r26_3 => ?_)
  refine gn_putF (fs' := [.ref q6, .ref q15, .ref q26, .null]) 33 dX3_init_30 rfl Q_3_20 rfl rfl ?_
  refine gn_aload 34 dX3_init_33 rfl rfl ?_
  refine gn_bipush 36 dX3_init_34 rfl (by decide) ?_
  refine gn_newi (kd := 0) (cA := cx.2.1 1) (n := 8) (ty := .int) 38 dX3_init_36 rfl rfl rfl arc_int rfl rfl (by decide) rfl rfl rfl (fun q36 => ?_)
  refine gn_putF (fs' := [.ref q6, .ref q15, .ref q26, .ref q36]) 41 dX3_init_38 rfl Q_3_23 rfl rfl ?_
  refine gn_return dX3_init_41 rfl rfl ⟨fun i => if i < 1 then h0 else if i < 2 then q6 else if i < 3 then q15 else if i < 4 then r15_0 else if i < 5 then r15_1 else if i < 6 then r15_2 else if i < 7 then r15_3 else if i < 8 then q26 else if i < 9 then r26_0 else if i < 10 then r26_1 else if i < 11 then r26_2 else if i < 12 then r26_3 else q36, rfl, ?_⟩
  rfl
theorem c_X6_init : gn_Spec M_X6_init 2 20 279 6 gn_f6 gb_6 := by
  refine gn_intro (by decide) rfl rfl rfl (fun cx Γ T0 h0 => ?_)
  show gn_G cx _ Γ 0 [some (gR h0)] [] (gn_V T0 h0 6 [.int (Int32.ofInt 0), .null, .null, .null, .null] []) 0 0
  refine gn_aload 1 dX6_init_0 rfl rfl ?_
  refine gn_obj 4 dX6_init_1 rfl mj_6_3 rfl ?_
  refine gn_aload 5 dX6_init_4 rfl rfl ?_
  refine gn_bipush 7 dX6_init_5 rfl (by decide) ?_
  refine gn_putI (fs' := [.int (Int32.ofInt 40), .null, .null, .null, .null]) 10 dX6_init_7 rfl P_6_9 (Or.inl rfl) rfl rfl ?_
  refine gn_aload 11 dX6_init_10 rfl rfl ?_
  refine gn_newo (C := RX3) (T := TX3) (N := 4) (ci' := 3) (fs0 := gn_f3) tyX3 14 dX6_init_11 rfl cl_6_15 inst_3 ini_3 inX3 tyX3_ok rfl gn_df3 rfl rfl (fun q11_7 => ?_)
  refine gn_dup 15 dX6_init_14 rfl ?_
  refine gn_call (mt' := M_X3_init) (B := gb_3) 18 dX6_init_15 rfl mn_6_17 ⟨mc_X3_init, ini_3, by decide, by decide, by decide, by decide⟩ mi_X3_init rfl rfl rfl rfl rfl rfl c_X3_init (fun ad15_9 had15_9 => ?_)
  subst had15_9
  refine gn_putF (fs' := [.int (Int32.ofInt 40), .ref (ad15_9 0), .null, .null, .null]) 21 dX6_init_18 rfl Q_6_18 rfl rfl ?_
  refine gn_aload 22 dX6_init_21 rfl rfl ?_
  refine gn_newo (C := RX5) (T := TX5) (N := 4) (ci' := 5) (fs0 := gn_f5) tyX5 25 dX6_init_22 rfl cl_6_22 inst_5 ini_5 inX5 tyX5_ok rfl gn_df5 rfl rfl (fun q22_12 => ?_)
  refine gn_dup 26 dX6_init_25 rfl ?_
  refine gn_call (mt' := M_X5_init) (B := gb_5) 29 dX6_init_26 rfl mn_6_24 ⟨mc_X5_init, ini_5, by decide, by decide, by decide, by decide⟩ mi_X5_init rfl rfl rfl rfl rfl rfl c_X5_init (fun ad26_14 had26_14 => ?_)
  subst had26_14
  refine gn_putF (fs' := [.int (Int32.ofInt 40), .ref (ad15_9 0), .ref (ad26_14 0), .null, .null]) 32 dX6_init_29 rfl Q_6_25 rfl rfl ?_
  refine gn_aload 33 dX6_init_32 rfl rfl ?_
  refine gn_clone 42 dX6_init_33 rfl dX6_init_36 rfl dX6_init_39 rfl (List.mem_of_getElem? (i := 0) rfl) mj_6_33 gn_w99 gn_w100 gn_w101 gn_w102 cl_6_34 rfl rfl rfl rfl (fun q33 => ?_)
  refine gn_putF (fs' := [.int (Int32.ofInt 40), .ref (ad15_9 0), .ref (ad26_14 0), .ref q33, .null]) 45 dX6_init_42 rfl Q_6_38 rfl rfl ?_
  refine gn_aload 46 dX6_init_45 rfl rfl ?_
  refine gn_newo (C := RX8) (T := TX8) (N := 8) (ci' := 8) (fs0 := gn_f8) tyX8 49 dX6_init_46 rfl cl_6_41 inst_8 ini_8 inX8 tyX8_ok rfl gn_df8 rfl rfl (fun q46_20 => ?_)
  refine gn_dup 50 dX6_init_49 rfl ?_
  refine gn_call (mt' := M_X8_init) (B := gb_8) 53 dX6_init_50 rfl mn_6_43 ⟨mc_X8_init, ini_8, by decide, by decide, by decide, by decide⟩ mi_X8_init rfl rfl rfl rfl rfl rfl c_X8_init (fun ad50_22 had50_22 => ?_)
  subst had50_22
  refine gn_putF (fs' := [.int (Int32.ofInt 40), .ref (ad15_9 0), .ref (ad26_14 0), .ref q33, .ref (ad50_22 0)]) 56 dX6_init_53 rfl Q_6_44 rfl rfl ?_
  refine gn_return dX6_init_56 rfl rfl ⟨fun i => if i < 1 then h0 else if i < 14 then ad15_9 (i - 1) else if i < 18 then ad26_14 (i - 14) else if i < 19 then q33 else ad50_22 (i - 19), rfl, ?_⟩
  rfl
theorem c_X10_init : gn_Spec M_X10_init 2 17 510 10 gn_f10 gb_10 := by
  refine gn_intro (by decide) rfl rfl rfl (fun cx Γ T0 h0 => ?_)
  show gn_G cx _ Γ 0 [some (gR h0)] [] (gn_V T0 h0 10 [.null, .null, .null, .null, .int (Int32.ofInt 0), .int (Int32.ofInt 0), .int (Int32.ofInt 0), .int (Int32.ofInt 0), .int (Int32.ofInt 0), .int (Int32.ofInt 0), .null, .null, .null, .null, .null, .null] []) 0 0
  refine gn_aload 1 dX10_init_0 rfl rfl ?_
  refine gn_obj 4 dX10_init_1 rfl mj_10_3 rfl ?_
  refine gn_aload 5 dX10_init_4 rfl rfl ?_
  refine gn_newo (C := RX4) (T := TX4) (N := 5) (ci' := 4) (fs0 := gn_f4) tyX4 8 dX10_init_5 rfl cl_10_9 inst_4 ini_4 inX4 tyX4_ok rfl gn_df4 rfl rfl (fun q5_4 => ?_)
  refine gn_dup 9 dX10_init_8 rfl ?_
  refine gn_call (mt' := M_X4_init) (B := gb_4) 12 dX10_init_9 rfl mn_10_11 ⟨mc_X4_init, ini_4, by decide, by decide, by decide, by decide⟩ mi_X4_init rfl rfl rfl rfl rfl rfl c_X4_init (fun ad9_6 had9_6 => ?_)
  subst had9_6
  refine gn_putF (fs' := [.ref (ad9_6 0), .null, .null, .null, .int (Int32.ofInt 0), .int (Int32.ofInt 0), .int (Int32.ofInt 0), .int (Int32.ofInt 0), .int (Int32.ofInt 0), .int (Int32.ofInt 0), .null, .null, .null, .null, .null, .null]) 15 dX10_init_12 rfl Q_10_12 rfl rfl ?_
  refine gn_aload 16 dX10_init_15 rfl rfl ?_
  refine gn_newo (C := RX5) (T := TX5) (N := 4) (ci' := 5) (fs0 := gn_f5) tyX5 19 dX10_init_16 rfl cl_10_18 inst_5 ini_5 inX5 tyX5_ok rfl gn_df5 rfl rfl (fun q16_9 => ?_)
  refine gn_dup 20 dX10_init_19 rfl ?_
  refine gn_call (mt' := M_X5_init) (B := gb_5) 23 dX10_init_20 rfl mn_10_20 ⟨mc_X5_init, ini_5, by decide, by decide, by decide, by decide⟩ mi_X5_init rfl rfl rfl rfl rfl rfl c_X5_init (fun ad20_11 had20_11 => ?_)
  subst had20_11
  refine gn_putF (fs' := [.ref (ad9_6 0), .ref (ad20_11 0), .null, .null, .int (Int32.ofInt 0), .int (Int32.ofInt 0), .int (Int32.ofInt 0), .int (Int32.ofInt 0), .int (Int32.ofInt 0), .int (Int32.ofInt 0), .null, .null, .null, .null, .null, .null]) 26 dX10_init_23 rfl Q_10_21 rfl rfl ?_
  refine gn_aload 27 dX10_init_26 rfl rfl ?_
  refine gn_iconst 28 dX10_init_27 rfl ?_
  refine gn_newi (kd := 0) (cA := cx.2.1 1) (n := 5) (ty := .int) 30 dX10_init_28 rfl rfl rfl arc_int rfl rfl (by decide) rfl rfl rfl (fun q28 => ?_)
  refine gn_putF (fs' := [.ref (ad9_6 0), .ref (ad20_11 0), .ref q28, .null, .int (Int32.ofInt 0), .int (Int32.ofInt 0), .int (Int32.ofInt 0), .int (Int32.ofInt 0), .int (Int32.ofInt 0), .int (Int32.ofInt 0), .null, .null, .null, .null, .null, .null]) 33 dX10_init_30 rfl Q_10_25 rfl rfl ?_
  refine gn_aload 34 dX10_init_33 rfl rfl ?_
  refine gn_newo (C := RX2) (T := TX2) (N := 6) (ci' := 2) (fs0 := gn_f2) tyX2 37 dX10_init_34 rfl cl_10_29 inst_2 ini_2 inX2 tyX2_ok rfl gn_df2 rfl rfl (fun q34_18 => ?_)
  refine gn_dup 38 dX10_init_37 rfl ?_
  refine gn_call (mt' := M_X2_init) (B := gb_2) 41 dX10_init_38 rfl mn_10_31 ⟨mc_X2_init, ini_2, by decide, by decide, by decide, by decide⟩ mi_X2_init rfl rfl rfl rfl rfl rfl c_X2_init (fun ad38_20 had38_20 => ?_)
  subst had38_20
  refine gn_putF (fs' := [.ref (ad9_6 0), .ref (ad20_11 0), .ref q28, .ref (ad38_20 0), .int (Int32.ofInt 0), .int (Int32.ofInt 0), .int (Int32.ofInt 0), .int (Int32.ofInt 0), .int (Int32.ofInt 0), .int (Int32.ofInt 0), .null, .null, .null, .null, .null, .null]) 44 dX10_init_41 rfl Q_10_32 rfl rfl ?_
  refine gn_aload 45 dX10_init_44 rfl rfl ?_
  refine gn_iconst 46 dX10_init_45 rfl ?_
  refine gn_putI (fs' := [.ref (ad9_6 0), .ref (ad20_11 0), .ref q28, .ref (ad38_20 0), .int (Int32.ofInt 0), .int (Int32.ofInt 0), .int (Int32.ofInt 0), .int (Int32.ofInt 0), .int (Int32.ofInt 0), .int (Int32.ofInt 0), .null, .null, .null, .null, .null, .null]) 49 dX10_init_46 rfl P_10_36 (Or.inl rfl) rfl rfl ?_
  refine gn_aload 50 dX10_init_49 rfl rfl ?_
  refine gn_bipush 52 dX10_init_50 rfl (by decide) ?_
  refine gn_putI (fs' := [.ref (ad9_6 0), .ref (ad20_11 0), .ref q28, .ref (ad38_20 0), .int (Int32.ofInt 0), .int (Int32.ofInt (-4)), .int (Int32.ofInt 0), .int (Int32.ofInt 0), .int (Int32.ofInt 0), .int (Int32.ofInt 0), .null, .null, .null, .null, .null, .null]) 55 dX10_init_52 rfl P_10_40 (Or.inl rfl) rfl rfl ?_
  refine gn_aload 56 dX10_init_55 rfl rfl ?_
  refine gn_bipush 58 dX10_init_56 rfl (by decide) ?_
  refine gn_putI (fs' := [.ref (ad9_6 0), .ref (ad20_11 0), .ref q28, .ref (ad38_20 0), .int (Int32.ofInt 0), .int (Int32.ofInt (-4)), .int (Int32.ofInt (-4)), .int (Int32.ofInt 0), .int (Int32.ofInt 0), .int (Int32.ofInt 0), .null, .null, .null, .null, .null, .null]) 61 dX10_init_58 rfl P_10_43 (Or.inl rfl) rfl rfl ?_
  refine gn_aload 62 dX10_init_61 rfl rfl ?_
  refine gn_iconst 63 dX10_init_62 rfl ?_
  refine gn_putI (fs' := [.ref (ad9_6 0), .ref (ad20_11 0), .ref q28, .ref (ad38_20 0), .int (Int32.ofInt 0), .int (Int32.ofInt (-4)), .int (Int32.ofInt (-4)), .int (Int32.ofInt (-1)), .int (Int32.ofInt 0), .int (Int32.ofInt 0), .null, .null, .null, .null, .null, .null]) 66 dX10_init_63 rfl P_10_46 (Or.inl rfl) rfl rfl ?_
  refine gn_aload 67 dX10_init_66 rfl rfl ?_
  refine gn_iconst 68 dX10_init_67 rfl ?_
  refine gn_putI (fs' := [.ref (ad9_6 0), .ref (ad20_11 0), .ref q28, .ref (ad38_20 0), .int (Int32.ofInt 0), .int (Int32.ofInt (-4)), .int (Int32.ofInt (-4)), .int (Int32.ofInt (-1)), .int (Int32.ofInt 0), .int (Int32.ofInt 0), .null, .null, .null, .null, .null, .null]) 71 dX10_init_68 rfl P_10_49 (Or.inl rfl) rfl rfl ?_
  refine gn_aload 72 dX10_init_71 rfl rfl ?_
  refine gn_iconst 73 dX10_init_72 rfl ?_
  refine gn_putI (fs' := [.ref (ad9_6 0), .ref (ad20_11 0), .ref q28, .ref (ad38_20 0), .int (Int32.ofInt 0), .int (Int32.ofInt (-4)), .int (Int32.ofInt (-4)), .int (Int32.ofInt (-1)), .int (Int32.ofInt 0), .int (Int32.ofInt (-1)), .null, .null, .null, .null, .null, .null]) 76 dX10_init_73 rfl P_10_52 (Or.inl rfl) rfl rfl ?_
  refine gn_aload 77 dX10_init_76 rfl rfl ?_
  refine gn_bipush 79 dX10_init_77 rfl (by decide) ?_
  refine gn_newi (kd := 0) (cA := cx.2.1 1) (n := 10) (ty := .int) 81 dX10_init_79 rfl rfl rfl arc_int rfl rfl (by decide) rfl rfl rfl (fun q79 => ?_)
  refine gn_putF (fs' := [.ref (ad9_6 0), .ref (ad20_11 0), .ref q28, .ref (ad38_20 0), .int (Int32.ofInt 0), .int (Int32.ofInt (-4)), .int (Int32.ofInt (-4)), .int (Int32.ofInt (-1)), .int (Int32.ofInt 0), .int (Int32.ofInt (-1)), .ref q79, .null, .null, .null, .null, .null]) 84 dX10_init_81 rfl Q_10_55 rfl rfl ?_
  refine gn_aload 85 dX10_init_84 rfl rfl ?_
  refine gn_bipush 87 dX10_init_85 rfl (by decide) ?_
  refine gn_newi (kd := 0) (cA := cx.2.1 1) (n := 10) (ty := .int) 89 dX10_init_87 rfl rfl rfl arc_int rfl rfl (by decide) rfl rfl rfl (fun q87 => ?_)
  refine gn_putF (fs' := [.ref (ad9_6 0), .ref (ad20_11 0), .ref q28, .ref (ad38_20 0), .int (Int32.ofInt 0), .int (Int32.ofInt (-4)), .int (Int32.ofInt (-4)), .int (Int32.ofInt (-1)), .int (Int32.ofInt 0), .int (Int32.ofInt (-1)), .ref q79, .ref q87, .null, .null, .null, .null]) 92 dX10_init_89 rfl Q_10_58 rfl rfl ?_
  refine gn_aload 93 dX10_init_92 rfl rfl ?_
  refine gn_bipush 95 dX10_init_93 rfl (by decide) ?_
  refine gn_newi (kd := 0) (cA := cx.2.1 1) (n := 10) (ty := .int) 97 dX10_init_95 rfl rfl rfl arc_int rfl rfl (by decide) rfl rfl rfl (fun q95 => ?_)
  refine gn_putF (fs' := [.ref (ad9_6 0), .ref (ad20_11 0), .ref q28, .ref (ad38_20 0), .int (Int32.ofInt 0), .int (Int32.ofInt (-4)), .int (Int32.ofInt (-4)), .int (Int32.ofInt (-1)), .int (Int32.ofInt 0), .int (Int32.ofInt (-1)), .ref q79, .ref q87, .ref q95, .null, .null, .null]) 100 dX10_init_97 rfl Q_10_61 rfl rfl ?_
  refine gn_aload 101 dX10_init_100 rfl rfl ?_
  refine gn_bipush 103 dX10_init_101 rfl (by decide) ?_
  refine gn_newi (kd := 0) (cA := cx.2.1 1) (n := 10) (ty := .int) 105 dX10_init_103 rfl rfl rfl arc_int rfl rfl (by decide) rfl rfl rfl (fun q103 => ?_)
  refine gn_putF (fs' := [.ref (ad9_6 0), .ref (ad20_11 0), .ref q28, .ref (ad38_20 0), .int (Int32.ofInt 0), .int (Int32.ofInt (-4)), .int (Int32.ofInt (-4)), .int (Int32.ofInt (-1)), .int (Int32.ofInt 0), .int (Int32.ofInt (-1)), .ref q79, .ref q87, .ref q95, .ref q103, .null, .null]) 108 dX10_init_105 rfl Q_10_64 rfl rfl ?_
  refine gn_aload 109 dX10_init_108 rfl rfl ?_
  refine gn_bipush 111 dX10_init_109 rfl (by decide) ?_
  refine gn_newi (kd := 0) (cA := cx.2.1 1) (n := 10) (ty := .int) 113 dX10_init_111 rfl rfl rfl arc_int rfl rfl (by decide) rfl rfl rfl (fun q111 => ?_)
  refine gn_putF (fs' := [.ref (ad9_6 0), .ref (ad20_11 0), .ref q28, .ref (ad38_20 0), .int (Int32.ofInt 0), .int (Int32.ofInt (-4)), .int (Int32.ofInt (-4)), .int (Int32.ofInt (-1)), .int (Int32.ofInt 0), .int (Int32.ofInt (-1)), .ref q79, .ref q87, .ref q95, .ref q103, .ref q111, .null]) 116 dX10_init_113 rfl Q_10_67 rfl rfl ?_
  refine gn_aload 117 dX10_init_116 rfl rfl ?_
  refine gn_bipush 119 dX10_init_117 rfl (by decide) ?_
  refine gn_newi (kd := 0) (cA := cx.2.1 1) (n := 10) (ty := .int) 121 dX10_init_119 rfl rfl rfl arc_int rfl rfl (by decide) rfl rfl rfl (fun q119 => ?_)
  refine gn_putF (fs' := [.ref (ad9_6 0), .ref (ad20_11 0), .ref q28, .ref (ad38_20 0), .int (Int32.ofInt 0), .int (Int32.ofInt (-4)), .int (Int32.ofInt (-4)), .int (Int32.ofInt (-1)), .int (Int32.ofInt 0), .int (Int32.ofInt (-1)), .ref q79, .ref q87, .ref q95, .ref q103, .ref q111, .ref q119]) 124 dX10_init_121 rfl Q_10_70 rfl rfl ?_
  refine gn_return dX10_init_124 rfl rfl ⟨fun i => if i < 1 then h0 else if i < 6 then ad9_6 (i - 1) else if i < 10 then ad20_11 (i - 6) else if i < 11 then q28 else if i < 12 then ad38_20 (i - 11) else if i < 13 then q79 else if i < 14 then q87 else if i < 15 then q95 else if i < 16 then q103 else if i < 17 then q111 else q119, rfl, ?_⟩
  rfl
