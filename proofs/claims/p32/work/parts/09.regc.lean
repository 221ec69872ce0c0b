set_option maxRecDepth 100000 in
set_option maxHeartbeats 4000000 in
theorem r_X13_cell_0 {d : Nat} {QR : Option gw_SV → gw_Mem → Prop} {Γ : gw_Ga} (x1 : Int) (m : gw_Mem) (h : (¬ (gp_L Γ.1 ≤ x1) → (0 ≤ x1 ∧ x1 < gp_L Γ.1)) ∧ QR (some (gI (gw_and (if gp_L Γ.1 ≤ x1 then gw_w ((gw_w (15485957 * x1)) + 107) else gp_X Γ.1 x1) 2147483647))) m) : gw_G M_X13_cell d QR Γ 0 [some (gR 900), some (gI x1)] [] m := by
  refine gw_iload_n 1 d_X13_cell_0 rfl rfl ?_
  refine gw_aload_n 2 d_X13_cell_1 rfl rfl ?_
  refine gw_alenS 3 d_X13_cell_2 rfl ?_
  have j1 : gw_G M_X13_cell d QR Γ 19 [some (gR 900), some (gI x1)] [gI (if gp_L Γ.1 ≤ x1 then gw_w ((gw_w (15485957 * x1)) + 107) else gp_X Γ.1 x1)] m := by
    refine gw_ldc 21 d_X13_cell_19 rfl ct_13_8 (n := 2147483647) rfl (by decide) ?_
    refine gw_iand 22 d_X13_cell_21 rfl  ?_
    exact gw_ireturn d_X13_cell_22 (Or.inl rfl) h.2
  refine gw_icmp_ge 12 6 d_X13_cell_3 rfl rfl (fun c2 => ?_) (fun c2 => ?_)
  · skip
    refine gw_ldc 14 d_X13_cell_12 rfl ct_13_7 (n := 15485957) rfl (by decide) ?_
    refine gw_iload_n 15 d_X13_cell_14 rfl rfl ?_
    refine gw_imul 16 d_X13_cell_15 rfl  ?_
    refine gw_bipush 18 d_X13_cell_16 rfl rfl (by decide) ?_
    refine gw_iadd 19 d_X13_cell_18 rfl  ?_
    simpa only [if_pos c2] using j1
  · skip
    refine gw_aload_n 7 d_X13_cell_6 rfl rfl ?_
    refine gw_iload_n 8 d_X13_cell_7 rfl rfl ?_
    refine gw_ialoadSc 9 d_X13_cell_8 rfl (h.1 c2) ?_
    refine gw_goto 19 d_X13_cell_9 rfl ?_
    simpa only [if_neg c2] using j1
set_option maxRecDepth 100000 in
set_option maxHeartbeats 4000000 in
theorem r_X13_end_0 {d : Nat} {QR : Option gw_SV → gw_Mem → Prop} {Γ : gw_Ga} (m : gw_Mem) (h : gw_CIx Γ d M_X13_cell [gR 900, gI 0] m (fun v1 m2 => QR (some (gI (gw_w (10 + (v1.tmod 50))))) m2)) : gw_G M_X13_end d QR Γ 0 [some (gR 900)] [] m := by
  refine gw_bipush 2 d_X13_end_0 rfl rfl (by decide) ?_
  refine gw_aload_n 3 d_X13_end_2 rfl rfl ?_
  refine gw_iconst 4 d_X13_end_3 rfl rfl ?_
  refine gw_cSIx (a := [gR 900, gI 0]) (rest := [gI 10]) 7 d_X13_end_4 rfl ml_13_9 v_X13_cell rfl rfl rfl h (fun v1 m2 h3 => ?_)
  refine gw_bipush 9 d_X13_end_7 rfl rfl (by decide) ?_
  refine gw_irem 10 d_X13_end_9 rfl (by decide) ?_
  refine gw_iadd 11 d_X13_end_10 rfl  ?_
  exact gw_ireturn d_X13_end_11 (Or.inl rfl) h3
set_option maxRecDepth 100000 in
set_option maxHeartbeats 4000000 in
theorem r_X13_marks_0 {d : Nat} {QR : Option gw_SV → gw_Mem → Prop} {Γ : gw_Ga} (x1 : Int) (m : gw_Mem) (h : gw_CIx Γ d M_X13_cell [gR 900, gI 0] m (fun v1 m2 => QR (some (gI ((gw_shr v1 (gw_w (6 + (gw_w (2 * x1))))).tmod 4))) m2)) : gw_G M_X13_marks d QR Γ 0 [some (gR 900), some (gI x1)] [] m := by
  refine gw_aload_n 1 d_X13_marks_0 rfl rfl ?_
  refine gw_iconst 2 d_X13_marks_1 rfl rfl ?_
  refine gw_cSIx (a := [gR 900, gI 0]) (rest := []) 5 d_X13_marks_2 rfl ml_13_9 v_X13_cell rfl rfl rfl h (fun v1 m2 h3 => ?_)
  refine gw_bipush 7 d_X13_marks_5 rfl rfl (by decide) ?_
  refine gw_iconst 8 d_X13_marks_7 rfl rfl ?_
  refine gw_iload_n 9 d_X13_marks_8 rfl rfl ?_
  refine gw_imul 10 d_X13_marks_9 rfl  ?_
  refine gw_iadd 11 d_X13_marks_10 rfl  ?_
  refine gw_ishr 12 d_X13_marks_11 rfl  ?_
  refine gw_iconst 13 d_X13_marks_12 rfl rfl ?_
  refine gw_irem 14 d_X13_marks_13 rfl (by decide) ?_
  exact gw_ireturn d_X13_marks_14 (Or.inl rfl) h3
set_option maxRecDepth 100000 in
set_option maxHeartbeats 4000000 in
theorem r_X13_mark_0 {d : Nat} {QR : Option gw_SV → gw_Mem → Prop} {Γ : gw_Ga} (x1 : Int) (x2 : Int) (x3 : Int) (m : gw_Mem) (h : gw_CIx Γ d M_X13_cell [gR 900, gI (gw_w (1 + x1))] m (fun v1 m2 => (if x1 = 3 then (25 : Int) else (8 : Int)) ≠ 0 ∧ QR (some (gI (if x3 = 0 then gw_w ((gw_w (3 * ((gw_shr v1 (gw_w (5 * x2))).tmod 20))) + x2) else (if x1 = 1 then gw_w (2 + ((gw_shr (gw_shr v1 (gw_w (5 * x2))) 3).tmod (if x1 = 3 then (25 : Int) else (8 : Int)))) else gw_w (1 + ((gw_shr (gw_shr v1 (gw_w (5 * x2))) 3).tmod (if x1 = 3 then (25 : Int) else (8 : Int)))))))) m2)) : gw_G M_X13_mark d QR Γ 0 [some (gR 900), some (gI x1), some (gI x2), some (gI x3), none, none] [] m := by
  refine gw_aload_n 1 d_X13_mark_0 rfl rfl ?_
  refine gw_iconst 2 d_X13_mark_1 rfl rfl ?_
  refine gw_iload_n 3 d_X13_mark_2 rfl rfl ?_
  refine gw_iadd 4 d_X13_mark_3 rfl  ?_
  refine gw_cSIx (a := [gR 900, gI (gw_w (1 + x1))]) (rest := []) 7 d_X13_mark_4 rfl ml_13_9 v_X13_cell rfl rfl rfl h (fun v1 m2 h3 => ?_)
  refine gw_iconst 8 d_X13_mark_7 rfl rfl ?_
  refine gw_iload_n 9 d_X13_mark_8 rfl rfl ?_
  refine gw_imul 10 d_X13_mark_9 rfl  ?_
  refine gw_ishr 11 d_X13_mark_10 rfl  ?_
  refine gw_istore (ls' := [some (gR 900), some (gI x1), some (gI x2), some (gI x3), some (gI (gw_shr v1 (gw_w (5 * x2)))), none]) 13 d_X13_mark_11 rfl rfl rfl rfl ?_
  refine gw_iload 15 d_X13_mark_13 rfl rfl ?_
  refine gw_iconst 16 d_X13_mark_15 rfl rfl ?_
  refine gw_ishr 17 d_X13_mark_16 rfl  ?_
  refine gw_iload_n 18 d_X13_mark_17 rfl rfl ?_
  refine gw_iconst 19 d_X13_mark_18 rfl rfl ?_
  have j4 : gw_G M_X13_mark d QR Γ 29 [some (gR 900), some (gI x1), some (gI x2), some (gI x3), some (gI (gw_shr v1 (gw_w (5 * x2)))), none] [gI (if x1 = 3 then (25 : Int) else (8 : Int)), gI (gw_shr (gw_shr v1 (gw_w (5 * x2))) 3)] m2 := by
    refine gw_irem 30 d_X13_mark_29 rfl h3.1 ?_
    refine gw_istore (ls' := [some (gR 900), some (gI x1), some (gI x2), some (gI x3), some (gI (gw_shr v1 (gw_w (5 * x2)))), some (gI ((gw_shr (gw_shr v1 (gw_w (5 * x2))) 3).tmod (if x1 = 3 then (25 : Int) else (8 : Int))))]) 32 d_X13_mark_30 rfl rfl rfl rfl ?_
    refine gw_iload_n 33 d_X13_mark_32 rfl rfl ?_
    have j6 : gw_G M_X13_mark d QR Γ 64 [some (gR 900), some (gI x1), some (gI x2), some (gI x3), some (gI (gw_shr v1 (gw_w (5 * x2)))), some (gI ((gw_shr (gw_shr v1 (gw_w (5 * x2))) 3).tmod (if x1 = 3 then (25 : Int) else (8 : Int))))] [gI (if x3 = 0 then gw_w ((gw_w (3 * ((gw_shr v1 (gw_w (5 * x2))).tmod 20))) + x2) else (if x1 = 1 then gw_w (2 + ((gw_shr (gw_shr v1 (gw_w (5 * x2))) 3).tmod (if x1 = 3 then (25 : Int) else (8 : Int)))) else gw_w (1 + ((gw_shr (gw_shr v1 (gw_w (5 * x2))) 3).tmod (if x1 = 3 then (25 : Int) else (8 : Int))))))] m2 := by
      exact gw_ireturn d_X13_mark_64 (Or.inl rfl) h3.2
    refine gw_if_ne 48 36 d_X13_mark_33 rfl rfl (fun c7 => ?_) (fun c7 => ?_)
    · skip
      refine gw_iconst 37 d_X13_mark_36 rfl rfl ?_
      refine gw_iload 39 d_X13_mark_37 rfl rfl ?_
      refine gw_bipush 41 d_X13_mark_39 rfl rfl (by decide) ?_
      refine gw_irem 42 d_X13_mark_41 rfl (by decide) ?_
      refine gw_imul 43 d_X13_mark_42 rfl  ?_
      refine gw_iload_n 44 d_X13_mark_43 rfl rfl ?_
      refine gw_iadd 45 d_X13_mark_44 rfl  ?_
      refine gw_goto 64 d_X13_mark_45 rfl ?_
      simpa only [if_pos c7] using j6
    · skip
      refine gw_iload_n 49 d_X13_mark_48 rfl rfl ?_
      refine gw_iconst 50 d_X13_mark_49 rfl rfl ?_
      refine gw_icmp_ne 60 53 d_X13_mark_50 rfl rfl (fun c8 => ?_) (fun c8 => ?_)
      · skip
        refine gw_iconst 54 d_X13_mark_53 rfl rfl ?_
        refine gw_iload 56 d_X13_mark_54 rfl rfl ?_
        refine gw_iadd 57 d_X13_mark_56 rfl  ?_
        refine gw_goto 64 d_X13_mark_57 rfl ?_
        simpa only [if_neg c7, if_pos c8] using j6
      · skip
        refine gw_iconst 61 d_X13_mark_60 rfl rfl ?_
        refine gw_iload 63 d_X13_mark_61 rfl rfl ?_
        refine gw_iadd 64 d_X13_mark_63 rfl  ?_
        simpa only [if_neg c7, if_neg c8] using j6
  refine gw_icmp_ne 27 22 d_X13_mark_19 rfl rfl (fun c5 => ?_) (fun c5 => ?_)
  · skip
    refine gw_bipush 24 d_X13_mark_22 rfl rfl (by decide) ?_
    refine gw_goto 29 d_X13_mark_24 rfl ?_
    simpa only [if_pos c5] using j4
  · skip
    refine gw_bipush 29 d_X13_mark_27 rfl rfl (by decide) ?_
    simpa only [if_neg c5] using j4
set_option maxRecDepth 100000 in
set_option maxHeartbeats 4000000 in
theorem r_X13_people_0 {d : Nat} {QR : Option gw_SV → gw_Mem → Prop} {Γ : gw_Ga} (x1 : Int) (m : gw_Mem) (h : gw_CIx Γ d M_X13_cell [gR 900, gI 0] m (fun v1 m2 => x1 ≠ 0 ∧ QR (some (gI (gw_w (1 + ((gw_shr v1 15).tmod x1))))) m2)) : gw_G M_X13_people d QR Γ 0 [some (gR 900), some (gI x1)] [] m := by
  refine gw_iconst 1 d_X13_people_0 rfl rfl ?_
  refine gw_aload_n 2 d_X13_people_1 rfl rfl ?_
  refine gw_iconst 3 d_X13_people_2 rfl rfl ?_
  refine gw_cSIx (a := [gR 900, gI 0]) (rest := [gI 1]) 6 d_X13_people_3 rfl ml_13_9 v_X13_cell rfl rfl rfl h (fun v1 m2 h3 => ?_)
  refine gw_bipush 8 d_X13_people_6 rfl rfl (by decide) ?_
  refine gw_ishr 9 d_X13_people_8 rfl  ?_
  refine gw_iload_n 10 d_X13_people_9 rfl rfl ?_
  refine gw_irem 11 d_X13_people_10 rfl h3.1 ?_
  refine gw_iadd 12 d_X13_people_11 rfl  ?_
  exact gw_ireturn d_X13_people_12 (Or.inl rfl) h3.2
set_option maxRecDepth 100000 in
set_option maxHeartbeats 4000000 in
theorem r_X13_one_0 {d : Nat} {QR : Option gw_SV → gw_Mem → Prop} {Γ : gw_Ga} (x1 : Int) (x2 : Int) (m : gw_Mem) (h : gw_CIx Γ d M_X13_cell [gR 900, gI 5] m (fun v1 m2 => gw_G M_X13_one d QR Γ 18 [some (gR 900), some (gI x1), some (gI x2), some (gI (gw_shr v1 (gw_w (3 * x1)))), some (gI ((gw_shr v1 (gw_w (3 * x1))).tmod 4)), some (gI 0)] [] m2)) : gw_G M_X13_one d QR Γ 0 [some (gR 900), some (gI x1), some (gI x2), none, none, none] [] m := by
  refine gw_aload_n 1 d_X13_one_0 rfl rfl ?_
  refine gw_iconst 2 d_X13_one_1 rfl rfl ?_
  refine gw_cSIx (a := [gR 900, gI 5]) (rest := []) 5 d_X13_one_2 rfl ml_13_9 v_X13_cell rfl rfl rfl h (fun v1 m2 h3 => ?_)
  refine gw_iconst 6 d_X13_one_5 rfl rfl ?_
  refine gw_iload_n 7 d_X13_one_6 rfl rfl ?_
  refine gw_imul 8 d_X13_one_7 rfl  ?_
  refine gw_ishr 9 d_X13_one_8 rfl  ?_
  refine gw_istore_n (ls' := [some (gR 900), some (gI x1), some (gI x2), some (gI (gw_shr v1 (gw_w (3 * x1)))), none, none]) 10 d_X13_one_9 rfl rfl rfl rfl ?_
  refine gw_iload_n 11 d_X13_one_10 rfl rfl ?_
  refine gw_iconst 12 d_X13_one_11 rfl rfl ?_
  refine gw_irem 13 d_X13_one_12 rfl (by decide) ?_
  refine gw_istore (ls' := [some (gR 900), some (gI x1), some (gI x2), some (gI (gw_shr v1 (gw_w (3 * x1)))), some (gI ((gw_shr v1 (gw_w (3 * x1))).tmod 4)), none]) 15 d_X13_one_13 rfl rfl rfl rfl ?_
  refine gw_iconst 16 d_X13_one_15 rfl rfl ?_
  refine gw_istore (ls' := [some (gR 900), some (gI x1), some (gI x2), some (gI (gw_shr v1 (gw_w (3 * x1)))), some (gI ((gw_shr v1 (gw_w (3 * x1))).tmod 4)), some (gI 0)]) 18 d_X13_one_16 rfl rfl rfl rfl ?_
  exact h3
set_option maxRecDepth 100000 in
set_option maxHeartbeats 4000000 in
theorem r_X13_one_18 {d : Nat} {QR : Option gw_SV → gw_Mem → Prop} {Γ : gw_Ga} (x1 : Int) (x2 : Int) (x3 : Int) (x4 : Int) (x5 : Int) (m : gw_Mem) (h : ((x1 ≤ x5 → QR (some (gI (if x2 = 0 then x4 else (if x2 = 1 then gw_w (1 + ((gw_shr x3 2).tmod 4)) else gw_and (gw_shr x3 4) 1)))) m) ∧ (¬ (x1 ≤ x5) → ((x4 = 3 → gw_CIx Γ d M_X13_cell [gR 900, gI 5] m (fun v4 m5 => gw_G M_X13_one d QR Γ 52 [some (gR 900), some (gI x1), some (gI x2), some (gI x3), some (gI x4), some (gI x5)] [gI (if (gw_shr v4 (gw_w (3 * x5))).tmod 4 = 3 then (0 : Int) else x4)] m5)) ∧ (¬ (x4 = 3) → gw_G M_X13_one d QR Γ 52 [some (gR 900), some (gI x1), some (gI x2), some (gI x3), some (gI x4), some (gI x5)] [gI x4] m))))) : gw_G M_X13_one d QR Γ 18 [some (gR 900), some (gI x1), some (gI x2), some (gI x3), some (gI x4), some (gI x5)] [] m := by
  refine gw_iload 20 d_X13_one_18 rfl rfl ?_
  refine gw_iload_n 21 d_X13_one_20 rfl rfl ?_
  refine gw_icmp_ge 60 24 d_X13_one_21 rfl rfl (fun c7 => ?_) (fun c7 => ?_)
  · skip
    refine gw_iload_n 61 d_X13_one_60 rfl rfl ?_
    have j8 : gw_G M_X13_one d QR Γ 89 [some (gR 900), some (gI x1), some (gI x2), some (gI x3), some (gI x4), some (gI x5)] [gI (if x2 = 0 then x4 else (if x2 = 1 then gw_w (1 + ((gw_shr x3 2).tmod 4)) else gw_and (gw_shr x3 4) 1))] m := by
      exact gw_ireturn d_X13_one_89 (Or.inl rfl) (h.1 c7)
    refine gw_if_ne 69 64 d_X13_one_61 rfl rfl (fun c9 => ?_) (fun c9 => ?_)
    · skip
      refine gw_iload 66 d_X13_one_64 rfl rfl ?_
      refine gw_goto 89 d_X13_one_66 rfl ?_
      simpa only [if_pos c9] using j8
    · skip
      refine gw_iload_n 70 d_X13_one_69 rfl rfl ?_
      refine gw_iconst 71 d_X13_one_70 rfl rfl ?_
      refine gw_icmp_ne 84 74 d_X13_one_71 rfl rfl (fun c10 => ?_) (fun c10 => ?_)
      · skip
        refine gw_iconst 75 d_X13_one_74 rfl rfl ?_
        refine gw_iload_n 76 d_X13_one_75 rfl rfl ?_
        refine gw_iconst 77 d_X13_one_76 rfl rfl ?_
        refine gw_ishr 78 d_X13_one_77 rfl  ?_
        refine gw_iconst 79 d_X13_one_78 rfl rfl ?_
        refine gw_irem 80 d_X13_one_79 rfl (by decide) ?_
        refine gw_iadd 81 d_X13_one_80 rfl  ?_
        refine gw_goto 89 d_X13_one_81 rfl ?_
        simpa only [if_neg c9, if_pos c10] using j8
      · skip
        refine gw_iload_n 85 d_X13_one_84 rfl rfl ?_
        refine gw_iconst 86 d_X13_one_85 rfl rfl ?_
        refine gw_ishr 87 d_X13_one_86 rfl  ?_
        refine gw_iconst 88 d_X13_one_87 rfl rfl ?_
        refine gw_iand 89 d_X13_one_88 rfl  ?_
        simpa only [if_neg c9, if_neg c10] using j8
  · skip
    refine gw_iload 26 d_X13_one_24 rfl rfl ?_
    refine gw_iconst 27 d_X13_one_26 rfl rfl ?_
    refine gw_icmp_ne 50 30 d_X13_one_27 rfl rfl (fun c11 => ?_) (fun c11 => ?_)
    · skip
      refine gw_aload_n 31 d_X13_one_30 rfl rfl ?_
      refine gw_iconst 32 d_X13_one_31 rfl rfl ?_
      refine gw_cSIx (a := [gR 900, gI 5]) (rest := []) 35 d_X13_one_32 rfl ml_13_9 v_X13_cell rfl rfl rfl ((h.2 c7).1 c11) (fun v4 m5 h6 => ?_)
      refine gw_iconst 36 d_X13_one_35 rfl rfl ?_
      refine gw_iload 38 d_X13_one_36 rfl rfl ?_
      refine gw_imul 39 d_X13_one_38 rfl  ?_
      refine gw_ishr 40 d_X13_one_39 rfl  ?_
      refine gw_iconst 41 d_X13_one_40 rfl rfl ?_
      refine gw_irem 42 d_X13_one_41 rfl (by decide) ?_
      refine gw_iconst 43 d_X13_one_42 rfl rfl ?_
      have j12 : gw_G M_X13_one d QR Γ 52 [some (gR 900), some (gI x1), some (gI x2), some (gI x3), some (gI x4), some (gI x5)] [gI (if (gw_shr v4 (gw_w (3 * x5))).tmod 4 = 3 then (0 : Int) else x4)] m5 := by
        exact h6
      refine gw_icmp_ne 50 46 d_X13_one_43 rfl rfl (fun c13 => ?_) (fun c13 => ?_)
      · skip
        refine gw_iconst 47 d_X13_one_46 rfl rfl ?_
        refine gw_goto 52 d_X13_one_47 rfl ?_
        simpa only [if_pos c13] using j12
      · skip
        refine gw_iload 52 d_X13_one_50 rfl rfl ?_
        simpa only [if_neg c13] using j12
    · skip
      refine gw_iload 52 d_X13_one_50 rfl rfl ?_
      exact ((h.2 c7).2 c11)
set_option maxRecDepth 100000 in
set_option maxHeartbeats 4000000 in
theorem r_X13_one_52 {d : Nat} {QR : Option gw_SV → gw_Mem → Prop} {Γ : gw_Ga} (x1 : Int) (x2 : Int) (x3 : Int) (x4 : Int) (x5 : Int) (z0 : Int) (m : gw_Mem) (h : gw_G M_X13_one d QR Γ 18 [some (gR 900), some (gI x1), some (gI x2), some (gI x3), some (gI z0), some (gI (gw_w (x5 + 1)))] [] m) : gw_G M_X13_one d QR Γ 52 [some (gR 900), some (gI x1), some (gI x2), some (gI x3), some (gI x4), some (gI x5)] [gI z0] m := by
  refine gw_istore (ls' := [some (gR 900), some (gI x1), some (gI x2), some (gI x3), some (gI z0), some (gI x5)]) 54 d_X13_one_52 rfl rfl rfl rfl ?_
  refine gw_iinc (ls' := [some (gR 900), some (gI x1), some (gI x2), some (gI x3), some (gI z0), some (gI (gw_w (x5 + 1)))]) 57 d_X13_one_54 rfl rfl rfl rfl rfl ?_
  refine gw_goto 18 d_X13_one_57 rfl ?_
  exact h
set_option maxRecDepth 100000 in
set_option maxHeartbeats 4000000 in
theorem r_X13_rule_0 {d : Nat} {QR : Option gw_SV → gw_Mem → Prop} {Γ : gw_Ga} (x1 : Int) (m : gw_Mem) (h : gw_CIx Γ d M_X13_cell [gR 900, gI 6] m (fun v1 m2 => QR (some (gI (if x1 = 0 then gw_w (1 + (v1.tmod 4)) else (if x1 = 1 then (gw_shr v1 2).tmod 11 else (if x1 = 2 then (gw_shr v1 6).tmod 5 else (if x1 = 3 then (gw_shr v1 9).tmod 16 else gw_w (1 + ((gw_shr v1 13).tmod 8)))))))) m2)) : gw_G M_X13_rule d QR Γ 0 [some (gR 900), some (gI x1), none] [] m := by
  refine gw_aload_n 1 d_X13_rule_0 rfl rfl ?_
  refine gw_bipush 3 d_X13_rule_1 rfl rfl (by decide) ?_
  refine gw_cSIx (a := [gR 900, gI 6]) (rest := []) 6 d_X13_rule_3 rfl ml_13_9 v_X13_cell rfl rfl rfl h (fun v1 m2 h3 => ?_)
  refine gw_istore_n (ls' := [some (gR 900), some (gI x1), some (gI v1)]) 7 d_X13_rule_6 rfl rfl rfl rfl ?_
  refine gw_iload_n 8 d_X13_rule_7 rfl rfl ?_
  have j4 : gw_G M_X13_rule d QR Γ 71 [some (gR 900), some (gI x1), some (gI v1)] [gI (if x1 = 0 then gw_w (1 + (v1.tmod 4)) else (if x1 = 1 then (gw_shr v1 2).tmod 11 else (if x1 = 2 then (gw_shr v1 6).tmod 5 else (if x1 = 3 then (gw_shr v1 9).tmod 16 else gw_w (1 + ((gw_shr v1 13).tmod 8))))))] m2 := by
    exact gw_ireturn d_X13_rule_71 (Or.inl rfl) h3
  refine gw_if_ne 19 11 d_X13_rule_8 rfl rfl (fun c5 => ?_) (fun c5 => ?_)
  · skip
    refine gw_iconst 12 d_X13_rule_11 rfl rfl ?_
    refine gw_iload_n 13 d_X13_rule_12 rfl rfl ?_
    refine gw_iconst 14 d_X13_rule_13 rfl rfl ?_
    refine gw_irem 15 d_X13_rule_14 rfl (by decide) ?_
    refine gw_iadd 16 d_X13_rule_15 rfl  ?_
    refine gw_goto 71 d_X13_rule_16 rfl ?_
    simpa only [if_pos c5] using j4
  · skip
    refine gw_iload_n 20 d_X13_rule_19 rfl rfl ?_
    refine gw_iconst 21 d_X13_rule_20 rfl rfl ?_
    refine gw_icmp_ne 33 24 d_X13_rule_21 rfl rfl (fun c6 => ?_) (fun c6 => ?_)
    · skip
      refine gw_iload_n 25 d_X13_rule_24 rfl rfl ?_
      refine gw_iconst 26 d_X13_rule_25 rfl rfl ?_
      refine gw_ishr 27 d_X13_rule_26 rfl  ?_
      refine gw_bipush 29 d_X13_rule_27 rfl rfl (by decide) ?_
      refine gw_irem 30 d_X13_rule_29 rfl (by decide) ?_
      refine gw_goto 71 d_X13_rule_30 rfl ?_
      simpa only [if_neg c5, if_pos c6] using j4
    · skip
      refine gw_iload_n 34 d_X13_rule_33 rfl rfl ?_
      refine gw_iconst 35 d_X13_rule_34 rfl rfl ?_
      refine gw_icmp_ne 47 38 d_X13_rule_35 rfl rfl (fun c7 => ?_) (fun c7 => ?_)
      · skip
        refine gw_iload_n 39 d_X13_rule_38 rfl rfl ?_
        refine gw_bipush 41 d_X13_rule_39 rfl rfl (by decide) ?_
        refine gw_ishr 42 d_X13_rule_41 rfl  ?_
        refine gw_iconst 43 d_X13_rule_42 rfl rfl ?_
        refine gw_irem 44 d_X13_rule_43 rfl (by decide) ?_
        refine gw_goto 71 d_X13_rule_44 rfl ?_
        simpa only [if_neg c5, if_neg c6, if_pos c7] using j4
      · skip
        refine gw_iload_n 48 d_X13_rule_47 rfl rfl ?_
        refine gw_iconst 49 d_X13_rule_48 rfl rfl ?_
        refine gw_icmp_ne 62 52 d_X13_rule_49 rfl rfl (fun c8 => ?_) (fun c8 => ?_)
        · skip
          refine gw_iload_n 53 d_X13_rule_52 rfl rfl ?_
          refine gw_bipush 55 d_X13_rule_53 rfl rfl (by decide) ?_
          refine gw_ishr 56 d_X13_rule_55 rfl  ?_
          refine gw_bipush 58 d_X13_rule_56 rfl rfl (by decide) ?_
          refine gw_irem 59 d_X13_rule_58 rfl (by decide) ?_
          refine gw_goto 71 d_X13_rule_59 rfl ?_
          simpa only [if_neg c5, if_neg c6, if_neg c7, if_pos c8] using j4
        · skip
          refine gw_iconst 63 d_X13_rule_62 rfl rfl ?_
          refine gw_iload_n 64 d_X13_rule_63 rfl rfl ?_
          refine gw_bipush 66 d_X13_rule_64 rfl rfl (by decide) ?_
          refine gw_ishr 67 d_X13_rule_66 rfl  ?_
          refine gw_bipush 69 d_X13_rule_67 rfl rfl (by decide) ?_
          refine gw_irem 70 d_X13_rule_69 rfl (by decide) ?_
          refine gw_iadd 71 d_X13_rule_70 rfl  ?_
          simpa only [if_neg c5, if_neg c6, if_neg c7, if_neg c8] using j4
set_option maxRecDepth 100000 in
set_option maxHeartbeats 4000000 in
theorem r_X13_lays_0 {d : Nat} {QR : Option gw_SV → gw_Mem → Prop} {Γ : gw_Ga} (x2 : Int) (m : gw_Mem) (h : gw_CIx Γ d M_X13_end [gR 900] m (fun v1 m2 => gw_CIx Γ d M_X11_end [gR 0, gI v1] m2 (fun v4 m5 => gw_G M_X13_lays d QR Γ 22 [some (gR 0), some (gR 900), some (gI x2), some (gI (if v4 = 40 then (1 : Int) else (0 : Int))), some (gI 0), none] [] m5))) : gw_G M_X13_lays d QR Γ 0 [some (gR 0), some (gR 900), some (gI x2), none, none, none] [] m := by
  refine gw_aload_n 1 d_X13_lays_0 rfl rfl ?_
  refine gw_aload_n 2 d_X13_lays_1 rfl rfl ?_
  refine gw_cSIx (a := [gR 900]) (rest := [gR 0]) 5 d_X13_lays_2 rfl ml_13_15 v_X13_end rfl rfl rfl h (fun v1 m2 h3 => ?_)
  refine gw_cVIx (a := [gI v1]) (rest := []) 8 d_X13_lays_5 rfl ml_13_19 v_X11_end rfl sh_0 rfl rfl rfl h3 (fun v4 m5 h6 => ?_)
  refine gw_bipush 10 d_X13_lays_8 rfl rfl (by decide) ?_
  have j40 : gw_G M_X13_lays d QR Γ 18 [some (gR 0), some (gR 900), some (gI x2), none, none, none] [gI (if v4 = 40 then (1 : Int) else (0 : Int))] m5 := by
    refine gw_istore_n (ls' := [some (gR 0), some (gR 900), some (gI x2), some (gI (if v4 = 40 then (1 : Int) else (0 : Int))), none, none]) 19 d_X13_lays_18 rfl rfl rfl rfl ?_
    refine gw_iconst 20 d_X13_lays_19 rfl rfl ?_
    refine gw_istore (ls' := [some (gR 0), some (gR 900), some (gI x2), some (gI (if v4 = 40 then (1 : Int) else (0 : Int))), some (gI 0), none]) 22 d_X13_lays_20 rfl rfl rfl rfl ?_
    exact h6
  refine gw_icmp_ne 17 13 d_X13_lays_10 rfl rfl (fun c41 => ?_) (fun c41 => ?_)
  · skip
    refine gw_iconst 14 d_X13_lays_13 rfl rfl ?_
    refine gw_goto 18 d_X13_lays_14 rfl ?_
    simpa only [if_pos c41] using j40
  · skip
    refine gw_iconst 18 d_X13_lays_17 rfl rfl ?_
    simpa only [if_neg c41] using j40
set_option maxRecDepth 100000 in
set_option maxHeartbeats 4000000 in
theorem r_X13_lays_22 {d : Nat} {QR : Option gw_SV → gw_Mem → Prop} {Γ : gw_Ga} (x2 : Int) (x3 : Int) (x4 : Int) (y5 : Option gw_SV) (m : gw_Mem) (h : ((4 ≤ x4 → gw_G M_X13_lays d QR Γ 97 [some (gR 0), some (gR 900), some (gI x2), some (gI x3), some (gI x4), y5] [] m) ∧ (¬ (4 ≤ x4) → ((x3 = 0 → gw_G M_X13_lays d QR Γ 97 [some (gR 0), some (gR 900), some (gI x2), some (gI x3), some (gI x4), y5] [] m) ∧ (¬ (x3 = 0) → gw_G M_X13_lays d QR Γ 35 [some (gR 0), some (gR 900), some (gI x2), some (gI x3), some (gI x4), some (gI 0)] [] m))))) : gw_G M_X13_lays d QR Γ 22 [some (gR 0), some (gR 900), some (gI x2), some (gI x3), some (gI x4), y5] [] m := by
  refine gw_iload 24 d_X13_lays_22 rfl rfl ?_
  refine gw_iconst 25 d_X13_lays_24 rfl rfl ?_
  refine gw_icmp_ge 97 28 d_X13_lays_25 rfl rfl (fun c42 => ?_) (fun c42 => ?_)
  · skip
    exact (h.1 c42)
  · skip
    refine gw_iload_n 29 d_X13_lays_28 rfl rfl ?_
    refine gw_if_eq 97 32 d_X13_lays_29 rfl rfl (fun c43 => ?_) (fun c43 => ?_)
    · skip
      exact ((h.2 c42).1 c43)
    · skip
      refine gw_iconst 33 d_X13_lays_32 rfl rfl ?_
      refine gw_istore (ls' := [some (gR 0), some (gR 900), some (gI x2), some (gI x3), some (gI x4), some (gI 0)]) 35 d_X13_lays_33 rfl rfl rfl rfl ?_
      exact ((h.2 c42).2 c43)
set_option maxRecDepth 100000 in
set_option maxHeartbeats 4000000 in
theorem r_X13_lays_35 {d : Nat} {QR : Option gw_SV → gw_Mem → Prop} {Γ : gw_Ga} (x2 : Int) (x3 : Int) (x4 : Int) (x5 : Int) (m : gw_Mem) (h : gw_CIx Γ d M_X13_marks [gR 900, gI x4] m (fun v7 m8 => ((v7 ≤ x5 → gw_G M_X13_lays d QR Γ 91 [some (gR 0), some (gR 900), some (gI x2), some (gI x3), some (gI x4), some (gI x5)] [] m8) ∧ (¬ (v7 ≤ x5) → ((x3 = 0 → gw_G M_X13_lays d QR Γ 91 [some (gR 0), some (gR 900), some (gI x2), some (gI x3), some (gI x4), some (gI x5)] [] m8) ∧ (¬ (x3 = 0) → gw_CIx Γ d M_X13_mark [gR 900, gI x4, gI x5, gI 0] m8 (fun v10 m11 => gw_CIx Γ d M_X13_mark [gR 900, gI x4, gI x5, gI 1] m11 (fun v13 m14 => gw_CIx Γ d M_X11_mark [gR 0, gI x4, gI v10, gI v13] m14 (fun v16 m17 => gw_G M_X13_lays d QR Γ 35 [some (gR 0), some (gR 900), some (gI x2), some (gI (if v16 = x5 then (1 : Int) else (0 : Int))), some (gI x4), some (gI (gw_w (x5 + 1)))] [] m17))))))))) : gw_G M_X13_lays d QR Γ 35 [some (gR 0), some (gR 900), some (gI x2), some (gI x3), some (gI x4), some (gI x5)] [] m := by
  refine gw_iload 37 d_X13_lays_35 rfl rfl ?_
  refine gw_aload_n 38 d_X13_lays_37 rfl rfl ?_
  refine gw_iload 40 d_X13_lays_38 rfl rfl ?_
  refine gw_cSIx (a := [gR 900, gI x4]) (rest := [gI x5]) 43 d_X13_lays_40 rfl ml_13_24 v_X13_marks rfl rfl rfl h (fun v7 m8 h9 => ?_)
  refine gw_icmp_ge 91 46 d_X13_lays_43 rfl rfl (fun c44 => ?_) (fun c44 => ?_)
  · skip
    exact (h9.1 c44)
  · skip
    refine gw_iload_n 47 d_X13_lays_46 rfl rfl ?_
    refine gw_if_eq 91 50 d_X13_lays_47 rfl rfl (fun c45 => ?_) (fun c45 => ?_)
    · skip
      exact ((h9.2 c44).1 c45)
    · skip
      refine gw_aload_n 51 d_X13_lays_50 rfl rfl ?_
      refine gw_iload 53 d_X13_lays_51 rfl rfl ?_
      refine gw_aload_n 54 d_X13_lays_53 rfl rfl ?_
      refine gw_iload 56 d_X13_lays_54 rfl rfl ?_
      refine gw_iload 58 d_X13_lays_56 rfl rfl ?_
      refine gw_iconst 59 d_X13_lays_58 rfl rfl ?_
      refine gw_cSIx (a := [gR 900, gI x4, gI x5, gI 0]) (rest := [gI x4, gR 0]) 62 d_X13_lays_59 rfl ml_13_27 v_X13_mark rfl rfl rfl ((h9.2 c44).2 c45) (fun v10 m11 h12 => ?_)
      refine gw_aload_n 63 d_X13_lays_62 rfl rfl ?_
      refine gw_iload 65 d_X13_lays_63 rfl rfl ?_
      refine gw_iload 67 d_X13_lays_65 rfl rfl ?_
      refine gw_iconst 68 d_X13_lays_67 rfl rfl ?_
      refine gw_cSIx (a := [gR 900, gI x4, gI x5, gI 1]) (rest := [gI v10, gI x4, gR 0]) 71 d_X13_lays_68 rfl ml_13_27 v_X13_mark rfl rfl rfl h12 (fun v13 m14 h15 => ?_)
      refine gw_cVIx (a := [gI x4, gI v10, gI v13]) (rest := []) 74 d_X13_lays_71 rfl ml_13_31 v_X11_mark rfl sh_0 rfl rfl rfl h15 (fun v16 m17 h18 => ?_)
      refine gw_iload 76 d_X13_lays_74 rfl rfl ?_
      have j46 : gw_G M_X13_lays d QR Γ 84 [some (gR 0), some (gR 900), some (gI x2), some (gI x3), some (gI x4), some (gI x5)] [gI (if v16 = x5 then (1 : Int) else (0 : Int))] m17 := by
        refine gw_istore_n (ls' := [some (gR 0), some (gR 900), some (gI x2), some (gI (if v16 = x5 then (1 : Int) else (0 : Int))), some (gI x4), some (gI x5)]) 85 d_X13_lays_84 rfl rfl rfl rfl ?_
        refine gw_iinc (ls' := [some (gR 0), some (gR 900), some (gI x2), some (gI (if v16 = x5 then (1 : Int) else (0 : Int))), some (gI x4), some (gI (gw_w (x5 + 1)))]) 88 d_X13_lays_85 rfl rfl rfl rfl rfl ?_
        refine gw_goto 35 d_X13_lays_88 rfl ?_
        exact h18
      refine gw_icmp_ne 83 79 d_X13_lays_76 rfl rfl (fun c47 => ?_) (fun c47 => ?_)
      · skip
        refine gw_iconst 80 d_X13_lays_79 rfl rfl ?_
        refine gw_goto 84 d_X13_lays_80 rfl ?_
        simpa only [if_pos c47] using j46
      · skip
        refine gw_iconst 84 d_X13_lays_83 rfl rfl ?_
        simpa only [if_neg c47] using j46
set_option maxRecDepth 100000 in
set_option maxHeartbeats 4000000 in
theorem r_X13_lays_91 {d : Nat} {QR : Option gw_SV → gw_Mem → Prop} {Γ : gw_Ga} (x2 : Int) (x3 : Int) (x4 : Int) (x5 : Int) (m : gw_Mem) (h : gw_G M_X13_lays d QR Γ 22 [some (gR 0), some (gR 900), some (gI x2), some (gI x3), some (gI (gw_w (x4 + 1))), some (gI x5)] [] m) : gw_G M_X13_lays d QR Γ 91 [some (gR 0), some (gR 900), some (gI x2), some (gI x3), some (gI x4), some (gI x5)] [] m := by
  refine gw_iinc (ls' := [some (gR 0), some (gR 900), some (gI x2), some (gI x3), some (gI (gw_w (x4 + 1))), some (gI x5)]) 94 d_X13_lays_91 rfl rfl rfl rfl rfl ?_
  refine gw_goto 22 d_X13_lays_94 rfl ?_
  exact h
set_option maxRecDepth 100000 in
set_option maxHeartbeats 4000000 in
theorem r_X13_lays_97 {d : Nat} {QR : Option gw_SV → gw_Mem → Prop} {Γ : gw_Ga} (x2 : Int) (x3 : Int) (x4 : Int) (y5 : Option gw_SV) (m : gw_Mem) (h : gw_G M_X13_lays d QR Γ 100 [some (gR 0), some (gR 900), some (gI x2), some (gI x3), some (gI 0), y5] [] m) : gw_G M_X13_lays d QR Γ 97 [some (gR 0), some (gR 900), some (gI x2), some (gI x3), some (gI x4), y5] [] m := by
  refine gw_iconst 98 d_X13_lays_97 rfl rfl ?_
  refine gw_istore (ls' := [some (gR 0), some (gR 900), some (gI x2), some (gI x3), some (gI 0), y5]) 100 d_X13_lays_98 rfl rfl rfl rfl ?_
  exact h
set_option maxRecDepth 100000 in
set_option maxHeartbeats 4000000 in
theorem r_X13_lays_100 {d : Nat} {QR : Option gw_SV → gw_Mem → Prop} {Γ : gw_Ga} (x2 : Int) (x3 : Int) (x4 : Int) (y5 : Option gw_SV) (m : gw_Mem) (h : ((5 ≤ x4 → gw_G M_X13_lays d QR Γ 137 [some (gR 0), some (gR 900), some (gI x2), some (gI x3), some (gI x4), y5] [] m) ∧ (¬ (5 ≤ x4) → ((x3 = 0 → gw_G M_X13_lays d QR Γ 137 [some (gR 0), some (gR 900), some (gI x2), some (gI x3), some (gI x4), y5] [] m) ∧ (¬ (x3 = 0) → gw_CIx Γ d M_X13_rule [gR 900, gI x4] m (fun v19 m20 => gw_CIx Γ d M_X11_rule [gR 0, gI x4, gI v19] m20 (fun v22 m23 => gw_G M_X13_lays d QR Γ 100 [some (gR 0), some (gR 900), some (gI x2), some (gI (if v22 < 0 then (0 : Int) else (1 : Int))), some (gI (gw_w (x4 + 1))), y5] [] m23))))))) : gw_G M_X13_lays d QR Γ 100 [some (gR 0), some (gR 900), some (gI x2), some (gI x3), some (gI x4), y5] [] m := by
  refine gw_iload 102 d_X13_lays_100 rfl rfl ?_
  refine gw_iconst 103 d_X13_lays_102 rfl rfl ?_
  refine gw_icmp_ge 137 106 d_X13_lays_103 rfl rfl (fun c48 => ?_) (fun c48 => ?_)
  · skip
    exact (h.1 c48)
  · skip
    refine gw_iload_n 107 d_X13_lays_106 rfl rfl ?_
    refine gw_if_eq 137 110 d_X13_lays_107 rfl rfl (fun c49 => ?_) (fun c49 => ?_)
    · skip
      exact ((h.2 c48).1 c49)
    · skip
      refine gw_aload_n 111 d_X13_lays_110 rfl rfl ?_
      refine gw_iload 113 d_X13_lays_111 rfl rfl ?_
      refine gw_aload_n 114 d_X13_lays_113 rfl rfl ?_
      refine gw_iload 116 d_X13_lays_114 rfl rfl ?_
      refine gw_cSIx (a := [gR 900, gI x4]) (rest := [gI x4, gR 0]) 119 d_X13_lays_116 rfl ml_13_34 v_X13_rule rfl rfl rfl ((h.2 c48).2 c49) (fun v19 m20 h21 => ?_)
      refine gw_cVIx (a := [gI x4, gI v19]) (rest := []) 122 d_X13_lays_119 rfl ml_13_37 v_X11_rule rfl sh_0 rfl rfl rfl h21 (fun v22 m23 h24 => ?_)
      have j50 : gw_G M_X13_lays d QR Γ 130 [some (gR 0), some (gR 900), some (gI x2), some (gI x3), some (gI x4), y5] [gI (if v22 < 0 then (0 : Int) else (1 : Int))] m23 := by
        refine gw_istore_n (ls' := [some (gR 0), some (gR 900), some (gI x2), some (gI (if v22 < 0 then (0 : Int) else (1 : Int))), some (gI x4), y5]) 131 d_X13_lays_130 rfl rfl rfl rfl ?_
        refine gw_iinc (ls' := [some (gR 0), some (gR 900), some (gI x2), some (gI (if v22 < 0 then (0 : Int) else (1 : Int))), some (gI (gw_w (x4 + 1))), y5]) 134 d_X13_lays_131 rfl rfl rfl rfl rfl ?_
        refine gw_goto 100 d_X13_lays_134 rfl ?_
        exact h24
      refine gw_if_lt 129 125 d_X13_lays_122 rfl rfl (fun c51 => ?_) (fun c51 => ?_)
      · skip
        refine gw_iconst 130 d_X13_lays_129 rfl rfl ?_
        simpa only [if_pos c51] using j50
      · skip
        refine gw_iconst 126 d_X13_lays_125 rfl rfl ?_
        refine gw_goto 130 d_X13_lays_126 rfl ?_
        simpa only [if_neg c51] using j50
set_option maxRecDepth 100000 in
set_option maxHeartbeats 4000000 in
theorem r_X13_lays_137 {d : Nat} {QR : Option gw_SV → gw_Mem → Prop} {Γ : gw_Ga} (x2 : Int) (x3 : Int) (x4 : Int) (y5 : Option gw_SV) (m : gw_Mem) (h : gw_G M_X13_lays d QR Γ 140 [some (gR 0), some (gR 900), some (gI x2), some (gI x3), some (gI 0), y5] [] m) : gw_G M_X13_lays d QR Γ 137 [some (gR 0), some (gR 900), some (gI x2), some (gI x3), some (gI x4), y5] [] m := by
  refine gw_iconst 138 d_X13_lays_137 rfl rfl ?_
  refine gw_istore (ls' := [some (gR 0), some (gR 900), some (gI x2), some (gI x3), some (gI 0), y5]) 140 d_X13_lays_138 rfl rfl rfl rfl ?_
  exact h
set_option maxRecDepth 100000 in
set_option maxHeartbeats 4000000 in
theorem r_X13_lays_140 {d : Nat} {QR : Option gw_SV → gw_Mem → Prop} {Γ : gw_Ga} (x2 : Int) (x3 : Int) (x4 : Int) (y5 : Option gw_SV) (m : gw_Mem) (h : gw_CIx Γ d M_X13_people [gR 900, gI x2] m (fun v25 m26 => ((v25 ≤ x4 → gw_b x3 ∧ QR (some (gI x3)) m26) ∧ (¬ (v25 ≤ x4) → ((x3 = 0 → gw_b x3 ∧ QR (some (gI x3)) m26) ∧ (¬ (x3 = 0) → gw_CIx Γ d M_X13_one [gR 900, gI x4, gI 0] m26 (fun v28 m29 => gw_CIx Γ d M_X13_one [gR 900, gI x4, gI 1] m29 (fun v31 m32 => gw_CIx Γ d M_X13_one [gR 900, gI x4, gI 2] m32 (fun v34 m35 => gw_CIx Γ d M_X11_person [gR 0, gI v28, gI v31, gI (if v34 = 1 then (1 : Int) else (0 : Int))] m35 (fun v37 m38 => gw_G M_X13_lays d QR Γ 140 [some (gR 0), some (gR 900), some (gI x2), some (gI (if v37 = x4 then (1 : Int) else (0 : Int))), some (gI (gw_w (x4 + 1))), y5] [] m38)))))))))) : gw_G M_X13_lays d QR Γ 140 [some (gR 0), some (gR 900), some (gI x2), some (gI x3), some (gI x4), y5] [] m := by
  refine gw_iload 142 d_X13_lays_140 rfl rfl ?_
  refine gw_aload_n 143 d_X13_lays_142 rfl rfl ?_
  refine gw_iload_n 144 d_X13_lays_143 rfl rfl ?_
  refine gw_cSIx (a := [gR 900, gI x2]) (rest := [gI x4]) 147 d_X13_lays_144 rfl ml_13_40 v_X13_people rfl rfl rfl h (fun v25 m26 h27 => ?_)
  refine gw_icmp_ge 205 150 d_X13_lays_147 rfl rfl (fun c52 => ?_) (fun c52 => ?_)
  · skip
    refine gw_iload_n 206 d_X13_lays_205 rfl rfl ?_
    exact gw_ireturn d_X13_lays_206 (Or.inr ⟨rfl, (h27.1 c52).1⟩) (h27.1 c52).2
  · skip
    refine gw_iload_n 151 d_X13_lays_150 rfl rfl ?_
    refine gw_if_eq 205 154 d_X13_lays_151 rfl rfl (fun c53 => ?_) (fun c53 => ?_)
    · skip
      refine gw_iload_n 206 d_X13_lays_205 rfl rfl ?_
      exact gw_ireturn d_X13_lays_206 (Or.inr ⟨rfl, ((h27.2 c52).1 c53).1⟩) ((h27.2 c52).1 c53).2
    · skip
      refine gw_aload_n 155 d_X13_lays_154 rfl rfl ?_
      refine gw_aload_n 156 d_X13_lays_155 rfl rfl ?_
      refine gw_iload 158 d_X13_lays_156 rfl rfl ?_
      refine gw_iconst 159 d_X13_lays_158 rfl rfl ?_
      refine gw_cSIx (a := [gR 900, gI x4, gI 0]) (rest := [gR 0]) 162 d_X13_lays_159 rfl ml_13_43 v_X13_one rfl rfl rfl ((h27.2 c52).2 c53) (fun v28 m29 h30 => ?_)
      refine gw_aload_n 163 d_X13_lays_162 rfl rfl ?_
      refine gw_iload 165 d_X13_lays_163 rfl rfl ?_
      refine gw_iconst 166 d_X13_lays_165 rfl rfl ?_
      refine gw_cSIx (a := [gR 900, gI x4, gI 1]) (rest := [gI v28, gR 0]) 169 d_X13_lays_166 rfl ml_13_43 v_X13_one rfl rfl rfl h30 (fun v31 m32 h33 => ?_)
      refine gw_aload_n 170 d_X13_lays_169 rfl rfl ?_
      refine gw_iload 172 d_X13_lays_170 rfl rfl ?_
      refine gw_iconst 173 d_X13_lays_172 rfl rfl ?_
      refine gw_cSIx (a := [gR 900, gI x4, gI 2]) (rest := [gI v31, gI v28, gR 0]) 176 d_X13_lays_173 rfl ml_13_43 v_X13_one rfl rfl rfl h33 (fun v34 m35 h36 => ?_)
      refine gw_iconst 177 d_X13_lays_176 rfl rfl ?_
      have j54 : gw_G M_X13_lays d QR Γ 185 [some (gR 0), some (gR 900), some (gI x2), some (gI x3), some (gI x4), y5] [gI (if v34 = 1 then (1 : Int) else (0 : Int)), gI v31, gI v28, gR 0] m35 := by
        refine gw_cVIx (a := [gI v28, gI v31, gI (if v34 = 1 then (1 : Int) else (0 : Int))]) (rest := []) 188 d_X13_lays_185 rfl ml_13_47 v_X11_person rfl sh_0 rfl rfl rfl h36 (fun v37 m38 h39 => ?_)
        refine gw_iload 190 d_X13_lays_188 rfl rfl ?_
        have j56 : gw_G M_X13_lays d QR Γ 198 [some (gR 0), some (gR 900), some (gI x2), some (gI x3), some (gI x4), y5] [gI (if v37 = x4 then (1 : Int) else (0 : Int))] m38 := by
          refine gw_istore_n (ls' := [some (gR 0), some (gR 900), some (gI x2), some (gI (if v37 = x4 then (1 : Int) else (0 : Int))), some (gI x4), y5]) 199 d_X13_lays_198 rfl rfl rfl rfl ?_
          refine gw_iinc (ls' := [some (gR 0), some (gR 900), some (gI x2), some (gI (if v37 = x4 then (1 : Int) else (0 : Int))), some (gI (gw_w (x4 + 1))), y5]) 202 d_X13_lays_199 rfl rfl rfl rfl rfl ?_
          refine gw_goto 140 d_X13_lays_202 rfl ?_
          exact h39
        refine gw_icmp_ne 197 193 d_X13_lays_190 rfl rfl (fun c57 => ?_) (fun c57 => ?_)
        · skip
          refine gw_iconst 194 d_X13_lays_193 rfl rfl ?_
          refine gw_goto 198 d_X13_lays_194 rfl ?_
          simpa only [if_pos c57] using j56
        · skip
          refine gw_iconst 198 d_X13_lays_197 rfl rfl ?_
          simpa only [if_neg c57] using j56
      refine gw_icmp_ne 184 180 d_X13_lays_177 rfl rfl (fun c55 => ?_) (fun c55 => ?_)
      · skip
        refine gw_iconst 181 d_X13_lays_180 rfl rfl ?_
        refine gw_goto 185 d_X13_lays_181 rfl ?_
        simpa only [if_pos c55] using j54
      · skip
        refine gw_iconst 185 d_X13_lays_184 rfl rfl ?_
        simpa only [if_neg c55] using j54
