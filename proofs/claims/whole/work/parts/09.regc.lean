set_option maxRecDepth 100000 in
set_option maxHeartbeats 4000000 in
theorem r_X12_in_0 {d : Nat} {QR : Option gw_SV → gw_Mem → Prop} {Γ : gw_Ga} (x0 : Int) (x2 : Int) (x4 : Int) (m : gw_Mem) (h : QR (some (gI (if gw_cmp x0 x2 < 0 then (0 : Int) else (if 0 < gw_cmp x0 x4 then (0 : Int) else (1 : Int))))) m) : gw_G M_X12_in d QR Γ 0 [some (gL x0), none, some (gL x2), none, some (gL x4), none] [] m := by
  refine gw_lload_n 1 d_X12_in_0 rfl rfl ?_
  refine gw_lload_n 2 d_X12_in_1 rfl rfl ?_
  refine gw_lcmpR 3 d_X12_in_2 rfl  ?_
  have j1 : gw_G M_X12_in d QR Γ 18 [some (gL x0), none, some (gL x2), none, some (gL x4), none] [gI (if gw_cmp x0 x2 < 0 then (0 : Int) else (if 0 < gw_cmp x0 x4 then (0 : Int) else (1 : Int)))] m := by
    exact gw_ireturn d_X12_in_18 (Or.inr ⟨rfl, (gw_bi gw_b0 (gw_bi gw_b0 gw_b1))⟩) h
  refine gw_if_lt 17 6 d_X12_in_3 rfl rfl (fun c2 => ?_) (fun c2 => ?_)
  · skip
    refine gw_iconst 18 d_X12_in_17 rfl rfl ?_
    simpa only [if_pos c2] using j1
  · skip
    refine gw_lload_n 7 d_X12_in_6 rfl rfl ?_
    refine gw_lload 9 d_X12_in_7 rfl rfl ?_
    refine gw_lcmpR 10 d_X12_in_9 rfl  ?_
    refine gw_if_gt 17 13 d_X12_in_10 rfl rfl (fun c3 => ?_) (fun c3 => ?_)
    · skip
      refine gw_iconst 18 d_X12_in_17 rfl rfl ?_
      simpa only [if_neg c2, if_pos c3] using j1
    · skip
      refine gw_iconst 14 d_X12_in_13 rfl rfl ?_
      refine gw_goto 18 d_X12_in_14 rfl ?_
      simpa only [if_neg c2, if_neg c3] using j1
set_option maxRecDepth 100000 in
set_option maxHeartbeats 4000000 in
theorem r_X12_isLength_0 {d : Nat} {QR : Option gw_SV → gw_Mem → Prop} {Γ : gw_Ga} (x0 : Int) (x1 : Int) (m : gw_Mem) (h : gw_CI d M_X12_in [gL x1, gL (if x0 = 1 then (2 : Int) else (1 : Int)), gL (if x0 = 3 then (50 : Int) else (20 : Int))] m (fun v1 m2 => gw_b v1 ∧ QR (some (gI v1)) m2)) : gw_G M_X12_isLength d QR Γ 0 [some (gI x0), some (gI x1)] [] m := by
  refine gw_iload_n 1 d_X12_isLength_0 rfl rfl ?_
  refine gw_i2lR 2 d_X12_isLength_1 rfl  ?_
  refine gw_iload_n 3 d_X12_isLength_2 rfl rfl ?_
  refine gw_iconst 4 d_X12_isLength_3 rfl rfl ?_
  have j4 : gw_G M_X12_isLength d QR Γ 14 [some (gI x0), some (gI x1)] [gL (if x0 = 1 then (2 : Int) else (1 : Int)), gL x1] m := by
    refine gw_iload_n 15 d_X12_isLength_14 rfl rfl ?_
    refine gw_iconst 16 d_X12_isLength_15 rfl rfl ?_
    have j6 : gw_G M_X12_isLength d QR Γ 28 [some (gI x0), some (gI x1)] [gL (if x0 = 3 then (50 : Int) else (20 : Int)), gL (if x0 = 1 then (2 : Int) else (1 : Int)), gL x1] m := by
      refine gw_cSI (a := [gL x1, gL (if x0 = 1 then (2 : Int) else (1 : Int)), gL (if x0 = 3 then (50 : Int) else (20 : Int))]) (rest := []) 31 d_X12_isLength_28 rfl ml_12_98 v_X12_in rfl rfl rfl h (fun v1 m2 h3 => ?_)
      exact gw_ireturn d_X12_isLength_31 (Or.inr ⟨rfl, h3.1⟩) h3.2
    refine gw_icmp_ne 25 19 d_X12_isLength_16 rfl rfl (fun c7 => ?_) (fun c7 => ?_)
    · skip
      refine gw_ldc2 22 d_X12_isLength_19 rfl ct_12_94 (n := 50) (gw_rb_inL (gw_rb_in rfl)) (by decide) ?_
      refine gw_goto 28 d_X12_isLength_22 rfl ?_
      simpa only [if_pos c7] using j6
    · skip
      refine gw_ldc2 28 d_X12_isLength_25 rfl ct_12_96 (n := 20) (gw_rb_inL (gw_rb_in rfl)) (by decide) ?_
      simpa only [if_neg c7] using j6
  refine gw_icmp_ne 13 7 d_X12_isLength_4 rfl rfl (fun c5 => ?_) (fun c5 => ?_)
  · skip
    refine gw_ldc2 10 d_X12_isLength_7 rfl ct_12_92 (n := 2) (gw_rb_inL (gw_rb_in rfl)) (by decide) ?_
    refine gw_goto 14 d_X12_isLength_10 rfl ?_
    simpa only [if_pos c5] using j4
  · skip
    refine gw_lconst 14 d_X12_isLength_13 rfl (n := 1) rfl (by decide) ?_
    simpa only [if_neg c5] using j4
set_option maxRecDepth 100000 in
set_option maxHeartbeats 4000000 in
theorem r_X12_end_0 {d : Nat} {QR : Option gw_SV → gw_Mem → Prop} {Γ : gw_Ga} (x1 : Int) (m : gw_Mem) (h : gw_CI d M_X12_in [gL x1, gL 10, gL 99] m (fun v1 m2 => ((v1 = 0 → QR (some (gI (-1))) m2) ∧ (¬ (v1 = 0) → QR (some (gI (m2 117 0))) (gw_up m2 117 0 x1))))) : gw_G M_X12_end d QR Γ 0 [some (gR 117), some (gI x1), none] [] m := by
  refine gw_iload_n 1 d_X12_end_0 rfl rfl ?_
  refine gw_i2lR 2 d_X12_end_1 rfl  ?_
  refine gw_ldc2 5 d_X12_end_2 rfl ct_12_102 (n := 10) (gw_rb_inL (gw_rb_in rfl)) (by decide) ?_
  refine gw_ldc2 8 d_X12_end_5 rfl ct_12_104 (n := 99) (gw_rb_inL (gw_rb_in rfl)) (by decide) ?_
  refine gw_cSI (a := [gL x1, gL 10, gL 99]) (rest := []) 11 d_X12_end_8 rfl ml_12_98 v_X12_in rfl rfl rfl h (fun v1 m2 h3 => ?_)
  refine gw_if_ne 16 14 d_X12_end_11 rfl rfl (fun c4 => ?_) (fun c4 => ?_)
  · skip
    refine gw_iconst 15 d_X12_end_14 rfl rfl ?_
    exact gw_ireturn d_X12_end_15 (Or.inl rfl) (h3.1 c4)
  · skip
    refine gw_aload_n 17 d_X12_end_16 rfl rfl ?_
    refine gw_getI 20 d_X12_end_17 rfl F_12_88 sh_117 rfl (kz := 0) rfl ?_
    refine gw_istore_n (ls' := [some (gR 117), some (gI x1), some (gI (m2 117 0))]) 21 d_X12_end_20 rfl rfl rfl rfl ?_
    refine gw_aload_n 22 d_X12_end_21 rfl rfl ?_
    refine gw_iload_n 23 d_X12_end_22 rfl rfl ?_
    refine gw_putI 26 d_X12_end_23 rfl P_12_88 (Or.inl rfl) sh_117 rfl (kz := 0) rfl ?_
    refine gw_iload_n 27 d_X12_end_26 rfl rfl ?_
    exact gw_ireturn d_X12_end_27 (Or.inl rfl) (h3.2 c4)
set_option maxRecDepth 100000 in
set_option maxHeartbeats 4000000 in
theorem r_X12_markAt_0 {d : Nat} {QR : Option gw_SV → gw_Mem → Prop} {Γ : gw_Ga} (x1 : Int) (x2 : Int) (m : gw_Mem) (h : gw_G M_X12_markAt d QR Γ 6 [some (gR 117), some (gI x1), some (gI x2), some (gI (-4)), some (gI 0)] [] m) : gw_G M_X12_markAt d QR Γ 0 [some (gR 117), some (gI x1), some (gI x2), none, none] [] m := by
  refine gw_bipush 2 d_X12_markAt_0 rfl rfl (by decide) ?_
  refine gw_istore_n (ls' := [some (gR 117), some (gI x1), some (gI x2), some (gI (-4)), none]) 3 d_X12_markAt_2 rfl rfl rfl rfl ?_
  refine gw_iconst 4 d_X12_markAt_3 rfl rfl ?_
  refine gw_istore (ls' := [some (gR 117), some (gI x1), some (gI x2), some (gI (-4)), some (gI 0)]) 6 d_X12_markAt_4 rfl rfl rfl rfl ?_
  exact h
set_option maxRecDepth 100000 in
set_option maxHeartbeats 4000000 in
theorem r_X12_markAt_6 {d : Nat} {QR : Option gw_SV → gw_Mem → Prop} {Γ : gw_Ga} (x1 : Int) (x2 : Int) (x3 : Int) (x4 : Int) (m : gw_Mem) (h : gw_in x1 4 ∧ ((m 118 x1 ≤ x4 → QR (some (gI x3)) m) ∧ (¬ (m 118 x1 ≤ x4) → gw_in (gw_w ((gw_w (8 * x1)) + x4)) 32 ∧ gw_G M_X12_markAt d QR Γ 6 [some (gR 117), some (gI x1), some (gI x2), some (gI (if m 119 (gw_w ((gw_w (8 * x1)) + x4)) = x2 then x4 else x3)), some (gI (gw_w (x4 + 1)))] [] m))) : gw_G M_X12_markAt d QR Γ 6 [some (gR 117), some (gI x1), some (gI x2), some (gI x3), some (gI x4)] [] m := by
  refine gw_iload 8 d_X12_markAt_6 rfl rfl ?_
  refine gw_aload_n 9 d_X12_markAt_8 rfl rfl ?_
  refine gw_getR 12 d_X12_markAt_9 rfl F_12_7 sh_117 rfl ?_
  refine gw_iload_n 13 d_X12_markAt_12 rfl rfl ?_
  refine gw_iaload 14 d_X12_markAt_13 rfl sh_118 h.1 ?_
  refine gw_icmp_ge 46 17 d_X12_markAt_14 rfl rfl (fun c1 => ?_) (fun c1 => ?_)
  · skip
    refine gw_iload_n 47 d_X12_markAt_46 rfl rfl ?_
    exact gw_ireturn d_X12_markAt_47 (Or.inl rfl) (h.2.1 c1)
  · skip
    refine gw_aload_n 18 d_X12_markAt_17 rfl rfl ?_
    refine gw_getR 21 d_X12_markAt_18 rfl F_12_13 sh_117 rfl ?_
    refine gw_bipush 23 d_X12_markAt_21 rfl rfl (by decide) ?_
    refine gw_iload_n 24 d_X12_markAt_23 rfl rfl ?_
    refine gw_imul 25 d_X12_markAt_24 rfl  ?_
    refine gw_iload 27 d_X12_markAt_25 rfl rfl ?_
    refine gw_iadd 28 d_X12_markAt_27 rfl  ?_
    refine gw_iaload 29 d_X12_markAt_28 rfl sh_119 (h.2.2 c1).1 ?_
    refine gw_iload_n 30 d_X12_markAt_29 rfl rfl ?_
    have j2 : gw_G M_X12_markAt d QR Γ 39 [some (gR 117), some (gI x1), some (gI x2), some (gI x3), some (gI x4)] [gI (if m 119 (gw_w ((gw_w (8 * x1)) + x4)) = x2 then x4 else x3)] m := by
      refine gw_istore_n (ls' := [some (gR 117), some (gI x1), some (gI x2), some (gI (if m 119 (gw_w ((gw_w (8 * x1)) + x4)) = x2 then x4 else x3)), some (gI x4)]) 40 d_X12_markAt_39 rfl rfl rfl rfl ?_
      refine gw_iinc (ls' := [some (gR 117), some (gI x1), some (gI x2), some (gI (if m 119 (gw_w ((gw_w (8 * x1)) + x4)) = x2 then x4 else x3)), some (gI (gw_w (x4 + 1)))]) 43 d_X12_markAt_40 rfl rfl rfl rfl rfl ?_
      refine gw_goto 6 d_X12_markAt_43 rfl ?_
      exact (h.2.2 c1).2
    refine gw_icmp_ne 38 33 d_X12_markAt_30 rfl rfl (fun c3 => ?_) (fun c3 => ?_)
    · skip
      refine gw_iload 35 d_X12_markAt_33 rfl rfl ?_
      refine gw_goto 39 d_X12_markAt_35 rfl ?_
      simpa only [if_pos c3] using j2
    · skip
      refine gw_iload_n 39 d_X12_markAt_38 rfl rfl ?_
      simpa only [if_neg c3] using j2
set_option maxRecDepth 100000 in
set_option maxHeartbeats 4000000 in
theorem r_X12_comes_0 {d : Nat} {QR : Option gw_SV → gw_Mem → Prop} {Γ : gw_Ga} (x1 : Int) (x2 : Int) (x3 : Int) (m : gw_Mem) (h : gw_in x1 4 ∧ gw_in (gw_w ((gw_w (8 * x1)) + (m 118 x1))) 32 ∧ gw_in (gw_w ((gw_w (8 * x1)) + (m 118 x1))) 32 ∧ ((x1 = 0 → gw_in (m 118 x1) 8 ∧ gw_G M_X12_comes d QR Γ 47 [some (gR 117), some (gI x1), some (gI x2), some (gI x3), some (gI (m 118 x1))] [] (gw_up (gw_up (gw_up m 119 (gw_w ((gw_w (8 * x1)) + (m 118 x1))) x2) 120 (gw_w ((gw_w (8 * x1)) + (m 118 x1))) x3) 121 (m 118 x1) 10)) ∧ (¬ (x1 = 0) → gw_G M_X12_comes d QR Γ 47 [some (gR 117), some (gI x1), some (gI x2), some (gI x3), some (gI (m 118 x1))] [] (gw_up (gw_up m 119 (gw_w ((gw_w (8 * x1)) + (m 118 x1))) x2) 120 (gw_w ((gw_w (8 * x1)) + (m 118 x1))) x3)))) : gw_G M_X12_comes d QR Γ 0 [some (gR 117), some (gI x1), some (gI x2), some (gI x3), none] [] m := by
  refine gw_aload_n 1 d_X12_comes_0 rfl rfl ?_
  refine gw_getR 4 d_X12_comes_1 rfl F_12_7 sh_117 rfl ?_
  refine gw_iload_n 5 d_X12_comes_4 rfl rfl ?_
  refine gw_iaload 6 d_X12_comes_5 rfl sh_118 h.1 ?_
  refine gw_istore (ls' := [some (gR 117), some (gI x1), some (gI x2), some (gI x3), some (gI (m 118 x1))]) 8 d_X12_comes_6 rfl rfl rfl rfl ?_
  refine gw_aload_n 9 d_X12_comes_8 rfl rfl ?_
  refine gw_getR 12 d_X12_comes_9 rfl F_12_13 sh_117 rfl ?_
  refine gw_bipush 14 d_X12_comes_12 rfl rfl (by decide) ?_
  refine gw_iload_n 15 d_X12_comes_14 rfl rfl ?_
  refine gw_imul 16 d_X12_comes_15 rfl  ?_
  refine gw_iload 18 d_X12_comes_16 rfl rfl ?_
  refine gw_iadd 19 d_X12_comes_18 rfl  ?_
  refine gw_iload_n 20 d_X12_comes_19 rfl rfl ?_
  refine gw_iastore 21 d_X12_comes_20 rfl sh_119 h.2.1 ?_
  refine gw_aload_n 22 d_X12_comes_21 rfl rfl ?_
  refine gw_getR 25 d_X12_comes_22 rfl F_12_16 sh_117 rfl ?_
  refine gw_bipush 27 d_X12_comes_25 rfl rfl (by decide) ?_
  refine gw_iload_n 28 d_X12_comes_27 rfl rfl ?_
  refine gw_imul 29 d_X12_comes_28 rfl  ?_
  refine gw_iload 31 d_X12_comes_29 rfl rfl ?_
  refine gw_iadd 32 d_X12_comes_31 rfl  ?_
  refine gw_iload_n 33 d_X12_comes_32 rfl rfl ?_
  refine gw_iastore 34 d_X12_comes_33 rfl sh_120 h.2.2.1 ?_
  refine gw_iload_n 35 d_X12_comes_34 rfl rfl ?_
  refine gw_if_ne 47 38 d_X12_comes_35 rfl rfl (fun c1 => ?_) (fun c1 => ?_)
  · skip
    refine gw_aload_n 39 d_X12_comes_38 rfl rfl ?_
    refine gw_getR 42 d_X12_comes_39 rfl F_12_19 sh_117 rfl ?_
    refine gw_iload 44 d_X12_comes_42 rfl rfl ?_
    refine gw_bipush 46 d_X12_comes_44 rfl rfl (by decide) ?_
    refine gw_iastore 47 d_X12_comes_46 rfl sh_121 (h.2.2.2.1 c1).1 ?_
    exact (h.2.2.2.1 c1).2
  · skip
    exact (h.2.2.2.2 c1)
set_option maxRecDepth 100000 in
set_option maxHeartbeats 4000000 in
theorem r_X12_comes_47 {d : Nat} {QR : Option gw_SV → gw_Mem → Prop} {Γ : gw_Ga} (x1 : Int) (x2 : Int) (x3 : Int) (x4 : Int) (m : gw_Mem) (h : gw_in x1 4 ∧ gw_in x1 4 ∧ QR (some (gI x4)) (gw_up m 118 x1 (gw_w ((m 118 x1) + 1)))) : gw_G M_X12_comes d QR Γ 47 [some (gR 117), some (gI x1), some (gI x2), some (gI x3), some (gI x4)] [] m := by
  refine gw_aload_n 48 d_X12_comes_47 rfl rfl ?_
  refine gw_getR 51 d_X12_comes_48 rfl F_12_7 sh_117 rfl ?_
  refine gw_iload_n 52 d_X12_comes_51 rfl rfl ?_
  refine gw_dup2 53 d_X12_comes_52 rfl rfl rfl ?_
  refine gw_iaload 54 d_X12_comes_53 rfl sh_118 h.1 ?_
  refine gw_iconst 55 d_X12_comes_54 rfl rfl ?_
  refine gw_iadd 56 d_X12_comes_55 rfl  ?_
  refine gw_iastore 57 d_X12_comes_56 rfl sh_118 h.2.1 ?_
  refine gw_iload 59 d_X12_comes_57 rfl rfl ?_
  exact gw_ireturn d_X12_comes_59 (Or.inl rfl) h.2.2
set_option maxRecDepth 100000 in
set_option maxHeartbeats 4000000 in
theorem r_X12_mark_0 {d : Nat} {QR : Option gw_SV → gw_Mem → Prop} {Γ : gw_Ga} (x1 : Int) (x2 : Int) (x3 : Int) (m : gw_Mem) (h : gw_CI d M_X12_in [gL x1, gL 0, gL 3] m (fun v1 m2 => ((v1 = 0 → QR (some (gI (-1))) m2) ∧ (¬ (v1 = 0) → gw_CI d M_X12_in [gL x2, gL 0, gL 99] m2 (fun v4 m5 => ((v4 = 0 → QR (some (gI (-1))) m5) ∧ (¬ (v4 = 0) → gw_CI d M_X12_isLength [gI x1, gI x3] m5 (fun v7 m8 => ((v7 = 0 → QR (some (gI (-1))) m8) ∧ (¬ (v7 = 0) → gw_CI d M_X12_markAt [gR 117, gI x1, gI x2] m8 (fun v10 m11 => ((v10 < 0 → gw_in x1 4 ∧ ((m11 118 x1 = 8 → QR (some (gI (-3))) m11) ∧ (¬ (m11 118 x1 = 8) → gw_CI d M_X12_comes [gR 117, gI x1, gI x2, gI x3] m11 (fun v13 m14 => QR (some (gI v13)) m14)))) ∧ (¬ (v10 < 0) → QR (some (gI (-2))) m11))))))))))))) : gw_G M_X12_mark d QR Γ 0 [some (gR 117), some (gI x1), some (gI x2), some (gI x3)] [] m := by
  refine gw_iload_n 1 d_X12_mark_0 rfl rfl ?_
  refine gw_i2lR 2 d_X12_mark_1 rfl  ?_
  refine gw_lconst 3 d_X12_mark_2 rfl (n := 0) rfl (by decide) ?_
  refine gw_ldc2 6 d_X12_mark_3 rfl ct_12_106 (n := 3) (gw_rb_inL (gw_rb_in rfl)) (by decide) ?_
  refine gw_cSI (a := [gL x1, gL 0, gL 3]) (rest := []) 9 d_X12_mark_6 rfl ml_12_98 v_X12_in rfl rfl rfl h (fun v1 m2 h3 => ?_)
  refine gw_if_eq 32 12 d_X12_mark_9 rfl rfl (fun c16 => ?_) (fun c16 => ?_)
  · skip
    refine gw_iconst 33 d_X12_mark_32 rfl rfl ?_
    exact gw_ireturn d_X12_mark_33 (Or.inl rfl) (h3.1 c16)
  · skip
    refine gw_iload_n 13 d_X12_mark_12 rfl rfl ?_
    refine gw_i2lR 14 d_X12_mark_13 rfl  ?_
    refine gw_lconst 15 d_X12_mark_14 rfl (n := 0) rfl (by decide) ?_
    refine gw_ldc2 18 d_X12_mark_15 rfl ct_12_104 (n := 99) (gw_rb_inL (gw_rb_in rfl)) (by decide) ?_
    refine gw_cSI (a := [gL x2, gL 0, gL 99]) (rest := []) 21 d_X12_mark_18 rfl ml_12_98 v_X12_in rfl rfl rfl (h3.2 c16) (fun v4 m5 h6 => ?_)
    refine gw_if_eq 32 24 d_X12_mark_21 rfl rfl (fun c17 => ?_) (fun c17 => ?_)
    · skip
      refine gw_iconst 33 d_X12_mark_32 rfl rfl ?_
      exact gw_ireturn d_X12_mark_33 (Or.inl rfl) (h6.1 c17)
    · skip
      refine gw_iload_n 25 d_X12_mark_24 rfl rfl ?_
      refine gw_iload_n 26 d_X12_mark_25 rfl rfl ?_
      refine gw_cSI (a := [gI x1, gI x3]) (rest := []) 29 d_X12_mark_26 rfl ml_12_108 v_X12_isLength rfl rfl rfl (h6.2 c17) (fun v7 m8 h9 => ?_)
      refine gw_if_ne 34 32 d_X12_mark_29 rfl rfl (fun c18 => ?_) (fun c18 => ?_)
      · skip
        refine gw_iconst 33 d_X12_mark_32 rfl rfl ?_
        exact gw_ireturn d_X12_mark_33 (Or.inl rfl) (h9.1 c18)
      · skip
        refine gw_aload_n 35 d_X12_mark_34 rfl rfl ?_
        refine gw_iload_n 36 d_X12_mark_35 rfl rfl ?_
        refine gw_iload_n 37 d_X12_mark_36 rfl rfl ?_
        refine gw_cVI (a := [gI x1, gI x2]) (rest := []) 40 d_X12_mark_37 rfl ml_12_112 v_X12_markAt rfl sh_117 rfl rfl rfl (h9.2 c18) (fun v10 m11 h12 => ?_)
        refine gw_if_lt 46 43 d_X12_mark_40 rfl rfl (fun c19 => ?_) (fun c19 => ?_)
        · skip
          refine gw_aload_n 47 d_X12_mark_46 rfl rfl ?_
          refine gw_getR 50 d_X12_mark_47 rfl F_12_7 sh_117 rfl ?_
          refine gw_iload_n 51 d_X12_mark_50 rfl rfl ?_
          refine gw_iaload 52 d_X12_mark_51 rfl sh_118 (h12.1 c19).1 ?_
          refine gw_bipush 54 d_X12_mark_52 rfl rfl (by decide) ?_
          refine gw_icmp_ne 62 57 d_X12_mark_54 rfl rfl (fun c20 => ?_) (fun c20 => ?_)
          · skip
            refine gw_bipush 59 d_X12_mark_57 rfl rfl (by decide) ?_
            refine gw_goto 69 d_X12_mark_59 rfl ?_
            exact gw_ireturn d_X12_mark_69 (Or.inl rfl) ((h12.1 c19).2.1 c20)
          · skip
            refine gw_aload_n 63 d_X12_mark_62 rfl rfl ?_
            refine gw_iload_n 64 d_X12_mark_63 rfl rfl ?_
            refine gw_iload_n 65 d_X12_mark_64 rfl rfl ?_
            refine gw_iload_n 66 d_X12_mark_65 rfl rfl ?_
            refine gw_cVI (a := [gI x1, gI x2, gI x3]) (rest := []) 69 d_X12_mark_66 rfl ml_12_116 v_X12_comes rfl sh_117 rfl rfl rfl ((h12.1 c19).2.2 c20) (fun v13 m14 h15 => ?_)
            exact gw_ireturn d_X12_mark_69 (Or.inl rfl) h15
        · skip
          refine gw_bipush 45 d_X12_mark_43 rfl rfl (by decide) ?_
          exact gw_ireturn d_X12_mark_45 (Or.inl rfl) (h12.2 c19)
set_option maxRecDepth 100000 in
set_option maxHeartbeats 4000000 in
theorem r_X12_told_0 {d : Nat} {QR : Option gw_SV → gw_Mem → Prop} {Γ : gw_Ga} (x1 : Int) (x2 : Int) (x3 : Int) (m : gw_Mem) (h : gw_CI d M_X12_in [gL x1, gL 0, gL 3] m (fun v1 m2 => ((v1 = 0 → QR (some (gI (-1))) m2) ∧ (¬ (v1 = 0) → gw_in x1 4 ∧ gw_CI d M_X12_in [gL x2, gL 0, gL (gw_w ((m2 118 x1) - 1))] m2 (fun v4 m5 => ((v4 = 0 → QR (some (gI (-1))) m5) ∧ (¬ (v4 = 0) → gw_CI d M_X12_in [gL x3, gL 0, gL (if x1 = 0 then (2 : Int) else (1 : Int))] m5 (fun v7 m8 => ((v7 = 0 → QR (some (gI (-1))) m8) ∧ (¬ (v7 = 0) → (x3 = 0 → gw_in (gw_w ((gw_w (8 * x1)) + x2)) 32) ∧ (¬ (x3 = 0) → (x3 = 1 → gw_in (gw_w ((gw_w (8 * x1)) + x2)) 32) ∧ (¬ (x3 = 1) → gw_in x2 8)) ∧ QR (some (gI (if x3 = 0 then m8 119 (gw_w ((gw_w (8 * x1)) + x2)) else (if x3 = 1 then m8 120 (gw_w ((gw_w (8 * x1)) + x2)) else m8 121 x2)))) m8)))))))))) : gw_G M_X12_told d QR Γ 0 [some (gR 117), some (gI x1), some (gI x2), some (gI x3)] [] m := by
  refine gw_iload_n 1 d_X12_told_0 rfl rfl ?_
  refine gw_i2lR 2 d_X12_told_1 rfl  ?_
  refine gw_lconst 3 d_X12_told_2 rfl (n := 0) rfl (by decide) ?_
  refine gw_ldc2 6 d_X12_told_3 rfl ct_12_106 (n := 3) (gw_rb_inL (gw_rb_in rfl)) (by decide) ?_
  refine gw_cSI (a := [gL x1, gL 0, gL 3]) (rest := []) 9 d_X12_told_6 rfl ml_12_98 v_X12_in rfl rfl rfl h (fun v1 m2 h3 => ?_)
  refine gw_if_eq 50 12 d_X12_told_9 rfl rfl (fun c10 => ?_) (fun c10 => ?_)
  · skip
    refine gw_iconst 51 d_X12_told_50 rfl rfl ?_
    exact gw_ireturn d_X12_told_51 (Or.inl rfl) (h3.1 c10)
  · skip
    refine gw_iload_n 13 d_X12_told_12 rfl rfl ?_
    refine gw_i2lR 14 d_X12_told_13 rfl  ?_
    refine gw_lconst 15 d_X12_told_14 rfl (n := 0) rfl (by decide) ?_
    refine gw_aload_n 16 d_X12_told_15 rfl rfl ?_
    refine gw_getR 19 d_X12_told_16 rfl F_12_7 sh_117 rfl ?_
    refine gw_iload_n 20 d_X12_told_19 rfl rfl ?_
    refine gw_iaload 21 d_X12_told_20 rfl sh_118 (h3.2 c10).1 ?_
    refine gw_iconst 22 d_X12_told_21 rfl rfl ?_
    refine gw_isub 23 d_X12_told_22 rfl  ?_
    refine gw_i2lR 24 d_X12_told_23 rfl  ?_
    refine gw_cSI (a := [gL x2, gL 0, gL (gw_w ((m2 118 x1) - 1))]) (rest := []) 27 d_X12_told_24 rfl ml_12_98 v_X12_in rfl rfl rfl (h3.2 c10).2 (fun v4 m5 h6 => ?_)
    refine gw_if_eq 50 30 d_X12_told_27 rfl rfl (fun c11 => ?_) (fun c11 => ?_)
    · skip
      refine gw_iconst 51 d_X12_told_50 rfl rfl ?_
      exact gw_ireturn d_X12_told_51 (Or.inl rfl) (h6.1 c11)
    · skip
      refine gw_iload_n 31 d_X12_told_30 rfl rfl ?_
      refine gw_i2lR 32 d_X12_told_31 rfl  ?_
      refine gw_lconst 33 d_X12_told_32 rfl (n := 0) rfl (by decide) ?_
      refine gw_iload_n 34 d_X12_told_33 rfl rfl ?_
      have j12 : gw_G M_X12_told d QR Γ 44 [some (gR 117), some (gI x1), some (gI x2), some (gI x3)] [gL (if x1 = 0 then (2 : Int) else (1 : Int)), gL 0, gL x3] m5 := by
        refine gw_cSI (a := [gL x3, gL 0, gL (if x1 = 0 then (2 : Int) else (1 : Int))]) (rest := []) 47 d_X12_told_44 rfl ml_12_98 v_X12_in rfl rfl rfl (h6.2 c11) (fun v7 m8 h9 => ?_)
        refine gw_if_ne 52 50 d_X12_told_47 rfl rfl (fun c14 => ?_) (fun c14 => ?_)
        · skip
          refine gw_iconst 51 d_X12_told_50 rfl rfl ?_
          exact gw_ireturn d_X12_told_51 (Or.inl rfl) (h9.1 c14)
        · skip
          refine gw_iload_n 53 d_X12_told_52 rfl rfl ?_
          have j15 : gw_G M_X12_told d QR Γ 95 [some (gR 117), some (gI x1), some (gI x2), some (gI x3)] [gI (if x3 = 0 then m8 119 (gw_w ((gw_w (8 * x1)) + x2)) else (if x3 = 1 then m8 120 (gw_w ((gw_w (8 * x1)) + x2)) else m8 121 x2))] m8 := by
            exact gw_ireturn d_X12_told_95 (Or.inl rfl) (h9.2 c14).2.2
          refine gw_if_ne 70 56 d_X12_told_53 rfl rfl (fun c16 => ?_) (fun c16 => ?_)
          · skip
            refine gw_aload_n 57 d_X12_told_56 rfl rfl ?_
            refine gw_getR 60 d_X12_told_57 rfl F_12_13 sh_117 rfl ?_
            refine gw_bipush 62 d_X12_told_60 rfl rfl (by decide) ?_
            refine gw_iload_n 63 d_X12_told_62 rfl rfl ?_
            refine gw_imul 64 d_X12_told_63 rfl  ?_
            refine gw_iload_n 65 d_X12_told_64 rfl rfl ?_
            refine gw_iadd 66 d_X12_told_65 rfl  ?_
            refine gw_iaload 67 d_X12_told_66 rfl sh_119 ((h9.2 c14).1 c16) ?_
            refine gw_goto 95 d_X12_told_67 rfl ?_
            simpa only [if_pos c16] using j15
          · skip
            refine gw_iload_n 71 d_X12_told_70 rfl rfl ?_
            refine gw_iconst 72 d_X12_told_71 rfl rfl ?_
            refine gw_icmp_ne 89 75 d_X12_told_72 rfl rfl (fun c17 => ?_) (fun c17 => ?_)
            · skip
              refine gw_aload_n 76 d_X12_told_75 rfl rfl ?_
              refine gw_getR 79 d_X12_told_76 rfl F_12_16 sh_117 rfl ?_
              refine gw_bipush 81 d_X12_told_79 rfl rfl (by decide) ?_
              refine gw_iload_n 82 d_X12_told_81 rfl rfl ?_
              refine gw_imul 83 d_X12_told_82 rfl  ?_
              refine gw_iload_n 84 d_X12_told_83 rfl rfl ?_
              refine gw_iadd 85 d_X12_told_84 rfl  ?_
              refine gw_iaload 86 d_X12_told_85 rfl sh_120 (((h9.2 c14).2.1 c16).1 c17) ?_
              refine gw_goto 95 d_X12_told_86 rfl ?_
              simpa only [if_neg c16, if_pos c17] using j15
            · skip
              refine gw_aload_n 90 d_X12_told_89 rfl rfl ?_
              refine gw_getR 93 d_X12_told_90 rfl F_12_19 sh_117 rfl ?_
              refine gw_iload_n 94 d_X12_told_93 rfl rfl ?_
              refine gw_iaload 95 d_X12_told_94 rfl sh_121 (((h9.2 c14).2.1 c16).2 c17) ?_
              simpa only [if_neg c16, if_neg c17] using j15
      refine gw_if_ne 43 37 d_X12_told_34 rfl rfl (fun c13 => ?_) (fun c13 => ?_)
      · skip
        refine gw_ldc2 40 d_X12_told_37 rfl ct_12_92 (n := 2) (gw_rb_inL (gw_rb_in rfl)) (by decide) ?_
        refine gw_goto 44 d_X12_told_40 rfl ?_
        simpa only [if_pos c13] using j12
      · skip
        refine gw_lconst 44 d_X12_told_43 rfl (n := 1) rfl (by decide) ?_
        simpa only [if_neg c13] using j12
set_option maxRecDepth 100000 in
set_option maxHeartbeats 4000000 in
theorem r_X12_value_0 {d : Nat} {QR : Option gw_SV → gw_Mem → Prop} {Γ : gw_Ga} (x1 : Int) (x2 : Int) (m : gw_Mem) (h : gw_CI d M_X12_in [gL x1, gL 0, gL (gw_w ((m 118 0) - 1))] m (fun v1 m2 => ((v1 = 0 → QR (some (gI (-1))) m2) ∧ (¬ (v1 = 0) → gw_CI d M_X12_in [gL x2, gL 0, gL 99] m2 (fun v4 m5 => ((v4 = 0 → QR (some (gI (-1))) m5) ∧ (¬ (v4 = 0) → gw_in x1 8 ∧ gw_in x1 8 ∧ QR (some (gI (m5 121 x1))) (gw_up m5 121 x1 x2)))))))) : gw_G M_X12_value d QR Γ 0 [some (gR 117), some (gI x1), some (gI x2), none] [] m := by
  refine gw_iload_n 1 d_X12_value_0 rfl rfl ?_
  refine gw_i2lR 2 d_X12_value_1 rfl  ?_
  refine gw_lconst 3 d_X12_value_2 rfl (n := 0) rfl (by decide) ?_
  refine gw_aload_n 4 d_X12_value_3 rfl rfl ?_
  refine gw_getR 7 d_X12_value_4 rfl F_12_7 sh_117 rfl ?_
  refine gw_iconst 8 d_X12_value_7 rfl rfl ?_
  refine gw_iaload 9 d_X12_value_8 rfl sh_118 (gw_inN (k := 0) rfl) ?_
  refine gw_iconst 10 d_X12_value_9 rfl rfl ?_
  refine gw_isub 11 d_X12_value_10 rfl  ?_
  refine gw_i2lR 12 d_X12_value_11 rfl  ?_
  refine gw_cSI (a := [gL x1, gL 0, gL (gw_w ((m 118 0) - 1))]) (rest := []) 15 d_X12_value_12 rfl ml_12_98 v_X12_in rfl rfl rfl h (fun v1 m2 h3 => ?_)
  refine gw_if_eq 30 18 d_X12_value_15 rfl rfl (fun c7 => ?_) (fun c7 => ?_)
  · skip
    refine gw_iconst 31 d_X12_value_30 rfl rfl ?_
    exact gw_ireturn d_X12_value_31 (Or.inl rfl) (h3.1 c7)
  · skip
    refine gw_iload_n 19 d_X12_value_18 rfl rfl ?_
    refine gw_i2lR 20 d_X12_value_19 rfl  ?_
    refine gw_lconst 21 d_X12_value_20 rfl (n := 0) rfl (by decide) ?_
    refine gw_ldc2 24 d_X12_value_21 rfl ct_12_104 (n := 99) (gw_rb_inL (gw_rb_in rfl)) (by decide) ?_
    refine gw_cSI (a := [gL x2, gL 0, gL 99]) (rest := []) 27 d_X12_value_24 rfl ml_12_98 v_X12_in rfl rfl rfl (h3.2 c7) (fun v4 m5 h6 => ?_)
    refine gw_if_ne 32 30 d_X12_value_27 rfl rfl (fun c8 => ?_) (fun c8 => ?_)
    · skip
      refine gw_iconst 31 d_X12_value_30 rfl rfl ?_
      exact gw_ireturn d_X12_value_31 (Or.inl rfl) (h6.1 c8)
    · skip
      refine gw_aload_n 33 d_X12_value_32 rfl rfl ?_
      refine gw_getR 36 d_X12_value_33 rfl F_12_19 sh_117 rfl ?_
      refine gw_iload_n 37 d_X12_value_36 rfl rfl ?_
      refine gw_iaload 38 d_X12_value_37 rfl sh_121 (h6.2 c8).1 ?_
      refine gw_istore_n (ls' := [some (gR 117), some (gI x1), some (gI x2), some (gI (m5 121 x1))]) 39 d_X12_value_38 rfl rfl rfl rfl ?_
      refine gw_aload_n 40 d_X12_value_39 rfl rfl ?_
      refine gw_getR 43 d_X12_value_40 rfl F_12_19 sh_117 rfl ?_
      refine gw_iload_n 44 d_X12_value_43 rfl rfl ?_
      refine gw_iload_n 45 d_X12_value_44 rfl rfl ?_
      refine gw_iastore 46 d_X12_value_45 rfl sh_121 (h6.2 c8).2.1 ?_
      refine gw_iload_n 47 d_X12_value_46 rfl rfl ?_
      exact gw_ireturn d_X12_value_47 (Or.inl rfl) (h6.2 c8).2.2
set_option maxRecDepth 100000 in
set_option maxHeartbeats 4000000 in
theorem r_X12_tail_0 {d : Nat} {QR : Option gw_SV → gw_Mem → Prop} {Γ : gw_Ga} (m : gw_Mem) (h : gw_G M_X12_tail d QR Γ 5 [some (gR 117), some (gI (-4)), some (gI 0)] [] m) : gw_G M_X12_tail d QR Γ 0 [some (gR 117), none, none] [] m := by
  refine gw_bipush 2 d_X12_tail_0 rfl rfl (by decide) ?_
  refine gw_istore_n (ls' := [some (gR 117), some (gI (-4)), none]) 3 d_X12_tail_2 rfl rfl rfl rfl ?_
  refine gw_iconst 4 d_X12_tail_3 rfl rfl ?_
  refine gw_istore_n (ls' := [some (gR 117), some (gI (-4)), some (gI 0)]) 5 d_X12_tail_4 rfl rfl rfl rfl ?_
  exact h
set_option maxRecDepth 100000 in
set_option maxHeartbeats 4000000 in
theorem r_X12_tail_5 {d : Nat} {QR : Option gw_SV → gw_Mem → Prop} {Γ : gw_Ga} (x1 : Int) (x2 : Int) (m : gw_Mem) (h : ((m 117 6 ≤ x2 → QR (some (gI x1)) m) ∧ (¬ (m 117 6 ≤ x2) → gw_in x2 10 ∧ gw_G M_X12_tail d QR Γ 5 [some (gR 117), some (gI (if m 123 x2 = 3 then x2 else x1)), some (gI (gw_w (x2 + 1)))] [] m))) : gw_G M_X12_tail d QR Γ 5 [some (gR 117), some (gI x1), some (gI x2)] [] m := by
  refine gw_iload_n 6 d_X12_tail_5 rfl rfl ?_
  refine gw_aload_n 7 d_X12_tail_6 rfl rfl ?_
  refine gw_getI 10 d_X12_tail_7 rfl F_12_120 sh_117 rfl (kz := 6) rfl ?_
  refine gw_icmp_ge 35 13 d_X12_tail_10 rfl rfl (fun c1 => ?_) (fun c1 => ?_)
  · skip
    refine gw_iload_n 36 d_X12_tail_35 rfl rfl ?_
    exact gw_ireturn d_X12_tail_36 (Or.inl rfl) (h.1 c1)
  · skip
    refine gw_aload_n 14 d_X12_tail_13 rfl rfl ?_
    refine gw_getR 17 d_X12_tail_14 rfl F_12_25 sh_117 rfl ?_
    refine gw_iload_n 18 d_X12_tail_17 rfl rfl ?_
    refine gw_iaload 19 d_X12_tail_18 rfl sh_123 (h.2 c1).1 ?_
    refine gw_iconst 20 d_X12_tail_19 rfl rfl ?_
    have j2 : gw_G M_X12_tail d QR Γ 28 [some (gR 117), some (gI x1), some (gI x2)] [gI (if m 123 x2 = 3 then x2 else x1)] m := by
      refine gw_istore_n (ls' := [some (gR 117), some (gI (if m 123 x2 = 3 then x2 else x1)), some (gI x2)]) 29 d_X12_tail_28 rfl rfl rfl rfl ?_
      refine gw_iinc (ls' := [some (gR 117), some (gI (if m 123 x2 = 3 then x2 else x1)), some (gI (gw_w (x2 + 1)))]) 32 d_X12_tail_29 rfl rfl rfl rfl rfl ?_
      refine gw_goto 5 d_X12_tail_32 rfl ?_
      exact (h.2 c1).2
    refine gw_icmp_ne 27 23 d_X12_tail_20 rfl rfl (fun c3 => ?_) (fun c3 => ?_)
    · skip
      refine gw_iload_n 24 d_X12_tail_23 rfl rfl ?_
      refine gw_goto 28 d_X12_tail_24 rfl ?_
      simpa only [if_pos c3] using j2
    · skip
      refine gw_iload_n 28 d_X12_tail_27 rfl rfl ?_
      simpa only [if_neg c3] using j2
set_option maxRecDepth 100000 in
set_option maxHeartbeats 4000000 in
theorem r_X12_joins_0 {d : Nat} {QR : Option gw_SV → gw_Mem → Prop} {Γ : gw_Ga} (x1 : Int) (x2 : Int) (x3 : Int) (m : gw_Mem) (h : gw_in (m 117 6) 10 ∧ gw_in ((gw_up m 123 (m 117 6) x1) 117 6) 10 ∧ gw_in ((gw_up (gw_up m 123 (m 117 6) x1) 124 ((gw_up m 123 (m 117 6) x1) 117 6) x2) 117 6) 10 ∧ QR (some (gI (gw_w (((gw_up (gw_up (gw_up (gw_up m 123 (m 117 6) x1) 124 ((gw_up m 123 (m 117 6) x1) 117 6) x2) 125 ((gw_up (gw_up m 123 (m 117 6) x1) 124 ((gw_up m 123 (m 117 6) x1) 117 6) x2) 117 6) x3) 117 6 (gw_w (((gw_up (gw_up (gw_up m 123 (m 117 6) x1) 124 ((gw_up m 123 (m 117 6) x1) 117 6) x2) 125 ((gw_up (gw_up m 123 (m 117 6) x1) 124 ((gw_up m 123 (m 117 6) x1) 117 6) x2) 117 6) x3) 117 6) + 1))) 117 6) - 1)))) (gw_up (gw_up (gw_up (gw_up m 123 (m 117 6) x1) 124 ((gw_up m 123 (m 117 6) x1) 117 6) x2) 125 ((gw_up (gw_up m 123 (m 117 6) x1) 124 ((gw_up m 123 (m 117 6) x1) 117 6) x2) 117 6) x3) 117 6 (gw_w (((gw_up (gw_up (gw_up m 123 (m 117 6) x1) 124 ((gw_up m 123 (m 117 6) x1) 117 6) x2) 125 ((gw_up (gw_up m 123 (m 117 6) x1) 124 ((gw_up m 123 (m 117 6) x1) 117 6) x2) 117 6) x3) 117 6) + 1)))) : gw_G M_X12_joins d QR Γ 0 [some (gR 117), some (gI x1), some (gI x2), some (gI x3)] [] m := by
  refine gw_aload_n 1 d_X12_joins_0 rfl rfl ?_
  refine gw_getR 4 d_X12_joins_1 rfl F_12_25 sh_117 rfl ?_
  refine gw_aload_n 5 d_X12_joins_4 rfl rfl ?_
  refine gw_getI 8 d_X12_joins_5 rfl F_12_120 sh_117 rfl (kz := 6) rfl ?_
  refine gw_iload_n 9 d_X12_joins_8 rfl rfl ?_
  refine gw_iastore 10 d_X12_joins_9 rfl sh_123 h.1 ?_
  refine gw_aload_n 11 d_X12_joins_10 rfl rfl ?_
  refine gw_getR 14 d_X12_joins_11 rfl F_12_28 sh_117 rfl ?_
  refine gw_aload_n 15 d_X12_joins_14 rfl rfl ?_
  refine gw_getI 18 d_X12_joins_15 rfl F_12_120 sh_117 rfl (kz := 6) rfl ?_
  refine gw_iload_n 19 d_X12_joins_18 rfl rfl ?_
  refine gw_iastore 20 d_X12_joins_19 rfl sh_124 h.2.1 ?_
  refine gw_aload_n 21 d_X12_joins_20 rfl rfl ?_
  refine gw_getR 24 d_X12_joins_21 rfl F_12_31 sh_117 rfl ?_
  refine gw_aload_n 25 d_X12_joins_24 rfl rfl ?_
  refine gw_getI 28 d_X12_joins_25 rfl F_12_120 sh_117 rfl (kz := 6) rfl ?_
  refine gw_iload_n 29 d_X12_joins_28 rfl rfl ?_
  refine gw_iastore 30 d_X12_joins_29 rfl sh_125 h.2.2.1 ?_
  refine gw_aload_n 31 d_X12_joins_30 rfl rfl ?_
  refine gw_dup 32 d_X12_joins_31 rfl rfl ?_
  refine gw_getI 35 d_X12_joins_32 rfl F_12_120 sh_117 rfl (kz := 6) rfl ?_
  refine gw_iconst 36 d_X12_joins_35 rfl rfl ?_
  refine gw_iadd 37 d_X12_joins_36 rfl  ?_
  refine gw_putI 40 d_X12_joins_37 rfl P_12_120 (Or.inl rfl) sh_117 rfl (kz := 6) rfl ?_
  refine gw_aload_n 41 d_X12_joins_40 rfl rfl ?_
  refine gw_getI 44 d_X12_joins_41 rfl F_12_120 sh_117 rfl (kz := 6) rfl ?_
  refine gw_iconst 45 d_X12_joins_44 rfl rfl ?_
  refine gw_isub 46 d_X12_joins_45 rfl  ?_
  exact gw_ireturn d_X12_joins_46 (Or.inl rfl) h.2.2.2
set_option maxRecDepth 100000 in
set_option maxHeartbeats 4000000 in
theorem r_X12_person_0 {d : Nat} {QR : Option gw_SV → gw_Mem → Prop} {Γ : gw_Ga} (x1 : Int) (x2 : Int) (x3 : Int) (m : gw_Mem) (h : gw_CI d M_X12_in [gL x1, gL 0, gL 3] m (fun v1 m2 => ((v1 = 0 → QR (some (gI (-1))) m2) ∧ (¬ (v1 = 0) → gw_CI d M_X12_in [gL x2, gL 1, gL 4] m2 (fun v4 m5 => ((v4 = 0 → QR (some (gI (-1))) m5) ∧ (¬ (v4 = 0) → ((x1 = 3 → gw_CI d M_X12_tail [gR 117] m5 (fun v7 m8 => ((v7 < 0 → gw_G M_X12_person d QR Γ 41 [some (gR 117), some (gI x1), some (gI x2), some (gI x3)] [] m8) ∧ (¬ (v7 < 0) → QR (some (gI (-2))) m8)))) ∧ (¬ (x1 = 3) → gw_G M_X12_person d QR Γ 41 [some (gR 117), some (gI x1), some (gI x2), some (gI x3)] [] m5))))))))) : gw_G M_X12_person d QR Γ 0 [some (gR 117), some (gI x1), some (gI x2), some (gI x3)] [] m := by
  refine gw_iload_n 1 d_X12_person_0 rfl rfl ?_
  refine gw_i2lR 2 d_X12_person_1 rfl  ?_
  refine gw_lconst 3 d_X12_person_2 rfl (n := 0) rfl (by decide) ?_
  refine gw_ldc2 6 d_X12_person_3 rfl ct_12_106 (n := 3) (gw_rb_inL (gw_rb_in rfl)) (by decide) ?_
  refine gw_cSI (a := [gL x1, gL 0, gL 3]) (rest := []) 9 d_X12_person_6 rfl ml_12_98 v_X12_in rfl rfl rfl h (fun v1 m2 h3 => ?_)
  refine gw_if_eq 24 12 d_X12_person_9 rfl rfl (fun c13 => ?_) (fun c13 => ?_)
  · skip
    refine gw_iconst 25 d_X12_person_24 rfl rfl ?_
    exact gw_ireturn d_X12_person_25 (Or.inl rfl) (h3.1 c13)
  · skip
    refine gw_iload_n 13 d_X12_person_12 rfl rfl ?_
    refine gw_i2lR 14 d_X12_person_13 rfl  ?_
    refine gw_lconst 15 d_X12_person_14 rfl (n := 1) rfl (by decide) ?_
    refine gw_ldc2 18 d_X12_person_15 rfl ct_12_123 (n := 4) (gw_rb_inL (gw_rb_in rfl)) (by decide) ?_
    refine gw_cSI (a := [gL x2, gL 1, gL 4]) (rest := []) 21 d_X12_person_18 rfl ml_12_98 v_X12_in rfl rfl rfl (h3.2 c13) (fun v4 m5 h6 => ?_)
    refine gw_if_ne 26 24 d_X12_person_21 rfl rfl (fun c14 => ?_) (fun c14 => ?_)
    · skip
      refine gw_iconst 25 d_X12_person_24 rfl rfl ?_
      exact gw_ireturn d_X12_person_25 (Or.inl rfl) (h6.1 c14)
    · skip
      refine gw_iload_n 27 d_X12_person_26 rfl rfl ?_
      refine gw_iconst 28 d_X12_person_27 rfl rfl ?_
      refine gw_icmp_ne 41 31 d_X12_person_28 rfl rfl (fun c15 => ?_) (fun c15 => ?_)
      · skip
        refine gw_aload_n 32 d_X12_person_31 rfl rfl ?_
        refine gw_cVI (a := []) (rest := []) 35 d_X12_person_32 rfl ml_12_125 v_X12_tail rfl sh_117 rfl rfl rfl ((h6.2 c14).1 c15) (fun v7 m8 h9 => ?_)
        refine gw_if_lt 41 38 d_X12_person_35 rfl rfl (fun c16 => ?_) (fun c16 => ?_)
        · skip
          exact (h9.1 c16)
        · skip
          refine gw_bipush 40 d_X12_person_38 rfl rfl (by decide) ?_
          exact gw_ireturn d_X12_person_40 (Or.inl rfl) (h9.2 c16)
      · skip
        exact ((h6.2 c14).2 c15)
set_option maxRecDepth 100000 in
set_option maxHeartbeats 4000000 in
theorem r_X12_person_41 {d : Nat} {QR : Option gw_SV → gw_Mem → Prop} {Γ : gw_Ga} (x1 : Int) (x2 : Int) (x3 : Int) (m : gw_Mem) (h : ((m 117 6 = 10 → QR (some (gI (-3))) m) ∧ (¬ (m 117 6 = 10) → gw_CI d M_X12_joins [gR 117, gI x1, gI x2, gI (if x3 = 0 then (0 : Int) else (1 : Int))] m (fun v10 m11 => QR (some (gI v10)) m11)))) : gw_G M_X12_person d QR Γ 41 [some (gR 117), some (gI x1), some (gI x2), some (gI x3)] [] m := by
  refine gw_aload_n 42 d_X12_person_41 rfl rfl ?_
  refine gw_getI 45 d_X12_person_42 rfl F_12_120 sh_117 rfl (kz := 6) rfl ?_
  refine gw_bipush 47 d_X12_person_45 rfl rfl (by decide) ?_
  refine gw_icmp_ne 55 50 d_X12_person_47 rfl rfl (fun c17 => ?_) (fun c17 => ?_)
  · skip
    refine gw_bipush 52 d_X12_person_50 rfl rfl (by decide) ?_
    refine gw_goto 70 d_X12_person_52 rfl ?_
    exact gw_ireturn d_X12_person_70 (Or.inl rfl) (h.1 c17)
  · skip
    refine gw_aload_n 56 d_X12_person_55 rfl rfl ?_
    refine gw_iload_n 57 d_X12_person_56 rfl rfl ?_
    refine gw_iload_n 58 d_X12_person_57 rfl rfl ?_
    refine gw_iload_n 59 d_X12_person_58 rfl rfl ?_
    have j18 : gw_G M_X12_person d QR Γ 67 [some (gR 117), some (gI x1), some (gI x2), some (gI x3)] [gI (if x3 = 0 then (0 : Int) else (1 : Int)), gI x2, gI x1, gR 117] m := by
      refine gw_cVI (a := [gI x1, gI x2, gI (if x3 = 0 then (0 : Int) else (1 : Int))]) (rest := []) 70 d_X12_person_67 rfl ml_12_129 v_X12_joins rfl sh_117 rfl rfl rfl (h.2 c17) (fun v10 m11 h12 => ?_)
      exact gw_ireturn d_X12_person_70 (Or.inl rfl) h12
    refine gw_if_eq 66 62 d_X12_person_59 rfl rfl (fun c19 => ?_) (fun c19 => ?_)
    · skip
      refine gw_iconst 67 d_X12_person_66 rfl rfl ?_
      simpa only [if_pos c19] using j18
    · skip
      refine gw_iconst 63 d_X12_person_62 rfl rfl ?_
      refine gw_goto 67 d_X12_person_63 rfl ?_
      simpa only [if_neg c19] using j18
set_option maxRecDepth 100000 in
set_option maxHeartbeats 4000000 in
theorem r_X12_isOne_0 {d : Nat} {QR : Option gw_SV → gw_Mem → Prop} {Γ : gw_Ga} (x1 : Int) (m : gw_Mem) (h : gw_CI d M_X12_in [gL x1, gL 0, gL (gw_w ((m 117 6) - 1))] m (fun v1 m2 => gw_b v1 ∧ QR (some (gI v1)) m2)) : gw_G M_X12_isOne d QR Γ 0 [some (gR 117), some (gI x1)] [] m := by
  refine gw_iload_n 1 d_X12_isOne_0 rfl rfl ?_
  refine gw_i2lR 2 d_X12_isOne_1 rfl  ?_
  refine gw_lconst 3 d_X12_isOne_2 rfl (n := 0) rfl (by decide) ?_
  refine gw_aload_n 4 d_X12_isOne_3 rfl rfl ?_
  refine gw_getI 7 d_X12_isOne_4 rfl F_12_120 sh_117 rfl (kz := 6) rfl ?_
  refine gw_iconst 8 d_X12_isOne_7 rfl rfl ?_
  refine gw_isub 9 d_X12_isOne_8 rfl  ?_
  refine gw_i2lR 10 d_X12_isOne_9 rfl  ?_
  refine gw_cSI (a := [gL x1, gL 0, gL (gw_w ((m 117 6) - 1))]) (rest := []) 13 d_X12_isOne_10 rfl ml_12_98 v_X12_in rfl rfl rfl h (fun v1 m2 h3 => ?_)
  exact gw_ireturn d_X12_isOne_13 (Or.inr ⟨rfl, h3.1⟩) h3.2
set_option maxRecDepth 100000 in
set_option maxHeartbeats 4000000 in
theorem r_X12_of_0 {d : Nat} {QR : Option gw_SV → gw_Mem → Prop} {Γ : gw_Ga} (x1 : Int) (x2 : Int) (m : gw_Mem) (h : gw_CI d M_X12_isOne [gR 117, gI x1] m (fun v1 m2 => ((v1 = 0 → QR (some (gI (-1))) m2) ∧ (¬ (v1 = 0) → gw_CI d M_X12_in [gL x2, gL 0, gL 2] m2 (fun v4 m5 => ((v4 = 0 → QR (some (gI (-1))) m5) ∧ (¬ (v4 = 0) → (x2 = 0 → gw_in x1 10) ∧ (¬ (x2 = 0) → (x2 = 1 → gw_in x1 10) ∧ (¬ (x2 = 1) → gw_in x1 10)) ∧ QR (some (gI (if x2 = 0 then m5 123 x1 else (if x2 = 1 then m5 124 x1 else m5 125 x1)))) m5))))))) : gw_G M_X12_of d QR Γ 0 [some (gR 117), some (gI x1), some (gI x2)] [] m := by
  refine gw_aload_n 1 d_X12_of_0 rfl rfl ?_
  refine gw_iload_n 2 d_X12_of_1 rfl rfl ?_
  refine gw_cVI (a := [gI x1]) (rest := []) 5 d_X12_of_2 rfl ml_12_132 v_X12_isOne rfl sh_117 rfl rfl rfl h (fun v1 m2 h3 => ?_)
  refine gw_if_eq 20 8 d_X12_of_5 rfl rfl (fun c7 => ?_) (fun c7 => ?_)
  · skip
    refine gw_iconst 21 d_X12_of_20 rfl rfl ?_
    exact gw_ireturn d_X12_of_21 (Or.inl rfl) (h3.1 c7)
  · skip
    refine gw_iload_n 9 d_X12_of_8 rfl rfl ?_
    refine gw_i2lR 10 d_X12_of_9 rfl  ?_
    refine gw_lconst 11 d_X12_of_10 rfl (n := 0) rfl (by decide) ?_
    refine gw_ldc2 14 d_X12_of_11 rfl ct_12_92 (n := 2) (gw_rb_inL (gw_rb_in rfl)) (by decide) ?_
    refine gw_cSI (a := [gL x2, gL 0, gL 2]) (rest := []) 17 d_X12_of_14 rfl ml_12_98 v_X12_in rfl rfl rfl (h3.2 c7) (fun v4 m5 h6 => ?_)
    refine gw_if_ne 22 20 d_X12_of_17 rfl rfl (fun c8 => ?_) (fun c8 => ?_)
    · skip
      refine gw_iconst 21 d_X12_of_20 rfl rfl ?_
      exact gw_ireturn d_X12_of_21 (Or.inl rfl) (h6.1 c8)
    · skip
      refine gw_iload_n 23 d_X12_of_22 rfl rfl ?_
      have j9 : gw_G M_X12_of d QR Γ 55 [some (gR 117), some (gI x1), some (gI x2)] [gI (if x2 = 0 then m5 123 x1 else (if x2 = 1 then m5 124 x1 else m5 125 x1))] m5 := by
        exact gw_ireturn d_X12_of_55 (Or.inl rfl) (h6.2 c8).2.2
      refine gw_if_ne 35 26 d_X12_of_23 rfl rfl (fun c10 => ?_) (fun c10 => ?_)
      · skip
        refine gw_aload_n 27 d_X12_of_26 rfl rfl ?_
        refine gw_getR 30 d_X12_of_27 rfl F_12_25 sh_117 rfl ?_
        refine gw_iload_n 31 d_X12_of_30 rfl rfl ?_
        refine gw_iaload 32 d_X12_of_31 rfl sh_123 ((h6.2 c8).1 c10) ?_
        refine gw_goto 55 d_X12_of_32 rfl ?_
        simpa only [if_pos c10] using j9
      · skip
        refine gw_iload_n 36 d_X12_of_35 rfl rfl ?_
        refine gw_iconst 37 d_X12_of_36 rfl rfl ?_
        refine gw_icmp_ne 49 40 d_X12_of_37 rfl rfl (fun c11 => ?_) (fun c11 => ?_)
        · skip
          refine gw_aload_n 41 d_X12_of_40 rfl rfl ?_
          refine gw_getR 44 d_X12_of_41 rfl F_12_28 sh_117 rfl ?_
          refine gw_iload_n 45 d_X12_of_44 rfl rfl ?_
          refine gw_iaload 46 d_X12_of_45 rfl sh_124 (((h6.2 c8).2.1 c10).1 c11) ?_
          refine gw_goto 55 d_X12_of_46 rfl ?_
          simpa only [if_neg c10, if_pos c11] using j9
        · skip
          refine gw_aload_n 50 d_X12_of_49 rfl rfl ?_
          refine gw_getR 53 d_X12_of_50 rfl F_12_31 sh_117 rfl ?_
          refine gw_iload_n 54 d_X12_of_53 rfl rfl ?_
          refine gw_iaload 55 d_X12_of_54 rfl sh_125 (((h6.2 c8).2.1 c10).2 c11) ?_
          simpa only [if_neg c10, if_neg c11] using j9
set_option maxRecDepth 100000 in
set_option maxHeartbeats 4000000 in
theorem r_X12_isRule_0 {d : Nat} {QR : Option gw_SV → gw_Mem → Prop} {Γ : gw_Ga} (x0 : Int) (x1 : Int) (m : gw_Mem) (h : ((x0 = 0 → gw_CI d M_X12_in [gL x1, gL 1, gL 4] m (fun v1 m2 => gw_b v1 ∧ QR (some (gI v1)) m2)) ∧ (x0 = 1 → gw_CI d M_X12_in [gL x1, gL 0, gL 10] m (fun v4 m5 => gw_b v4 ∧ QR (some (gI v4)) m5)) ∧ (x0 = 2 → gw_CI d M_X12_in [gL x1, gL 0, gL 9] m (fun v7 m8 => gw_b v7 ∧ QR (some (gI v7)) m8)) ∧ (x0 = 3 → gw_CI d M_X12_in [gL x1, gL 0, gL 30] m (fun v10 m11 => gw_b v10 ∧ QR (some (gI v10)) m11)) ∧ ((x0 < 0 ∨ 3 < x0) → ((x0 = 4 → gw_CI d M_X12_in [gL x1, gL 1, gL 20] m (fun v13 m14 => QR (some (gI (if v13 = 0 then (0 : Int) else (1 : Int)))) m14)) ∧ (¬ (x0 = 4) → QR (some (gI 0)) m))))) : gw_G M_X12_isRule d QR Γ 0 [some (gI x0), some (gI x1)] [] m := by
  refine gw_iload_n 1 d_X12_isRule_0 rfl rfl ?_
  refine (Decidable.em (x0 = 0)).elim (fun c16 => ?_) (fun c16 => ?_)
  · refine gw_tswIn (k := 0) 32 d_X12_isRule_1 (by omega) (by omega) rfl rfl ?_
    refine gw_iload_n 33 d_X12_isRule_32 rfl rfl ?_
    refine gw_i2lR 34 d_X12_isRule_33 rfl  ?_
    refine gw_lconst 35 d_X12_isRule_34 rfl (n := 1) rfl (by decide) ?_
    refine gw_ldc2 38 d_X12_isRule_35 rfl ct_12_123 (n := 4) (gw_rb_inL (gw_rb_in rfl)) (by decide) ?_
    refine gw_cSI (a := [gL x1, gL 1, gL 4]) (rest := []) 41 d_X12_isRule_38 rfl ml_12_98 v_X12_in rfl rfl rfl (h.1 c16) (fun v1 m2 h3 => ?_)
    exact gw_ireturn d_X12_isRule_41 (Or.inr ⟨rfl, h3.1⟩) h3.2
  refine (Decidable.em (x0 = 1)).elim (fun c17 => ?_) (fun c17 => ?_)
  · refine gw_tswIn (k := 1) 42 d_X12_isRule_1 (by omega) (by omega) rfl rfl ?_
    refine gw_iload_n 43 d_X12_isRule_42 rfl rfl ?_
    refine gw_i2lR 44 d_X12_isRule_43 rfl  ?_
    refine gw_lconst 45 d_X12_isRule_44 rfl (n := 0) rfl (by decide) ?_
    refine gw_ldc2 48 d_X12_isRule_45 rfl ct_12_102 (n := 10) (gw_rb_inL (gw_rb_in rfl)) (by decide) ?_
    refine gw_cSI (a := [gL x1, gL 0, gL 10]) (rest := []) 51 d_X12_isRule_48 rfl ml_12_98 v_X12_in rfl rfl rfl (h.2.1 c17) (fun v4 m5 h6 => ?_)
    exact gw_ireturn d_X12_isRule_51 (Or.inr ⟨rfl, h6.1⟩) h6.2
  refine (Decidable.em (x0 = 2)).elim (fun c18 => ?_) (fun c18 => ?_)
  · refine gw_tswIn (k := 2) 52 d_X12_isRule_1 (by omega) (by omega) rfl rfl ?_
    refine gw_iload_n 53 d_X12_isRule_52 rfl rfl ?_
    refine gw_i2lR 54 d_X12_isRule_53 rfl  ?_
    refine gw_lconst 55 d_X12_isRule_54 rfl (n := 0) rfl (by decide) ?_
    refine gw_ldc2 58 d_X12_isRule_55 rfl ct_12_136 (n := 9) (gw_rb_inL (gw_rb_in rfl)) (by decide) ?_
    refine gw_cSI (a := [gL x1, gL 0, gL 9]) (rest := []) 61 d_X12_isRule_58 rfl ml_12_98 v_X12_in rfl rfl rfl (h.2.2.1 c18) (fun v7 m8 h9 => ?_)
    exact gw_ireturn d_X12_isRule_61 (Or.inr ⟨rfl, h9.1⟩) h9.2
  refine (Decidable.em (x0 = 3)).elim (fun c19 => ?_) (fun c19 => ?_)
  · refine gw_tswIn (k := 3) 62 d_X12_isRule_1 (by omega) (by omega) rfl rfl ?_
    refine gw_iload_n 63 d_X12_isRule_62 rfl rfl ?_
    refine gw_i2lR 64 d_X12_isRule_63 rfl  ?_
    refine gw_lconst 65 d_X12_isRule_64 rfl (n := 0) rfl (by decide) ?_
    refine gw_ldc2 68 d_X12_isRule_65 rfl ct_12_138 (n := 30) (gw_rb_inL (gw_rb_in rfl)) (by decide) ?_
    refine gw_cSI (a := [gL x1, gL 0, gL 30]) (rest := []) 71 d_X12_isRule_68 rfl ml_12_98 v_X12_in rfl rfl rfl (h.2.2.2.1 c19) (fun v10 m11 h12 => ?_)
    exact gw_ireturn d_X12_isRule_71 (Or.inr ⟨rfl, h12.1⟩) h12.2
  have c20 : x0 < 0 ∨ 3 < x0 := by omega
  refine gw_tswOut 72 d_X12_isRule_1 c20 rfl ?_
  refine gw_iload_n 73 d_X12_isRule_72 rfl rfl ?_
  refine gw_iconst 74 d_X12_isRule_73 rfl rfl ?_
  refine gw_icmp_ne 93 77 d_X12_isRule_74 rfl rfl (fun c21 => ?_) (fun c21 => ?_)
  · skip
    refine gw_iload_n 78 d_X12_isRule_77 rfl rfl ?_
    refine gw_i2lR 79 d_X12_isRule_78 rfl  ?_
    refine gw_lconst 80 d_X12_isRule_79 rfl (n := 1) rfl (by decide) ?_
    refine gw_ldc2 83 d_X12_isRule_80 rfl ct_12_96 (n := 20) (gw_rb_inL (gw_rb_in rfl)) (by decide) ?_
    refine gw_cSI (a := [gL x1, gL 1, gL 20]) (rest := []) 86 d_X12_isRule_83 rfl ml_12_98 v_X12_in rfl rfl rfl ((h.2.2.2.2 c20).1 c21) (fun v13 m14 h15 => ?_)
    have j22 : gw_G M_X12_isRule d QR Γ 94 [some (gI x0), some (gI x1)] [gI (if v13 = 0 then (0 : Int) else (1 : Int))] m14 := by
      exact gw_ireturn d_X12_isRule_94 (Or.inr ⟨rfl, (gw_bi gw_b0 gw_b1)⟩) h15
    refine gw_if_eq 93 89 d_X12_isRule_86 rfl rfl (fun c23 => ?_) (fun c23 => ?_)
    · skip
      refine gw_iconst 94 d_X12_isRule_93 rfl rfl ?_
      simpa only [if_pos c23] using j22
    · skip
      refine gw_iconst 90 d_X12_isRule_89 rfl rfl ?_
      refine gw_goto 94 d_X12_isRule_90 rfl ?_
      simpa only [if_neg c23] using j22
  · skip
    refine gw_iconst 94 d_X12_isRule_93 rfl rfl ?_
    exact gw_ireturn d_X12_isRule_94 (Or.inr ⟨rfl, gw_b0⟩) ((h.2.2.2.2 c20).2 c21)
set_option maxRecDepth 100000 in
set_option maxHeartbeats 4000000 in
theorem r_X12_rule_0 {d : Nat} {QR : Option gw_SV → gw_Mem → Prop} {Γ : gw_Ga} (x1 : Int) (x2 : Int) (m : gw_Mem) (h : gw_CI d M_X12_isRule [gI x1, gI x2] m (fun v1 m2 => ((v1 = 0 → QR (some (gI (-1))) m2) ∧ (¬ (v1 = 0) → gw_in x1 5 ∧ gw_in x1 5 ∧ QR (some (gI (m2 122 x1))) (gw_up m2 122 x1 x2))))) : gw_G M_X12_rule d QR Γ 0 [some (gR 117), some (gI x1), some (gI x2), none] [] m := by
  refine gw_iload_n 1 d_X12_rule_0 rfl rfl ?_
  refine gw_iload_n 2 d_X12_rule_1 rfl rfl ?_
  refine gw_cSI (a := [gI x1, gI x2]) (rest := []) 5 d_X12_rule_2 rfl ml_12_140 v_X12_isRule rfl rfl rfl h (fun v1 m2 h3 => ?_)
  refine gw_if_ne 10 8 d_X12_rule_5 rfl rfl (fun c4 => ?_) (fun c4 => ?_)
  · skip
    refine gw_iconst 9 d_X12_rule_8 rfl rfl ?_
    exact gw_ireturn d_X12_rule_9 (Or.inl rfl) (h3.1 c4)
  · skip
    refine gw_aload_n 11 d_X12_rule_10 rfl rfl ?_
    refine gw_getR 14 d_X12_rule_11 rfl F_12_22 sh_117 rfl ?_
    refine gw_iload_n 15 d_X12_rule_14 rfl rfl ?_
    refine gw_iaload 16 d_X12_rule_15 rfl sh_122 (h3.2 c4).1 ?_
    refine gw_istore_n (ls' := [some (gR 117), some (gI x1), some (gI x2), some (gI (m2 122 x1))]) 17 d_X12_rule_16 rfl rfl rfl rfl ?_
    refine gw_aload_n 18 d_X12_rule_17 rfl rfl ?_
    refine gw_getR 21 d_X12_rule_18 rfl F_12_22 sh_117 rfl ?_
    refine gw_iload_n 22 d_X12_rule_21 rfl rfl ?_
    refine gw_iload_n 23 d_X12_rule_22 rfl rfl ?_
    refine gw_iastore 24 d_X12_rule_23 rfl sh_122 (h3.2 c4).2.1 ?_
    refine gw_iload_n 25 d_X12_rule_24 rfl rfl ?_
    exact gw_ireturn d_X12_rule_25 (Or.inl rfl) (h3.2 c4).2.2
set_option maxRecDepth 100000 in
set_option maxHeartbeats 4000000 in
theorem r_X12_type_0 {d : Nat} {QR : Option gw_SV → gw_Mem → Prop} {Γ : gw_Ga} (x1 : Int) (x3 : Int) (m : gw_Mem) (h : gw_CI d M_X12_in [gL x3, gL 1, gL 8] m (fun v1 m2 => ((v1 = 0 → QR (some (gI (-1))) m2) ∧ (¬ (v1 = 0) → gw_G M_X12_type d QR Γ 17 [some (gR 117), some (gL x1), none, some (gI x3), some (gI 0)] [] m2)))) : gw_G M_X12_type d QR Γ 0 [some (gR 117), some (gL x1), none, some (gI x3), none] [] m := by
  refine gw_iload_n 1 d_X12_type_0 rfl rfl ?_
  refine gw_i2lR 2 d_X12_type_1 rfl  ?_
  refine gw_lconst 3 d_X12_type_2 rfl (n := 1) rfl (by decide) ?_
  refine gw_ldc2 6 d_X12_type_3 rfl ct_12_143 (n := 8) (gw_rb_inL (gw_rb_in rfl)) (by decide) ?_
  refine gw_cSI (a := [gL x3, gL 1, gL 8]) (rest := []) 9 d_X12_type_6 rfl ml_12_98 v_X12_in rfl rfl rfl h (fun v1 m2 h3 => ?_)
  refine gw_if_ne 14 12 d_X12_type_9 rfl rfl (fun c7 => ?_) (fun c7 => ?_)
  · skip
    refine gw_iconst 13 d_X12_type_12 rfl rfl ?_
    exact gw_ireturn d_X12_type_13 (Or.inl rfl) (h3.1 c7)
  · skip
    refine gw_iconst 15 d_X12_type_14 rfl rfl ?_
    refine gw_istore (ls' := [some (gR 117), some (gL x1), none, some (gI x3), some (gI 0)]) 17 d_X12_type_15 rfl rfl rfl rfl ?_
    exact (h3.2 c7)
set_option maxRecDepth 100000 in
set_option maxHeartbeats 4000000 in
theorem r_X12_type_17 {d : Nat} {QR : Option gw_SV → gw_Mem → Prop} {Γ : gw_Ga} (x1 : Int) (y2 : Option gw_SV) (x3 : Int) (x4 : Int) (m : gw_Mem) (h : ((x3 ≤ x4 → ((gw_w ((m 117 12) + x3) ≤ 80 → gw_G M_X12_type d QR Γ 73 [some (gR 117), some (gL x1), y2, some (gI x3), some (gI (gw_w (x3 - 1)))] [] m) ∧ (¬ (gw_w ((m 117 12) + x3) ≤ 80) → QR (some (gI (-3))) m))) ∧ (¬ (x3 ≤ x4) → gw_CI d M_X12_in [gL (gw_andL (gw_shrL x1 (gw_w (8 * x4))) 255), gL 32, gL 126] m (fun v4 m5 => ((v4 = 0 → QR (some (gI (-1))) m5) ∧ (¬ (v4 = 0) → gw_G M_X12_type d QR Γ 17 [some (gR 117), some (gL x1), y2, some (gI x3), some (gI (gw_w (x4 + 1)))] [] m5)))))) : gw_G M_X12_type d QR Γ 17 [some (gR 117), some (gL x1), y2, some (gI x3), some (gI x4)] [] m := by
  refine gw_iload 19 d_X12_type_17 rfl rfl ?_
  refine gw_iload_n 20 d_X12_type_19 rfl rfl ?_
  refine gw_icmp_ge 54 23 d_X12_type_20 rfl rfl (fun c8 => ?_) (fun c8 => ?_)
  · skip
    refine gw_aload_n 55 d_X12_type_54 rfl rfl ?_
    refine gw_getI 58 d_X12_type_55 rfl F_12_151 sh_117 rfl (kz := 12) rfl ?_
    refine gw_iload_n 59 d_X12_type_58 rfl rfl ?_
    refine gw_iadd 60 d_X12_type_59 rfl  ?_
    refine gw_bipush 62 d_X12_type_60 rfl rfl (by decide) ?_
    refine gw_icmp_le 68 65 d_X12_type_62 rfl rfl (fun c9 => ?_) (fun c9 => ?_)
    · skip
      refine gw_iload_n 69 d_X12_type_68 rfl rfl ?_
      refine gw_iconst 70 d_X12_type_69 rfl rfl ?_
      refine gw_isub 71 d_X12_type_70 rfl  ?_
      refine gw_istore (ls' := [some (gR 117), some (gL x1), y2, some (gI x3), some (gI (gw_w (x3 - 1)))]) 73 d_X12_type_71 rfl rfl rfl rfl ?_
      exact ((h.1 c8).1 c9)
    · skip
      refine gw_bipush 67 d_X12_type_65 rfl rfl (by decide) ?_
      exact gw_ireturn d_X12_type_67 (Or.inl rfl) ((h.1 c8).2 c9)
  · skip
    refine gw_lload_n 24 d_X12_type_23 rfl rfl ?_
    refine gw_bipush 26 d_X12_type_24 rfl rfl (by decide) ?_
    refine gw_iload 28 d_X12_type_26 rfl rfl ?_
    refine gw_imul 29 d_X12_type_28 rfl  ?_
    refine gw_lshr 30 d_X12_type_29 rfl  ?_
    refine gw_ldc2 33 d_X12_type_30 rfl ct_12_145 (n := 255) (gw_rb_inL (gw_rb_in rfl)) (by decide) ?_
    refine gw_land 34 d_X12_type_33 rfl  ?_
    refine gw_ldc2 37 d_X12_type_34 rfl ct_12_147 (n := 32) (gw_rb_inL (gw_rb_in rfl)) (by decide) ?_
    refine gw_ldc2 40 d_X12_type_37 rfl ct_12_149 (n := 126) (gw_rb_inL (gw_rb_in rfl)) (by decide) ?_
    refine gw_cSI (a := [gL (gw_andL (gw_shrL x1 (gw_w (8 * x4))) 255), gL 32, gL 126]) (rest := []) 43 d_X12_type_40 rfl ml_12_98 v_X12_in rfl rfl rfl (h.2 c8) (fun v4 m5 h6 => ?_)
    refine gw_if_ne 48 46 d_X12_type_43 rfl rfl (fun c10 => ?_) (fun c10 => ?_)
    · skip
      refine gw_iconst 47 d_X12_type_46 rfl rfl ?_
      exact gw_ireturn d_X12_type_47 (Or.inl rfl) (h6.1 c10)
    · skip
      refine gw_iinc (ls' := [some (gR 117), some (gL x1), y2, some (gI x3), some (gI (gw_w (x4 + 1)))]) 51 d_X12_type_48 rfl rfl rfl rfl rfl ?_
      refine gw_goto 17 d_X12_type_51 rfl ?_
      exact (h6.2 c10)
set_option maxRecDepth 100000 in
set_option maxHeartbeats 4000000 in
theorem r_X12_type_73 {d : Nat} {QR : Option gw_SV → gw_Mem → Prop} {Γ : gw_Ga} (x1 : Int) (y2 : Option gw_SV) (x3 : Int) (x4 : Int) (m : gw_Mem) (h : ((x4 < 0 → QR (some (gI (m 117 12))) m) ∧ (¬ (x4 < 0) → gw_in (m 117 12) 80 ∧ gw_G M_X12_type d QR Γ 73 [some (gR 117), some (gL x1), y2, some (gI x3), some (gI (gw_w (x4 + (-1))))] [] (gw_up (gw_up m 127 (m 117 12) (gw_w (gw_andL (gw_shrL x1 (gw_w (8 * x4))) 255))) 117 12 (gw_w (((gw_up m 127 (m 117 12) (gw_w (gw_andL (gw_shrL x1 (gw_w (8 * x4))) 255))) 117 12) + 1)))))) : gw_G M_X12_type d QR Γ 73 [some (gR 117), some (gL x1), y2, some (gI x3), some (gI x4)] [] m := by
  refine gw_iload 75 d_X12_type_73 rfl rfl ?_
  refine gw_if_lt 115 78 d_X12_type_75 rfl rfl (fun c11 => ?_) (fun c11 => ?_)
  · skip
    refine gw_aload_n 116 d_X12_type_115 rfl rfl ?_
    refine gw_getI 119 d_X12_type_116 rfl F_12_151 sh_117 rfl (kz := 12) rfl ?_
    exact gw_ireturn d_X12_type_119 (Or.inl rfl) (h.1 c11)
  · skip
    refine gw_aload_n 79 d_X12_type_78 rfl rfl ?_
    refine gw_getR 82 d_X12_type_79 rfl F_12_37 sh_117 rfl ?_
    refine gw_aload_n 83 d_X12_type_82 rfl rfl ?_
    refine gw_getI 86 d_X12_type_83 rfl F_12_151 sh_117 rfl (kz := 12) rfl ?_
    refine gw_lload_n 87 d_X12_type_86 rfl rfl ?_
    refine gw_bipush 89 d_X12_type_87 rfl rfl (by decide) ?_
    refine gw_iload 91 d_X12_type_89 rfl rfl ?_
    refine gw_imul 92 d_X12_type_91 rfl  ?_
    refine gw_lshr 93 d_X12_type_92 rfl  ?_
    refine gw_ldc2 96 d_X12_type_93 rfl ct_12_145 (n := 255) (gw_rb_inL (gw_rb_in rfl)) (by decide) ?_
    refine gw_land 97 d_X12_type_96 rfl  ?_
    refine gw_l2iR 98 d_X12_type_97 rfl  ?_
    refine gw_iastore 99 d_X12_type_98 rfl sh_127 (h.2 c11).1 ?_
    refine gw_aload_n 100 d_X12_type_99 rfl rfl ?_
    refine gw_dup 101 d_X12_type_100 rfl rfl ?_
    refine gw_getI 104 d_X12_type_101 rfl F_12_151 sh_117 rfl (kz := 12) rfl ?_
    refine gw_iconst 105 d_X12_type_104 rfl rfl ?_
    refine gw_iadd 106 d_X12_type_105 rfl  ?_
    refine gw_putI 109 d_X12_type_106 rfl P_12_151 (Or.inl rfl) sh_117 rfl (kz := 12) rfl ?_
    refine gw_iinc (ls' := [some (gR 117), some (gL x1), y2, some (gI x3), some (gI (gw_w (x4 + (-1))))]) 112 d_X12_type_109 rfl rfl rfl rfl rfl ?_
    refine gw_goto 73 d_X12_type_112 rfl ?_
    exact (h.2 c11).2
set_option maxRecDepth 100000 in
set_option maxHeartbeats 4000000 in
theorem r_X12_here_0 {d : Nat} {QR : Option gw_SV → gw_Mem → Prop} {Γ : gw_Ga} (m : gw_Mem) (h : ((m 117 12 ≤ m 117 13 → gw_G M_X12_here d QR Γ 38 [some (gR 117)] [] m) ∧ (¬ (m 117 12 ≤ m 117 13) → gw_in (m 117 13) 80 ∧ ((m 127 (m 117 13) = 32 → gw_G M_X12_here d QR Γ 0 [some (gR 117)] [] (gw_up m 117 13 (gw_w ((m 117 13) + 1)))) ∧ (¬ (m 127 (m 117 13) = 32) → gw_G M_X12_here d QR Γ 38 [some (gR 117)] [] m))))) : gw_G M_X12_here d QR Γ 0 [some (gR 117)] [] m := by
  refine gw_aload_n 1 d_X12_here_0 rfl rfl ?_
  refine gw_getI 4 d_X12_here_1 rfl F_12_154 sh_117 rfl (kz := 13) rfl ?_
  refine gw_aload_n 5 d_X12_here_4 rfl rfl ?_
  refine gw_getI 8 d_X12_here_5 rfl F_12_151 sh_117 rfl (kz := 12) rfl ?_
  refine gw_icmp_ge 38 11 d_X12_here_8 rfl rfl (fun c1 => ?_) (fun c1 => ?_)
  · skip
    exact (h.1 c1)
  · skip
    refine gw_aload_n 12 d_X12_here_11 rfl rfl ?_
    refine gw_getR 15 d_X12_here_12 rfl F_12_37 sh_117 rfl ?_
    refine gw_aload_n 16 d_X12_here_15 rfl rfl ?_
    refine gw_getI 19 d_X12_here_16 rfl F_12_154 sh_117 rfl (kz := 13) rfl ?_
    refine gw_iaload 20 d_X12_here_19 rfl sh_127 (h.2 c1).1 ?_
    refine gw_bipush 22 d_X12_here_20 rfl rfl (by decide) ?_
    refine gw_icmp_ne 38 25 d_X12_here_22 rfl rfl (fun c2 => ?_) (fun c2 => ?_)
    · skip
      refine gw_aload_n 26 d_X12_here_25 rfl rfl ?_
      refine gw_dup 27 d_X12_here_26 rfl rfl ?_
      refine gw_getI 30 d_X12_here_27 rfl F_12_154 sh_117 rfl (kz := 13) rfl ?_
      refine gw_iconst 31 d_X12_here_30 rfl rfl ?_
      refine gw_iadd 32 d_X12_here_31 rfl  ?_
      refine gw_putI 35 d_X12_here_32 rfl P_12_154 (Or.inl rfl) sh_117 rfl (kz := 13) rfl ?_
      refine gw_goto 0 d_X12_here_35 rfl ?_
      exact ((h.2 c1).2.1 c2)
    · skip
      exact ((h.2 c1).2.2 c2)
set_option maxRecDepth 100000 in
set_option maxHeartbeats 4000000 in
theorem r_X12_here_38 {d : Nat} {QR : Option gw_SV → gw_Mem → Prop} {Γ : gw_Ga} (m : gw_Mem) (h : (¬ (m 117 12 ≤ m 117 13) → gw_in (m 117 13) 80) ∧ QR (some (gI (if m 117 12 ≤ m 117 13 then (0 : Int) else m 127 (m 117 13)))) m) : gw_G M_X12_here d QR Γ 38 [some (gR 117)] [] m := by
  refine gw_aload_n 39 d_X12_here_38 rfl rfl ?_
  refine gw_getI 42 d_X12_here_39 rfl F_12_154 sh_117 rfl (kz := 13) rfl ?_
  refine gw_aload_n 43 d_X12_here_42 rfl rfl ?_
  refine gw_getI 46 d_X12_here_43 rfl F_12_151 sh_117 rfl (kz := 12) rfl ?_
  have j3 : gw_G M_X12_here d QR Γ 62 [some (gR 117)] [gI (if m 117 12 ≤ m 117 13 then (0 : Int) else m 127 (m 117 13))] m := by
    exact gw_ireturn d_X12_here_62 (Or.inl rfl) h.2
  refine gw_icmp_ge 61 49 d_X12_here_46 rfl rfl (fun c4 => ?_) (fun c4 => ?_)
  · skip
    refine gw_iconst 62 d_X12_here_61 rfl rfl ?_
    simpa only [if_pos c4] using j3
  · skip
    refine gw_aload_n 50 d_X12_here_49 rfl rfl ?_
    refine gw_getR 53 d_X12_here_50 rfl F_12_37 sh_117 rfl ?_
    refine gw_aload_n 54 d_X12_here_53 rfl rfl ?_
    refine gw_getI 57 d_X12_here_54 rfl F_12_154 sh_117 rfl (kz := 13) rfl ?_
    refine gw_iaload 58 d_X12_here_57 rfl sh_127 (h.1 c4) ?_
    refine gw_goto 62 d_X12_here_58 rfl ?_
    simpa only [if_neg c4] using j3
set_option maxRecDepth 100000 in
set_option maxHeartbeats 4000000 in
theorem r_X12_has_0 {d : Nat} {QR : Option gw_SV → gw_Mem → Prop} {Γ : gw_Ga} (x1 : Int) (m : gw_Mem) (h : ((m 117 14 = 0 → gw_CI d M_X12_here [gR 117] m (fun v1 m2 => gw_G M_X12_has d QR Γ 20 [some (gR 117), some (gI x1), none] [gI (if v1 = x1 then (1 : Int) else (0 : Int))] m2)) ∧ (¬ (m 117 14 = 0) → gw_G M_X12_has d QR Γ 20 [some (gR 117), some (gI x1), none] [gI 0] m))) : gw_G M_X12_has d QR Γ 0 [some (gR 117), some (gI x1), none] [] m := by
  refine gw_aload_n 1 d_X12_has_0 rfl rfl ?_
  refine gw_getI 4 d_X12_has_1 rfl F_12_157 sh_117 rfl (kz := 14) rfl ?_
  refine gw_if_ne 19 7 d_X12_has_4 rfl rfl (fun c4 => ?_) (fun c4 => ?_)
  · skip
    refine gw_aload_n 8 d_X12_has_7 rfl rfl ?_
    refine gw_cVI (a := []) (rest := []) 11 d_X12_has_8 rfl ml_12_161 v_X12_here rfl sh_117 rfl rfl rfl (h.1 c4) (fun v1 m2 h3 => ?_)
    refine gw_iload_n 12 d_X12_has_11 rfl rfl ?_
    have j5 : gw_G M_X12_has d QR Γ 20 [some (gR 117), some (gI x1), none] [gI (if v1 = x1 then (1 : Int) else (0 : Int))] m2 := by
      exact h3
    refine gw_icmp_ne 19 15 d_X12_has_12 rfl rfl (fun c6 => ?_) (fun c6 => ?_)
    · skip
      refine gw_iconst 16 d_X12_has_15 rfl rfl ?_
      refine gw_goto 20 d_X12_has_16 rfl ?_
      simpa only [if_pos c6] using j5
    · skip
      refine gw_iconst 20 d_X12_has_19 rfl rfl ?_
      simpa only [if_neg c6] using j5
  · skip
    refine gw_iconst 20 d_X12_has_19 rfl rfl ?_
    exact (h.2 c4)
set_option maxRecDepth 100000 in
set_option maxHeartbeats 4000000 in
theorem r_X12_has_20 {d : Nat} {QR : Option gw_SV → gw_Mem → Prop} {Γ : gw_Ga} (x1 : Int) (y2 : Option gw_SV) (z0 : Int) (m : gw_Mem) (h : gw_b z0 ∧ QR (some (gI z0)) (gw_up m 117 13 (gw_w ((m 117 13) + (if z0 = 0 then (0 : Int) else (1 : Int)))))) : gw_G M_X12_has d QR Γ 20 [some (gR 117), some (gI x1), y2] [gI z0] m := by
  refine gw_istore_n (ls' := [some (gR 117), some (gI x1), some (gI z0)]) 21 d_X12_has_20 rfl rfl rfl rfl ?_
  refine gw_aload_n 22 d_X12_has_21 rfl rfl ?_
  refine gw_dup 23 d_X12_has_22 rfl rfl ?_
  refine gw_getI 26 d_X12_has_23 rfl F_12_154 sh_117 rfl (kz := 13) rfl ?_
  refine gw_iload_n 27 d_X12_has_26 rfl rfl ?_
  have j7 : gw_G M_X12_has d QR Γ 35 [some (gR 117), some (gI x1), some (gI z0)] [gI (if z0 = 0 then (0 : Int) else (1 : Int)), gI (m 117 13), gR 117] m := by
    refine gw_iadd 36 d_X12_has_35 rfl  ?_
    refine gw_putI 39 d_X12_has_36 rfl P_12_154 (Or.inl rfl) sh_117 rfl (kz := 13) rfl ?_
    refine gw_iload_n 40 d_X12_has_39 rfl rfl ?_
    exact gw_ireturn d_X12_has_40 (Or.inr ⟨rfl, h.1⟩) h.2
  refine gw_if_eq 34 30 d_X12_has_27 rfl rfl (fun c8 => ?_) (fun c8 => ?_)
  · skip
    refine gw_iconst 35 d_X12_has_34 rfl rfl ?_
    simpa only [if_pos c8] using j7
  · skip
    refine gw_iconst 31 d_X12_has_30 rfl rfl ?_
    refine gw_goto 35 d_X12_has_31 rfl ?_
    simpa only [if_neg c8] using j7
set_option maxRecDepth 100000 in
set_option maxHeartbeats 4000000 in
theorem r_X12_number_0 {d : Nat} {QR : Option gw_SV → gw_Mem → Prop} {Γ : gw_Ga} (x1 : Int) (x2 : Int) (m : gw_Mem) (h : ((m 117 14 = 0 → gw_CI d M_X12_here [gR 117] m (fun v1 m2 => gw_CI d M_X12_in [gL v1, gL 48, gL 57] m2 (fun v4 m5 => ((v4 = 0 → gw_G M_X12_number d QR Γ 24 [some (gR 117), some (gI x1), some (gI x2), none, none] [] m5) ∧ (¬ (v4 = 0) → gw_G M_X12_number d QR Γ 39 [some (gR 117), some (gI x1), some (gI x2), some (gI (m5 117 13)), some (gI 0)] [] m5))))) ∧ (¬ (m 117 14 = 0) → gw_G M_X12_number d QR Γ 24 [some (gR 117), some (gI x1), some (gI x2), none, none] [] m))) : gw_G M_X12_number d QR Γ 0 [some (gR 117), some (gI x1), some (gI x2), none, none] [] m := by
  refine gw_aload_n 1 d_X12_number_0 rfl rfl ?_
  refine gw_getI 4 d_X12_number_1 rfl F_12_157 sh_117 rfl (kz := 14) rfl ?_
  refine gw_if_ne 24 7 d_X12_number_4 rfl rfl (fun c13 => ?_) (fun c13 => ?_)
  · skip
    refine gw_aload_n 8 d_X12_number_7 rfl rfl ?_
    refine gw_cVI (a := []) (rest := []) 11 d_X12_number_8 rfl ml_12_161 v_X12_here rfl sh_117 rfl rfl rfl (h.1 c13) (fun v1 m2 h3 => ?_)
    refine gw_i2lR 12 d_X12_number_11 rfl  ?_
    refine gw_ldc2 15 d_X12_number_12 rfl ct_12_164 (n := 48) (gw_rb_inL (gw_rb_in rfl)) (by decide) ?_
    refine gw_ldc2 18 d_X12_number_15 rfl ct_12_166 (n := 57) (gw_rb_inL (gw_rb_in rfl)) (by decide) ?_
    refine gw_cSI (a := [gL v1, gL 48, gL 57]) (rest := []) 21 d_X12_number_18 rfl ml_12_98 v_X12_in rfl rfl rfl h3 (fun v4 m5 h6 => ?_)
    refine gw_if_ne 31 24 d_X12_number_21 rfl rfl (fun c14 => ?_) (fun c14 => ?_)
    · skip
      exact (h6.1 c14)
    · skip
      refine gw_aload_n 32 d_X12_number_31 rfl rfl ?_
      refine gw_getI 35 d_X12_number_32 rfl F_12_154 sh_117 rfl (kz := 13) rfl ?_
      refine gw_istore_n (ls' := [some (gR 117), some (gI x1), some (gI x2), some (gI (m5 117 13)), none]) 36 d_X12_number_35 rfl rfl rfl rfl ?_
      refine gw_iconst 37 d_X12_number_36 rfl rfl ?_
      refine gw_istore (ls' := [some (gR 117), some (gI x1), some (gI x2), some (gI (m5 117 13)), some (gI 0)]) 39 d_X12_number_37 rfl rfl rfl rfl ?_
      exact (h6.2 c14)
  · skip
    exact (h.2 c13)
set_option maxRecDepth 100000 in
set_option maxHeartbeats 4000000 in
theorem r_X12_number_24 {d : Nat} {QR : Option gw_SV → gw_Mem → Prop} {Γ : gw_Ga} (x1 : Int) (x2 : Int) (y3 : Option gw_SV) (y4 : Option gw_SV) (m : gw_Mem) (h : QR (some (gI 0)) (gw_up m 117 14 1)) : gw_G M_X12_number d QR Γ 24 [some (gR 117), some (gI x1), some (gI x2), y3, y4] [] m := by
  refine gw_aload_n 25 d_X12_number_24 rfl rfl ?_
  refine gw_iconst 26 d_X12_number_25 rfl rfl ?_
  refine gw_putI 29 d_X12_number_26 rfl P_12_157 (Or.inr ⟨rfl, gw_b1⟩) sh_117 rfl (kz := 14) rfl ?_
  refine gw_iconst 30 d_X12_number_29 rfl rfl ?_
  exact gw_ireturn d_X12_number_30 (Or.inl rfl) h
set_option maxRecDepth 100000 in
set_option maxHeartbeats 4000000 in
theorem r_X12_number_39 {d : Nat} {QR : Option gw_SV → gw_Mem → Prop} {Γ : gw_Ga} (x1 : Int) (x2 : Int) (x3 : Int) (x4 : Int) (m : gw_Mem) (h : ((m 117 12 ≤ m 117 13 → gw_G M_X12_number d QR Γ 118 [some (gR 117), some (gI x1), some (gI x2), some (gI x3), some (gI x4)] [] m) ∧ (¬ (m 117 12 ≤ m 117 13) → gw_in (m 117 13) 80 ∧ gw_CI d M_X12_in [gL (m 127 (m 117 13)), gL 48, gL 57] m (fun v7 m8 => ((v7 = 0 → gw_G M_X12_number d QR Γ 118 [some (gR 117), some (gI x1), some (gI x2), some (gI x3), some (gI x4)] [] m8) ∧ (¬ (v7 = 0) → (x4 ≤ 999 → gw_in (m8 117 13) 80) ∧ gw_G M_X12_number d QR Γ 39 [some (gR 117), some (gI x1), some (gI x2), some (gI x3), some (gI (if x4 ≤ 999 then gw_w ((gw_w ((gw_w (10 * x4)) + (m8 127 (m8 117 13)))) - 48) else x4))] [] (gw_up m8 117 13 (gw_w ((m8 117 13) + 1))))))))) : gw_G M_X12_number d QR Γ 39 [some (gR 117), some (gI x1), some (gI x2), some (gI x3), some (gI x4)] [] m := by
  refine gw_aload_n 40 d_X12_number_39 rfl rfl ?_
  refine gw_getI 43 d_X12_number_40 rfl F_12_154 sh_117 rfl (kz := 13) rfl ?_
  refine gw_aload_n 44 d_X12_number_43 rfl rfl ?_
  refine gw_getI 47 d_X12_number_44 rfl F_12_151 sh_117 rfl (kz := 12) rfl ?_
  refine gw_icmp_ge 118 50 d_X12_number_47 rfl rfl (fun c15 => ?_) (fun c15 => ?_)
  · skip
    exact (h.1 c15)
  · skip
    refine gw_aload_n 51 d_X12_number_50 rfl rfl ?_
    refine gw_getR 54 d_X12_number_51 rfl F_12_37 sh_117 rfl ?_
    refine gw_aload_n 55 d_X12_number_54 rfl rfl ?_
    refine gw_getI 58 d_X12_number_55 rfl F_12_154 sh_117 rfl (kz := 13) rfl ?_
    refine gw_iaload 59 d_X12_number_58 rfl sh_127 (h.2 c15).1 ?_
    refine gw_i2lR 60 d_X12_number_59 rfl  ?_
    refine gw_ldc2 63 d_X12_number_60 rfl ct_12_164 (n := 48) (gw_rb_inL (gw_rb_in rfl)) (by decide) ?_
    refine gw_ldc2 66 d_X12_number_63 rfl ct_12_166 (n := 57) (gw_rb_inL (gw_rb_in rfl)) (by decide) ?_
    refine gw_cSI (a := [gL (m 127 (m 117 13)), gL 48, gL 57]) (rest := []) 69 d_X12_number_66 rfl ml_12_98 v_X12_in rfl rfl rfl (h.2 c15).2 (fun v7 m8 h9 => ?_)
    refine gw_if_eq 118 72 d_X12_number_69 rfl rfl (fun c16 => ?_) (fun c16 => ?_)
    · skip
      exact (h9.1 c16)
    · skip
      refine gw_iload 74 d_X12_number_72 rfl rfl ?_
      refine gw_sipush 77 d_X12_number_74 rfl rfl (by decide) ?_
      have j17 : gw_G M_X12_number d QR Γ 103 [some (gR 117), some (gI x1), some (gI x2), some (gI x3), some (gI x4)] [gI (if x4 ≤ 999 then gw_w ((gw_w ((gw_w (10 * x4)) + (m8 127 (m8 117 13)))) - 48) else x4)] m8 := by
        refine gw_istore (ls' := [some (gR 117), some (gI x1), some (gI x2), some (gI x3), some (gI (if x4 ≤ 999 then gw_w ((gw_w ((gw_w (10 * x4)) + (m8 127 (m8 117 13)))) - 48) else x4))]) 105 d_X12_number_103 rfl rfl rfl rfl ?_
        refine gw_aload_n 106 d_X12_number_105 rfl rfl ?_
        refine gw_dup 107 d_X12_number_106 rfl rfl ?_
        refine gw_getI 110 d_X12_number_107 rfl F_12_154 sh_117 rfl (kz := 13) rfl ?_
        refine gw_iconst 111 d_X12_number_110 rfl rfl ?_
        refine gw_iadd 112 d_X12_number_111 rfl  ?_
        refine gw_putI 115 d_X12_number_112 rfl P_12_154 (Or.inl rfl) sh_117 rfl (kz := 13) rfl ?_
        refine gw_goto 39 d_X12_number_115 rfl ?_
        exact (h9.2 c16).2
      refine gw_icmp_le 85 80 d_X12_number_77 rfl rfl (fun c18 => ?_) (fun c18 => ?_)
      · skip
        refine gw_bipush 87 d_X12_number_85 rfl rfl (by decide) ?_
        refine gw_iload 89 d_X12_number_87 rfl rfl ?_
        refine gw_imul 90 d_X12_number_89 rfl  ?_
        refine gw_aload_n 91 d_X12_number_90 rfl rfl ?_
        refine gw_getR 94 d_X12_number_91 rfl F_12_37 sh_117 rfl ?_
        refine gw_aload_n 95 d_X12_number_94 rfl rfl ?_
        refine gw_getI 98 d_X12_number_95 rfl F_12_154 sh_117 rfl (kz := 13) rfl ?_
        refine gw_iaload 99 d_X12_number_98 rfl sh_127 ((h9.2 c16).1 c18) ?_
        refine gw_iadd 100 d_X12_number_99 rfl  ?_
        refine gw_bipush 102 d_X12_number_100 rfl rfl (by decide) ?_
        refine gw_isub 103 d_X12_number_102 rfl  ?_
        simpa only [if_pos c18] using j17
      · skip
        refine gw_iload 82 d_X12_number_80 rfl rfl ?_
        refine gw_goto 103 d_X12_number_82 rfl ?_
        simpa only [if_neg c18] using j17
set_option maxRecDepth 100000 in
set_option maxHeartbeats 4000000 in
theorem r_X12_number_118 {d : Nat} {QR : Option gw_SV → gw_Mem → Prop} {Γ : gw_Ga} (x1 : Int) (x2 : Int) (x3 : Int) (x4 : Int) (m : gw_Mem) (h : gw_CI d M_X12_in [gL x4, gL x1, gL x2] m (fun v10 m11 => QR (some (gI x4)) (gw_up (gw_up m11 117 14 (if v10 = 0 then (1 : Int) else (0 : Int))) 117 13 (if (gw_up m11 117 14 (if v10 = 0 then (1 : Int) else (0 : Int))) 117 14 = 0 then (gw_up m11 117 14 (if v10 = 0 then (1 : Int) else (0 : Int))) 117 13 else x3)))) : gw_G M_X12_number d QR Γ 118 [some (gR 117), some (gI x1), some (gI x2), some (gI x3), some (gI x4)] [] m := by
  refine gw_aload_n 119 d_X12_number_118 rfl rfl ?_
  refine gw_iload 121 d_X12_number_119 rfl rfl ?_
  refine gw_i2lR 122 d_X12_number_121 rfl  ?_
  refine gw_iload_n 123 d_X12_number_122 rfl rfl ?_
  refine gw_i2lR 124 d_X12_number_123 rfl  ?_
  refine gw_iload_n 125 d_X12_number_124 rfl rfl ?_
  refine gw_i2lR 126 d_X12_number_125 rfl  ?_
  refine gw_cSI (a := [gL x4, gL x1, gL x2]) (rest := [gR 117]) 129 d_X12_number_126 rfl ml_12_98 v_X12_in rfl rfl rfl h (fun v10 m11 h12 => ?_)
  have j19 : gw_G M_X12_number d QR Γ 137 [some (gR 117), some (gI x1), some (gI x2), some (gI x3), some (gI x4)] [gI (if v10 = 0 then (1 : Int) else (0 : Int)), gR 117] m11 := by
    refine gw_putI 140 d_X12_number_137 rfl P_12_157 (Or.inr ⟨rfl, (gw_bi gw_b1 gw_b0)⟩) sh_117 rfl (kz := 14) rfl ?_
    refine gw_aload_n 141 d_X12_number_140 rfl rfl ?_
    refine gw_aload_n 142 d_X12_number_141 rfl rfl ?_
    refine gw_getI 145 d_X12_number_142 rfl F_12_157 sh_117 rfl (kz := 14) rfl ?_
    have j21 : gw_G M_X12_number d QR Γ 156 [some (gR 117), some (gI x1), some (gI x2), some (gI x3), some (gI x4)] [gI (if (gw_up m11 117 14 (if v10 = 0 then (1 : Int) else (0 : Int))) 117 14 = 0 then (gw_up m11 117 14 (if v10 = 0 then (1 : Int) else (0 : Int))) 117 13 else x3), gR 117] (gw_up m11 117 14 (if v10 = 0 then (1 : Int) else (0 : Int))) := by
      refine gw_putI 159 d_X12_number_156 rfl P_12_154 (Or.inl rfl) sh_117 rfl (kz := 13) rfl ?_
      refine gw_iload 161 d_X12_number_159 rfl rfl ?_
      exact gw_ireturn d_X12_number_161 (Or.inl rfl) h12
    refine gw_if_eq 152 148 d_X12_number_145 rfl rfl (fun c22 => ?_) (fun c22 => ?_)
    · skip
      refine gw_aload_n 153 d_X12_number_152 rfl rfl ?_
      refine gw_getI 156 d_X12_number_153 rfl F_12_154 sh_117 rfl (kz := 13) rfl ?_
      simpa only [if_pos c22] using j21
    · skip
      refine gw_iload_n 149 d_X12_number_148 rfl rfl ?_
      refine gw_goto 156 d_X12_number_149 rfl ?_
      simpa only [if_neg c22] using j21
  refine gw_if_ne 136 132 d_X12_number_129 rfl rfl (fun c20 => ?_) (fun c20 => ?_)
  · skip
    refine gw_iconst 133 d_X12_number_132 rfl rfl ?_
    refine gw_goto 137 d_X12_number_133 rfl ?_
    simpa only [if_pos c20] using j19
  · skip
    refine gw_iconst 137 d_X12_number_136 rfl rfl ?_
    simpa only [if_neg c20] using j19
set_option maxRecDepth 100000 in
set_option maxHeartbeats 4000000 in
theorem r_X12_letter_0 {d : Nat} {QR : Option gw_SV → gw_Mem → Prop} {Γ : gw_Ga} (x1 : Int) (x2 : Int) (x3 : Int) (x4 : Int) (m : gw_Mem) (h : ((m 117 14 = 0 → gw_CI d M_X12_here [gR 117] m (fun v1 m2 => gw_G M_X12_letter d QR Γ 15 [some (gR 117), some (gI x1), some (gI x2), some (gI x3), some (gI x4), none, none] [gI v1] m2)) ∧ (¬ (m 117 14 = 0) → gw_G M_X12_letter d QR Γ 15 [some (gR 117), some (gI x1), some (gI x2), some (gI x3), some (gI x4), none, none] [gI 0] m))) : gw_G M_X12_letter d QR Γ 0 [some (gR 117), some (gI x1), some (gI x2), some (gI x3), some (gI x4), none, none] [] m := by
  refine gw_aload_n 1 d_X12_letter_0 rfl rfl ?_
  refine gw_getI 4 d_X12_letter_1 rfl F_12_157 sh_117 rfl (kz := 14) rfl ?_
  refine gw_if_eq 11 7 d_X12_letter_4 rfl rfl (fun c4 => ?_) (fun c4 => ?_)
  · skip
    refine gw_aload_n 12 d_X12_letter_11 rfl rfl ?_
    refine gw_cVI (a := []) (rest := []) 15 d_X12_letter_12 rfl ml_12_161 v_X12_here rfl sh_117 rfl rfl rfl (h.1 c4) (fun v1 m2 h3 => ?_)
    exact h3
  · skip
    refine gw_iconst 8 d_X12_letter_7 rfl rfl ?_
    refine gw_goto 15 d_X12_letter_8 rfl ?_
    exact (h.2 c4)
set_option maxRecDepth 100000 in
set_option maxHeartbeats 4000000 in
theorem r_X12_letter_15 {d : Nat} {QR : Option gw_SV → gw_Mem → Prop} {Γ : gw_Ga} (x1 : Int) (x2 : Int) (x3 : Int) (x4 : Int) (y5 : Option gw_SV) (y6 : Option gw_SV) (z0 : Int) (m : gw_Mem) (h : QR (some (gI (if z0 = 0 then (-4 : Int) else (if z0 = x1 then (0 : Int) else (if z0 = x2 then (1 : Int) else (if z0 = x3 then (2 : Int) else (if z0 = x4 then (3 : Int) else (-4 : Int)))))))) (gw_up (gw_up m 117 14 (if m 117 14 = 0 then (if 0 ≤ (if z0 = 0 then (-4 : Int) else (if z0 = x1 then (0 : Int) else (if z0 = x2 then (1 : Int) else (if z0 = x3 then (2 : Int) else (if z0 = x4 then (3 : Int) else (-4 : Int)))))) then (0 : Int) else (1 : Int)) else (1 : Int))) 117 13 (gw_w (((gw_up m 117 14 (if m 117 14 = 0 then (if 0 ≤ (if z0 = 0 then (-4 : Int) else (if z0 = x1 then (0 : Int) else (if z0 = x2 then (1 : Int) else (if z0 = x3 then (2 : Int) else (if z0 = x4 then (3 : Int) else (-4 : Int)))))) then (0 : Int) else (1 : Int)) else (1 : Int))) 117 13) + (if (gw_up m 117 14 (if m 117 14 = 0 then (if 0 ≤ (if z0 = 0 then (-4 : Int) else (if z0 = x1 then (0 : Int) else (if z0 = x2 then (1 : Int) else (if z0 = x3 then (2 : Int) else (if z0 = x4 then (3 : Int) else (-4 : Int)))))) then (0 : Int) else (1 : Int)) else (1 : Int))) 117 14 = 0 then (1 : Int) else (0 : Int)))))) : gw_G M_X12_letter d QR Γ 15 [some (gR 117), some (gI x1), some (gI x2), some (gI x3), some (gI x4), y5, y6] [gI z0] m := by
  refine gw_istore (ls' := [some (gR 117), some (gI x1), some (gI x2), some (gI x3), some (gI x4), some (gI z0), y6]) 17 d_X12_letter_15 rfl rfl rfl rfl ?_
  refine gw_iload 19 d_X12_letter_17 rfl rfl ?_
  have j5 : gw_G M_X12_letter d QR Γ 70 [some (gR 117), some (gI x1), some (gI x2), some (gI x3), some (gI x4), some (gI z0), y6] [gI (if z0 = 0 then (-4 : Int) else (if z0 = x1 then (0 : Int) else (if z0 = x2 then (1 : Int) else (if z0 = x3 then (2 : Int) else (if z0 = x4 then (3 : Int) else (-4 : Int))))))] m := by
    refine gw_istore (ls' := [some (gR 117), some (gI x1), some (gI x2), some (gI x3), some (gI x4), some (gI z0), some (gI (if z0 = 0 then (-4 : Int) else (if z0 = x1 then (0 : Int) else (if z0 = x2 then (1 : Int) else (if z0 = x3 then (2 : Int) else (if z0 = x4 then (3 : Int) else (-4 : Int)))))))]) 72 d_X12_letter_70 rfl rfl rfl rfl ?_
    refine gw_aload_n 73 d_X12_letter_72 rfl rfl ?_
    refine gw_aload_n 74 d_X12_letter_73 rfl rfl ?_
    refine gw_getI 77 d_X12_letter_74 rfl F_12_157 sh_117 rfl (kz := 14) rfl ?_
    have j7 : gw_G M_X12_letter d QR Γ 90 [some (gR 117), some (gI x1), some (gI x2), some (gI x3), some (gI x4), some (gI z0), some (gI (if z0 = 0 then (-4 : Int) else (if z0 = x1 then (0 : Int) else (if z0 = x2 then (1 : Int) else (if z0 = x3 then (2 : Int) else (if z0 = x4 then (3 : Int) else (-4 : Int)))))))] [gI (if m 117 14 = 0 then (if 0 ≤ (if z0 = 0 then (-4 : Int) else (if z0 = x1 then (0 : Int) else (if z0 = x2 then (1 : Int) else (if z0 = x3 then (2 : Int) else (if z0 = x4 then (3 : Int) else (-4 : Int)))))) then (0 : Int) else (1 : Int)) else (1 : Int)), gR 117] m := by
      refine gw_putI 93 d_X12_letter_90 rfl P_12_157 (Or.inr ⟨rfl, (gw_bi (gw_bi gw_b0 gw_b1) gw_b1)⟩) sh_117 rfl (kz := 14) rfl ?_
      refine gw_aload_n 94 d_X12_letter_93 rfl rfl ?_
      refine gw_dup 95 d_X12_letter_94 rfl rfl ?_
      refine gw_getI 98 d_X12_letter_95 rfl F_12_154 sh_117 rfl (kz := 13) rfl ?_
      refine gw_aload_n 99 d_X12_letter_98 rfl rfl ?_
      refine gw_getI 102 d_X12_letter_99 rfl F_12_157 sh_117 rfl (kz := 14) rfl ?_
      have j9 : gw_G M_X12_letter d QR Γ 110 [some (gR 117), some (gI x1), some (gI x2), some (gI x3), some (gI x4), some (gI z0), some (gI (if z0 = 0 then (-4 : Int) else (if z0 = x1 then (0 : Int) else (if z0 = x2 then (1 : Int) else (if z0 = x3 then (2 : Int) else (if z0 = x4 then (3 : Int) else (-4 : Int)))))))] [gI (if (gw_up m 117 14 (if m 117 14 = 0 then (if 0 ≤ (if z0 = 0 then (-4 : Int) else (if z0 = x1 then (0 : Int) else (if z0 = x2 then (1 : Int) else (if z0 = x3 then (2 : Int) else (if z0 = x4 then (3 : Int) else (-4 : Int)))))) then (0 : Int) else (1 : Int)) else (1 : Int))) 117 14 = 0 then (1 : Int) else (0 : Int)), gI ((gw_up m 117 14 (if m 117 14 = 0 then (if 0 ≤ (if z0 = 0 then (-4 : Int) else (if z0 = x1 then (0 : Int) else (if z0 = x2 then (1 : Int) else (if z0 = x3 then (2 : Int) else (if z0 = x4 then (3 : Int) else (-4 : Int)))))) then (0 : Int) else (1 : Int)) else (1 : Int))) 117 13), gR 117] (gw_up m 117 14 (if m 117 14 = 0 then (if 0 ≤ (if z0 = 0 then (-4 : Int) else (if z0 = x1 then (0 : Int) else (if z0 = x2 then (1 : Int) else (if z0 = x3 then (2 : Int) else (if z0 = x4 then (3 : Int) else (-4 : Int)))))) then (0 : Int) else (1 : Int)) else (1 : Int))) := by
        refine gw_iadd 111 d_X12_letter_110 rfl  ?_
        refine gw_putI 114 d_X12_letter_111 rfl P_12_154 (Or.inl rfl) sh_117 rfl (kz := 13) rfl ?_
        refine gw_iload 116 d_X12_letter_114 rfl rfl ?_
        exact gw_ireturn d_X12_letter_116 (Or.inl rfl) h
      refine gw_if_eq 109 105 d_X12_letter_102 rfl rfl (fun c10 => ?_) (fun c10 => ?_)
      · skip
        refine gw_iconst 110 d_X12_letter_109 rfl rfl ?_
        simpa only [if_pos c10] using j9
      · skip
        refine gw_iconst 106 d_X12_letter_105 rfl rfl ?_
        refine gw_goto 110 d_X12_letter_106 rfl ?_
        simpa only [if_neg c10] using j9
    refine gw_if_ne 85 80 d_X12_letter_77 rfl rfl (fun c8 => ?_) (fun c8 => ?_)
    · skip
      refine gw_iload 82 d_X12_letter_80 rfl rfl ?_
      refine gw_if_ge 89 85 d_X12_letter_82 rfl rfl (fun c11 => ?_) (fun c11 => ?_)
      · skip
        refine gw_iconst 90 d_X12_letter_89 rfl rfl ?_
        simpa only [if_pos c8, if_pos c11] using j7
      · skip
        refine gw_iconst 86 d_X12_letter_85 rfl rfl ?_
        refine gw_goto 90 d_X12_letter_86 rfl ?_
        simpa only [if_pos c8, if_neg c11] using j7
    · skip
      refine gw_iconst 86 d_X12_letter_85 rfl rfl ?_
      refine gw_goto 90 d_X12_letter_86 rfl ?_
      simpa only [if_neg c8] using j7
  refine gw_if_ne 27 22 d_X12_letter_19 rfl rfl (fun c6 => ?_) (fun c6 => ?_)
  · skip
    refine gw_bipush 24 d_X12_letter_22 rfl rfl (by decide) ?_
    refine gw_goto 70 d_X12_letter_24 rfl ?_
    simpa only [if_pos c6] using j5
  · skip
    refine gw_iload 29 d_X12_letter_27 rfl rfl ?_
    refine gw_iload_n 30 d_X12_letter_29 rfl rfl ?_
    refine gw_icmp_ne 37 33 d_X12_letter_30 rfl rfl (fun c12 => ?_) (fun c12 => ?_)
    · skip
      refine gw_iconst 34 d_X12_letter_33 rfl rfl ?_
      refine gw_goto 70 d_X12_letter_34 rfl ?_
      simpa only [if_neg c6, if_pos c12] using j5
    · skip
      refine gw_iload 39 d_X12_letter_37 rfl rfl ?_
      refine gw_iload_n 40 d_X12_letter_39 rfl rfl ?_
      refine gw_icmp_ne 47 43 d_X12_letter_40 rfl rfl (fun c13 => ?_) (fun c13 => ?_)
      · skip
        refine gw_iconst 44 d_X12_letter_43 rfl rfl ?_
        refine gw_goto 70 d_X12_letter_44 rfl ?_
        simpa only [if_neg c6, if_neg c12, if_pos c13] using j5
      · skip
        refine gw_iload 49 d_X12_letter_47 rfl rfl ?_
        refine gw_iload_n 50 d_X12_letter_49 rfl rfl ?_
        refine gw_icmp_ne 57 53 d_X12_letter_50 rfl rfl (fun c14 => ?_) (fun c14 => ?_)
        · skip
          refine gw_iconst 54 d_X12_letter_53 rfl rfl ?_
          refine gw_goto 70 d_X12_letter_54 rfl ?_
          simpa only [if_neg c6, if_neg c12, if_neg c13, if_pos c14] using j5
        · skip
          refine gw_iload 59 d_X12_letter_57 rfl rfl ?_
          refine gw_iload 61 d_X12_letter_59 rfl rfl ?_
          refine gw_icmp_ne 68 64 d_X12_letter_61 rfl rfl (fun c15 => ?_) (fun c15 => ?_)
          · skip
            refine gw_iconst 65 d_X12_letter_64 rfl rfl ?_
            refine gw_goto 70 d_X12_letter_65 rfl ?_
            simpa only [if_neg c6, if_neg c12, if_neg c13, if_neg c14, if_pos c15] using j5
          · skip
            refine gw_bipush 70 d_X12_letter_68 rfl rfl (by decide) ?_
            simpa only [if_neg c6, if_neg c12, if_neg c13, if_neg c14, if_neg c15] using j5
set_option maxRecDepth 100000 in
set_option maxHeartbeats 4000000 in
theorem r_X12_markClause_0 {d : Nat} {QR : Option gw_SV → gw_Mem → Prop} {Γ : gw_Ga} (x1 : Int) (m : gw_Mem) (h : gw_CI d M_X12_letter [gR 117, gI 115, gI 108, gI 119, gI 116] m (fun v1 m2 => gw_CI d M_X12_here [gR 117] m2 (fun v4 m5 => gw_CI d M_X12_number [gR 117, gI 0, gI 99] m5 (fun v7 m8 => gw_G M_X12_markClause d QR Γ 35 [some (gR 117), some (gI x1), some (gI v1), some (gI (m5 117 13)), some (gI v7), some (gI 0)] [] m8)))) : gw_G M_X12_markClause d QR Γ 0 [some (gR 117), some (gI x1), none, none, none, none] [] m := by
  refine gw_aload_n 1 d_X12_markClause_0 rfl rfl ?_
  refine gw_bipush 3 d_X12_markClause_1 rfl rfl (by decide) ?_
  refine gw_bipush 5 d_X12_markClause_3 rfl rfl (by decide) ?_
  refine gw_bipush 7 d_X12_markClause_5 rfl rfl (by decide) ?_
  refine gw_bipush 9 d_X12_markClause_7 rfl rfl (by decide) ?_
  refine gw_cVI (a := [gI 115, gI 108, gI 119, gI 116]) (rest := []) 12 d_X12_markClause_9 rfl ml_12_168 v_X12_letter rfl sh_117 rfl rfl rfl h (fun v1 m2 h3 => ?_)
  refine gw_istore_n (ls' := [some (gR 117), some (gI x1), some (gI v1), none, none, none]) 13 d_X12_markClause_12 rfl rfl rfl rfl ?_
  refine gw_aload_n 14 d_X12_markClause_13 rfl rfl ?_
  refine gw_cVI (a := []) (rest := []) 17 d_X12_markClause_14 rfl ml_12_161 v_X12_here rfl sh_117 rfl rfl rfl h3 (fun v4 m5 h6 => ?_)
  refine gw_pop 18 d_X12_markClause_17 rfl rfl ?_
  refine gw_aload_n 19 d_X12_markClause_18 rfl rfl ?_
  refine gw_getI 22 d_X12_markClause_19 rfl F_12_154 sh_117 rfl (kz := 13) rfl ?_
  refine gw_istore_n (ls' := [some (gR 117), some (gI x1), some (gI v1), some (gI (m5 117 13)), none, none]) 23 d_X12_markClause_22 rfl rfl rfl rfl ?_
  refine gw_aload_n 24 d_X12_markClause_23 rfl rfl ?_
  refine gw_iconst 25 d_X12_markClause_24 rfl rfl ?_
  refine gw_bipush 27 d_X12_markClause_25 rfl rfl (by decide) ?_
  refine gw_cVI (a := [gI 0, gI 99]) (rest := []) 30 d_X12_markClause_27 rfl ml_12_172 v_X12_number rfl sh_117 rfl rfl rfl h6 (fun v7 m8 h9 => ?_)
  refine gw_istore (ls' := [some (gR 117), some (gI x1), some (gI v1), some (gI (m5 117 13)), some (gI v7), none]) 32 d_X12_markClause_30 rfl rfl rfl rfl ?_
  refine gw_iconst 33 d_X12_markClause_32 rfl rfl ?_
  refine gw_istore (ls' := [some (gR 117), some (gI x1), some (gI v1), some (gI (m5 117 13)), some (gI v7), some (gI 0)]) 35 d_X12_markClause_33 rfl rfl rfl rfl ?_
  exact h9
set_option maxRecDepth 100000 in
set_option maxHeartbeats 4000000 in
theorem r_X12_markClause_35 {d : Nat} {QR : Option gw_SV → gw_Mem → Prop} {Γ : gw_Ga} (x1 : Int) (x2 : Int) (x3 : Int) (x4 : Int) (x5 : Int) (m : gw_Mem) (h : ((x1 ≤ x5 → gw_G M_X12_markClause d QR Γ 93 [some (gR 117), some (gI x1), some (gI x2), some (gI x3), some (gI x4), some (gI x5)] [] m) ∧ (¬ (x1 ≤ x5) → ((m 117 14 = 0 → gw_in (gw_w (3 * x5)) 30 ∧ ((m 128 (gw_w (3 * x5)) = x2 → gw_in (gw_w ((gw_w (3 * x5)) + 1)) 30 ∧ ((m 128 (gw_w ((gw_w (3 * x5)) + 1)) = x4 → gw_G M_X12_markClause d QR Γ 87 [some (gR 117), some (gI x1), some (gI x2), some (gI x3), some (gI x4), some (gI x5)] [] (gw_up (gw_up m 117 14 1) 117 13 x3)) ∧ (¬ (m 128 (gw_w ((gw_w (3 * x5)) + 1)) = x4) → gw_G M_X12_markClause d QR Γ 87 [some (gR 117), some (gI x1), some (gI x2), some (gI x3), some (gI x4), some (gI x5)] [] m))) ∧ (¬ (m 128 (gw_w (3 * x5)) = x2) → gw_G M_X12_markClause d QR Γ 87 [some (gR 117), some (gI x1), some (gI x2), some (gI x3), some (gI x4), some (gI x5)] [] m))) ∧ (¬ (m 117 14 = 0) → gw_G M_X12_markClause d QR Γ 93 [some (gR 117), some (gI x1), some (gI x2), some (gI x3), some (gI x4), some (gI x5)] [] m))))) : gw_G M_X12_markClause d QR Γ 35 [some (gR 117), some (gI x1), some (gI x2), some (gI x3), some (gI x4), some (gI x5)] [] m := by
  refine gw_iload 37 d_X12_markClause_35 rfl rfl ?_
  refine gw_iload_n 38 d_X12_markClause_37 rfl rfl ?_
  refine gw_icmp_ge 93 41 d_X12_markClause_38 rfl rfl (fun c16 => ?_) (fun c16 => ?_)
  · skip
    exact (h.1 c16)
  · skip
    refine gw_aload_n 42 d_X12_markClause_41 rfl rfl ?_
    refine gw_getI 45 d_X12_markClause_42 rfl F_12_157 sh_117 rfl (kz := 14) rfl ?_
    refine gw_if_ne 93 48 d_X12_markClause_45 rfl rfl (fun c17 => ?_) (fun c17 => ?_)
    · skip
      refine gw_aload_n 49 d_X12_markClause_48 rfl rfl ?_
      refine gw_getR 52 d_X12_markClause_49 rfl F_12_40 sh_117 rfl ?_
      refine gw_iconst 53 d_X12_markClause_52 rfl rfl ?_
      refine gw_iload 55 d_X12_markClause_53 rfl rfl ?_
      refine gw_imul 56 d_X12_markClause_55 rfl  ?_
      refine gw_iaload 57 d_X12_markClause_56 rfl sh_128 ((h.2 c16).1 c17).1 ?_
      refine gw_iload_n 58 d_X12_markClause_57 rfl rfl ?_
      refine gw_icmp_ne 87 61 d_X12_markClause_58 rfl rfl (fun c18 => ?_) (fun c18 => ?_)
      · skip
        refine gw_aload_n 62 d_X12_markClause_61 rfl rfl ?_
        refine gw_getR 65 d_X12_markClause_62 rfl F_12_40 sh_117 rfl ?_
        refine gw_iconst 66 d_X12_markClause_65 rfl rfl ?_
        refine gw_iload 68 d_X12_markClause_66 rfl rfl ?_
        refine gw_imul 69 d_X12_markClause_68 rfl  ?_
        refine gw_iconst 70 d_X12_markClause_69 rfl rfl ?_
        refine gw_iadd 71 d_X12_markClause_70 rfl  ?_
        refine gw_iaload 72 d_X12_markClause_71 rfl sh_128 (((h.2 c16).1 c17).2.1 c18).1 ?_
        refine gw_iload 74 d_X12_markClause_72 rfl rfl ?_
        refine gw_icmp_ne 87 77 d_X12_markClause_74 rfl rfl (fun c19 => ?_) (fun c19 => ?_)
        · skip
          refine gw_aload_n 78 d_X12_markClause_77 rfl rfl ?_
          refine gw_iconst 79 d_X12_markClause_78 rfl rfl ?_
          refine gw_putI 82 d_X12_markClause_79 rfl P_12_157 (Or.inr ⟨rfl, gw_b1⟩) sh_117 rfl (kz := 14) rfl ?_
          refine gw_aload_n 83 d_X12_markClause_82 rfl rfl ?_
          refine gw_iload_n 84 d_X12_markClause_83 rfl rfl ?_
          refine gw_putI 87 d_X12_markClause_84 rfl P_12_154 (Or.inl rfl) sh_117 rfl (kz := 13) rfl ?_
          exact ((((h.2 c16).1 c17).2.1 c18).2.1 c19)
        · skip
          exact ((((h.2 c16).1 c17).2.1 c18).2.2 c19)
      · skip
        exact (((h.2 c16).1 c17).2.2 c18)
    · skip
      exact ((h.2 c16).2 c17)
set_option maxRecDepth 100000 in
set_option maxHeartbeats 4000000 in
theorem r_X12_markClause_87 {d : Nat} {QR : Option gw_SV → gw_Mem → Prop} {Γ : gw_Ga} (x1 : Int) (x2 : Int) (x3 : Int) (x4 : Int) (x5 : Int) (m : gw_Mem) (h : gw_G M_X12_markClause d QR Γ 35 [some (gR 117), some (gI x1), some (gI x2), some (gI x3), some (gI x4), some (gI (gw_w (x5 + 1)))] [] m) : gw_G M_X12_markClause d QR Γ 87 [some (gR 117), some (gI x1), some (gI x2), some (gI x3), some (gI x4), some (gI x5)] [] m := by
  refine gw_iinc (ls' := [some (gR 117), some (gI x1), some (gI x2), some (gI x3), some (gI x4), some (gI (gw_w (x5 + 1)))]) 90 d_X12_markClause_87 rfl rfl rfl rfl rfl ?_
  refine gw_goto 35 d_X12_markClause_90 rfl ?_
  exact h
set_option maxRecDepth 100000 in
set_option maxHeartbeats 4000000 in
theorem r_X12_markClause_93 {d : Nat} {QR : Option gw_SV → gw_Mem → Prop} {Γ : gw_Ga} (x1 : Int) (x2 : Int) (x3 : Int) (x4 : Int) (x5 : Int) (m : gw_Mem) (h : gw_CI d M_X12_has [gR 117, gI 58] m (fun v10 m11 => gw_in (gw_w (3 * x1)) 30 ∧ gw_in (gw_w ((gw_w (3 * x1)) + 1)) 30 ∧ gw_CI d M_X12_number [gR 117, gI (if x2 = 1 then (2 : Int) else (1 : Int)), gI (if x2 = 3 then (50 : Int) else (20 : Int))] (gw_up (gw_up (gw_up m11 117 14 (if v10 = 0 then (1 : Int) else (0 : Int))) 128 (gw_w (3 * x1)) x2) 128 (gw_w ((gw_w (3 * x1)) + 1)) x4) (fun v13 m14 => gw_in (gw_w ((gw_w (3 * x1)) + 2)) 30 ∧ QR none (gw_up m14 128 (gw_w ((gw_w (3 * x1)) + 2)) v13)))) : gw_G M_X12_markClause d QR Γ 93 [some (gR 117), some (gI x1), some (gI x2), some (gI x3), some (gI x4), some (gI x5)] [] m := by
  refine gw_aload_n 94 d_X12_markClause_93 rfl rfl ?_
  refine gw_aload_n 95 d_X12_markClause_94 rfl rfl ?_
  refine gw_bipush 97 d_X12_markClause_95 rfl rfl (by decide) ?_
  refine gw_cVI (a := [gI 58]) (rest := [gR 117]) 100 d_X12_markClause_97 rfl ml_12_175 v_X12_has rfl sh_117 rfl rfl rfl h (fun v10 m11 h12 => ?_)
  have j20 : gw_G M_X12_markClause d QR Γ 108 [some (gR 117), some (gI x1), some (gI x2), some (gI x3), some (gI x4), some (gI x5)] [gI (if v10 = 0 then (1 : Int) else (0 : Int)), gR 117] m11 := by
    refine gw_putI 111 d_X12_markClause_108 rfl P_12_157 (Or.inr ⟨rfl, (gw_bi gw_b1 gw_b0)⟩) sh_117 rfl (kz := 14) rfl ?_
    refine gw_aload_n 112 d_X12_markClause_111 rfl rfl ?_
    refine gw_getR 115 d_X12_markClause_112 rfl F_12_40 sh_117 rfl ?_
    refine gw_iconst 116 d_X12_markClause_115 rfl rfl ?_
    refine gw_iload_n 117 d_X12_markClause_116 rfl rfl ?_
    refine gw_imul 118 d_X12_markClause_117 rfl  ?_
    refine gw_iload_n 119 d_X12_markClause_118 rfl rfl ?_
    refine gw_iastore 120 d_X12_markClause_119 rfl sh_128 h12.1 ?_
    refine gw_aload_n 121 d_X12_markClause_120 rfl rfl ?_
    refine gw_getR 124 d_X12_markClause_121 rfl F_12_40 sh_117 rfl ?_
    refine gw_iconst 125 d_X12_markClause_124 rfl rfl ?_
    refine gw_iload_n 126 d_X12_markClause_125 rfl rfl ?_
    refine gw_imul 127 d_X12_markClause_126 rfl  ?_
    refine gw_iconst 128 d_X12_markClause_127 rfl rfl ?_
    refine gw_iadd 129 d_X12_markClause_128 rfl  ?_
    refine gw_iload 131 d_X12_markClause_129 rfl rfl ?_
    refine gw_iastore 132 d_X12_markClause_131 rfl sh_128 h12.2.1 ?_
    refine gw_aload_n 133 d_X12_markClause_132 rfl rfl ?_
    refine gw_getR 136 d_X12_markClause_133 rfl F_12_40 sh_117 rfl ?_
    refine gw_iconst 137 d_X12_markClause_136 rfl rfl ?_
    refine gw_iload_n 138 d_X12_markClause_137 rfl rfl ?_
    refine gw_imul 139 d_X12_markClause_138 rfl  ?_
    refine gw_iconst 140 d_X12_markClause_139 rfl rfl ?_
    refine gw_iadd 141 d_X12_markClause_140 rfl  ?_
    refine gw_aload_n 142 d_X12_markClause_141 rfl rfl ?_
    refine gw_iload_n 143 d_X12_markClause_142 rfl rfl ?_
    refine gw_iconst 144 d_X12_markClause_143 rfl rfl ?_
    have j22 : gw_G M_X12_markClause d QR Γ 152 [some (gR 117), some (gI x1), some (gI x2), some (gI x3), some (gI x4), some (gI x5)] [gI (if x2 = 1 then (2 : Int) else (1 : Int)), gR 117, gI (gw_w ((gw_w (3 * x1)) + 2)), gR 128] (gw_up (gw_up (gw_up m11 117 14 (if v10 = 0 then (1 : Int) else (0 : Int))) 128 (gw_w (3 * x1)) x2) 128 (gw_w ((gw_w (3 * x1)) + 1)) x4) := by
      refine gw_iload_n 153 d_X12_markClause_152 rfl rfl ?_
      refine gw_iconst 154 d_X12_markClause_153 rfl rfl ?_
      have j24 : gw_G M_X12_markClause d QR Γ 164 [some (gR 117), some (gI x1), some (gI x2), some (gI x3), some (gI x4), some (gI x5)] [gI (if x2 = 3 then (50 : Int) else (20 : Int)), gI (if x2 = 1 then (2 : Int) else (1 : Int)), gR 117, gI (gw_w ((gw_w (3 * x1)) + 2)), gR 128] (gw_up (gw_up (gw_up m11 117 14 (if v10 = 0 then (1 : Int) else (0 : Int))) 128 (gw_w (3 * x1)) x2) 128 (gw_w ((gw_w (3 * x1)) + 1)) x4) := by
        refine gw_cVI (a := [gI (if x2 = 1 then (2 : Int) else (1 : Int)), gI (if x2 = 3 then (50 : Int) else (20 : Int))]) (rest := [gI (gw_w ((gw_w (3 * x1)) + 2)), gR 128]) 167 d_X12_markClause_164 rfl ml_12_172 v_X12_number rfl sh_117 rfl rfl rfl h12.2.2 (fun v13 m14 h15 => ?_)
        refine gw_iastore 168 d_X12_markClause_167 rfl sh_128 h15.1 ?_
        exact gw_return d_X12_markClause_168 rfl h15.2
      refine gw_icmp_ne 162 157 d_X12_markClause_154 rfl rfl (fun c25 => ?_) (fun c25 => ?_)
      · skip
        refine gw_bipush 159 d_X12_markClause_157 rfl rfl (by decide) ?_
        refine gw_goto 164 d_X12_markClause_159 rfl ?_
        simpa only [if_pos c25] using j24
      · skip
        refine gw_bipush 164 d_X12_markClause_162 rfl rfl (by decide) ?_
        simpa only [if_neg c25] using j24
    refine gw_icmp_ne 151 147 d_X12_markClause_144 rfl rfl (fun c23 => ?_) (fun c23 => ?_)
    · skip
      refine gw_iconst 148 d_X12_markClause_147 rfl rfl ?_
      refine gw_goto 152 d_X12_markClause_148 rfl ?_
      simpa only [if_pos c23] using j22
    · skip
      refine gw_iconst 152 d_X12_markClause_151 rfl rfl ?_
      simpa only [if_neg c23] using j22
  refine gw_if_ne 107 103 d_X12_markClause_100 rfl rfl (fun c21 => ?_) (fun c21 => ?_)
  · skip
    refine gw_iconst 104 d_X12_markClause_103 rfl rfl ?_
    refine gw_goto 108 d_X12_markClause_104 rfl ?_
    simpa only [if_pos c21] using j20
  · skip
    refine gw_iconst 108 d_X12_markClause_107 rfl rfl ?_
    simpa only [if_neg c21] using j20
set_option maxRecDepth 100000 in
set_option maxHeartbeats 4000000 in
theorem r_X12_personClause_0 {d : Nat} {QR : Option gw_SV → gw_Mem → Prop} {Γ : gw_Ga} (x1 : Int) (m : gw_Mem) (h : gw_CI d M_X12_here [gR 117] m (fun v1 m2 => gw_CI d M_X12_letter [gR 117, gI 112, gI 108, gI 111, gI 116] m2 (fun v4 m5 => gw_G M_X12_personClause d QR Γ 26 [some (gR 117), some (gI x1), some (gI (m2 117 13)), some (gI v4), some (gI 0)] [] m5))) : gw_G M_X12_personClause d QR Γ 0 [some (gR 117), some (gI x1), none, none, none] [] m := by
  refine gw_aload_n 1 d_X12_personClause_0 rfl rfl ?_
  refine gw_cVI (a := []) (rest := []) 4 d_X12_personClause_1 rfl ml_12_161 v_X12_here rfl sh_117 rfl rfl rfl h (fun v1 m2 h3 => ?_)
  refine gw_pop 5 d_X12_personClause_4 rfl rfl ?_
  refine gw_aload_n 6 d_X12_personClause_5 rfl rfl ?_
  refine gw_getI 9 d_X12_personClause_6 rfl F_12_154 sh_117 rfl (kz := 13) rfl ?_
  refine gw_istore_n (ls' := [some (gR 117), some (gI x1), some (gI (m2 117 13)), none, none]) 10 d_X12_personClause_9 rfl rfl rfl rfl ?_
  refine gw_aload_n 11 d_X12_personClause_10 rfl rfl ?_
  refine gw_bipush 13 d_X12_personClause_11 rfl rfl (by decide) ?_
  refine gw_bipush 15 d_X12_personClause_13 rfl rfl (by decide) ?_
  refine gw_bipush 17 d_X12_personClause_15 rfl rfl (by decide) ?_
  refine gw_bipush 19 d_X12_personClause_17 rfl rfl (by decide) ?_
  refine gw_cVI (a := [gI 112, gI 108, gI 111, gI 116]) (rest := []) 22 d_X12_personClause_19 rfl ml_12_168 v_X12_letter rfl sh_117 rfl rfl rfl h3 (fun v4 m5 h6 => ?_)
  refine gw_istore_n (ls' := [some (gR 117), some (gI x1), some (gI (m2 117 13)), some (gI v4), none]) 23 d_X12_personClause_22 rfl rfl rfl rfl ?_
  refine gw_iconst 24 d_X12_personClause_23 rfl rfl ?_
  refine gw_istore (ls' := [some (gR 117), some (gI x1), some (gI (m2 117 13)), some (gI v4), some (gI 0)]) 26 d_X12_personClause_24 rfl rfl rfl rfl ?_
  exact h6
set_option maxRecDepth 100000 in
set_option maxHeartbeats 4000000 in
theorem r_X12_personClause_26 {d : Nat} {QR : Option gw_SV → gw_Mem → Prop} {Γ : gw_Ga} (x1 : Int) (x2 : Int) (x3 : Int) (x4 : Int) (m : gw_Mem) (h : ((x1 ≤ x4 → gw_G M_X12_personClause d QR Γ 73 [some (gR 117), some (gI x1), some (gI x2), some (gI x3), some (gI x4)] [] m) ∧ (¬ (x1 ≤ x4) → ((m 117 14 = 0 → ((x3 = 3 → gw_in (gw_w (3 * x4)) 30 ∧ ((m 128 (gw_w (3 * x4)) = 3 → gw_G M_X12_personClause d QR Γ 67 [some (gR 117), some (gI x1), some (gI x2), some (gI x3), some (gI x4)] [] (gw_up (gw_up m 117 14 1) 117 13 x2)) ∧ (¬ (m 128 (gw_w (3 * x4)) = 3) → gw_G M_X12_personClause d QR Γ 67 [some (gR 117), some (gI x1), some (gI x2), some (gI x3), some (gI x4)] [] m))) ∧ (¬ (x3 = 3) → gw_G M_X12_personClause d QR Γ 67 [some (gR 117), some (gI x1), some (gI x2), some (gI x3), some (gI x4)] [] m))) ∧ (¬ (m 117 14 = 0) → gw_G M_X12_personClause d QR Γ 73 [some (gR 117), some (gI x1), some (gI x2), some (gI x3), some (gI x4)] [] m))))) : gw_G M_X12_personClause d QR Γ 26 [some (gR 117), some (gI x1), some (gI x2), some (gI x3), some (gI x4)] [] m := by
  refine gw_iload 28 d_X12_personClause_26 rfl rfl ?_
  refine gw_iload_n 29 d_X12_personClause_28 rfl rfl ?_
  refine gw_icmp_ge 73 32 d_X12_personClause_29 rfl rfl (fun c16 => ?_) (fun c16 => ?_)
  · skip
    exact (h.1 c16)
  · skip
    refine gw_aload_n 33 d_X12_personClause_32 rfl rfl ?_
    refine gw_getI 36 d_X12_personClause_33 rfl F_12_157 sh_117 rfl (kz := 14) rfl ?_
    refine gw_if_ne 73 39 d_X12_personClause_36 rfl rfl (fun c17 => ?_) (fun c17 => ?_)
    · skip
      refine gw_iload_n 40 d_X12_personClause_39 rfl rfl ?_
      refine gw_iconst 41 d_X12_personClause_40 rfl rfl ?_
      refine gw_icmp_ne 67 44 d_X12_personClause_41 rfl rfl (fun c18 => ?_) (fun c18 => ?_)
      · skip
        refine gw_aload_n 45 d_X12_personClause_44 rfl rfl ?_
        refine gw_getR 48 d_X12_personClause_45 rfl F_12_40 sh_117 rfl ?_
        refine gw_iconst 49 d_X12_personClause_48 rfl rfl ?_
        refine gw_iload 51 d_X12_personClause_49 rfl rfl ?_
        refine gw_imul 52 d_X12_personClause_51 rfl  ?_
        refine gw_iaload 53 d_X12_personClause_52 rfl sh_128 (((h.2 c16).1 c17).1 c18).1 ?_
        refine gw_iconst 54 d_X12_personClause_53 rfl rfl ?_
        refine gw_icmp_ne 67 57 d_X12_personClause_54 rfl rfl (fun c19 => ?_) (fun c19 => ?_)
        · skip
          refine gw_aload_n 58 d_X12_personClause_57 rfl rfl ?_
          refine gw_iconst 59 d_X12_personClause_58 rfl rfl ?_
          refine gw_putI 62 d_X12_personClause_59 rfl P_12_157 (Or.inr ⟨rfl, gw_b1⟩) sh_117 rfl (kz := 14) rfl ?_
          refine gw_aload_n 63 d_X12_personClause_62 rfl rfl ?_
          refine gw_iload_n 64 d_X12_personClause_63 rfl rfl ?_
          refine gw_putI 67 d_X12_personClause_64 rfl P_12_154 (Or.inl rfl) sh_117 rfl (kz := 13) rfl ?_
          exact ((((h.2 c16).1 c17).1 c18).2.1 c19)
        · skip
          exact ((((h.2 c16).1 c17).1 c18).2.2 c19)
      · skip
        exact (((h.2 c16).1 c17).2 c18)
    · skip
      exact ((h.2 c16).2 c17)
set_option maxRecDepth 100000 in
set_option maxHeartbeats 4000000 in
theorem r_X12_personClause_67 {d : Nat} {QR : Option gw_SV → gw_Mem → Prop} {Γ : gw_Ga} (x1 : Int) (x2 : Int) (x3 : Int) (x4 : Int) (m : gw_Mem) (h : gw_G M_X12_personClause d QR Γ 26 [some (gR 117), some (gI x1), some (gI x2), some (gI x3), some (gI (gw_w (x4 + 1)))] [] m) : gw_G M_X12_personClause d QR Γ 67 [some (gR 117), some (gI x1), some (gI x2), some (gI x3), some (gI x4)] [] m := by
  refine gw_iinc (ls' := [some (gR 117), some (gI x1), some (gI x2), some (gI x3), some (gI (gw_w (x4 + 1)))]) 70 d_X12_personClause_67 rfl rfl rfl rfl rfl ?_
  refine gw_goto 26 d_X12_personClause_70 rfl ?_
  exact h
set_option maxRecDepth 100000 in
set_option maxHeartbeats 4000000 in
theorem r_X12_personClause_73 {d : Nat} {QR : Option gw_SV → gw_Mem → Prop} {Γ : gw_Ga} (x1 : Int) (x2 : Int) (x3 : Int) (x4 : Int) (m : gw_Mem) (h : ((m 117 14 = 0 → gw_CI d M_X12_here [gR 117] m (fun v7 m8 => gw_G M_X12_personClause d QR Γ 88 [some (gR 117), some (gI x1), some (gI x2), some (gI x3), some (gI x4)] [gI v7] m8)) ∧ (¬ (m 117 14 = 0) → gw_G M_X12_personClause d QR Γ 88 [some (gR 117), some (gI x1), some (gI x2), some (gI x3), some (gI x4)] [gI 0] m))) : gw_G M_X12_personClause d QR Γ 73 [some (gR 117), some (gI x1), some (gI x2), some (gI x3), some (gI x4)] [] m := by
  refine gw_aload_n 74 d_X12_personClause_73 rfl rfl ?_
  refine gw_getI 77 d_X12_personClause_74 rfl F_12_157 sh_117 rfl (kz := 14) rfl ?_
  refine gw_if_eq 84 80 d_X12_personClause_77 rfl rfl (fun c20 => ?_) (fun c20 => ?_)
  · skip
    refine gw_aload_n 85 d_X12_personClause_84 rfl rfl ?_
    refine gw_cVI (a := []) (rest := []) 88 d_X12_personClause_85 rfl ml_12_161 v_X12_here rfl sh_117 rfl rfl rfl (h.1 c20) (fun v7 m8 h9 => ?_)
    exact h9
  · skip
    refine gw_iconst 81 d_X12_personClause_80 rfl rfl ?_
    refine gw_goto 88 d_X12_personClause_81 rfl ?_
    exact (h.2 c20)
set_option maxRecDepth 100000 in
set_option maxHeartbeats 4000000 in
theorem r_X12_personClause_88 {d : Nat} {QR : Option gw_SV → gw_Mem → Prop} {Γ : gw_Ga} (x1 : Int) (x2 : Int) (x3 : Int) (x4 : Int) (z0 : Int) (m : gw_Mem) (h : ((m 117 14 = 0 → gw_CI d M_X12_in [gL z0, gL 49, gL 52] m (fun v10 m11 => gw_G M_X12_personClause d QR Γ 118 [some (gR 117), some (gI x1), some (gI x2), some (gI x3), some (gI z0)] [gI (if v10 = 0 then (1 : Int) else (0 : Int)), gR 117] m11)) ∧ (¬ (m 117 14 = 0) → gw_G M_X12_personClause d QR Γ 118 [some (gR 117), some (gI x1), some (gI x2), some (gI x3), some (gI z0)] [gI 1, gR 117] m))) : gw_G M_X12_personClause d QR Γ 88 [some (gR 117), some (gI x1), some (gI x2), some (gI x3), some (gI x4)] [gI z0] m := by
  refine gw_istore (ls' := [some (gR 117), some (gI x1), some (gI x2), some (gI x3), some (gI z0)]) 90 d_X12_personClause_88 rfl rfl rfl rfl ?_
  refine gw_aload_n 91 d_X12_personClause_90 rfl rfl ?_
  refine gw_aload_n 92 d_X12_personClause_91 rfl rfl ?_
  refine gw_getI 95 d_X12_personClause_92 rfl F_12_157 sh_117 rfl (kz := 14) rfl ?_
  refine gw_if_ne 113 98 d_X12_personClause_95 rfl rfl (fun c21 => ?_) (fun c21 => ?_)
  · skip
    refine gw_iload 100 d_X12_personClause_98 rfl rfl ?_
    refine gw_i2lR 101 d_X12_personClause_100 rfl  ?_
    refine gw_ldc2 104 d_X12_personClause_101 rfl ct_12_178 (n := 49) (gw_rb_inL (gw_rb_in rfl)) (by decide) ?_
    refine gw_ldc2 107 d_X12_personClause_104 rfl ct_12_180 (n := 52) (gw_rb_inL (gw_rb_in rfl)) (by decide) ?_
    refine gw_cSI (a := [gL z0, gL 49, gL 52]) (rest := [gR 117]) 110 d_X12_personClause_107 rfl ml_12_98 v_X12_in rfl rfl rfl (h.1 c21) (fun v10 m11 h12 => ?_)
    have j22 : gw_G M_X12_personClause d QR Γ 118 [some (gR 117), some (gI x1), some (gI x2), some (gI x3), some (gI z0)] [gI (if v10 = 0 then (1 : Int) else (0 : Int)), gR 117] m11 := by
      exact h12
    refine gw_if_ne 117 113 d_X12_personClause_110 rfl rfl (fun c23 => ?_) (fun c23 => ?_)
    · skip
      refine gw_iconst 114 d_X12_personClause_113 rfl rfl ?_
      refine gw_goto 118 d_X12_personClause_114 rfl ?_
      simpa only [if_pos c23] using j22
    · skip
      refine gw_iconst 118 d_X12_personClause_117 rfl rfl ?_
      simpa only [if_neg c23] using j22
  · skip
    refine gw_iconst 114 d_X12_personClause_113 rfl rfl ?_
    refine gw_goto 118 d_X12_personClause_114 rfl ?_
    exact (h.2 c21)
set_option maxRecDepth 100000 in
set_option maxHeartbeats 4000000 in
theorem r_X12_personClause_118 {d : Nat} {QR : Option gw_SV → gw_Mem → Prop} {Γ : gw_Ga} (x1 : Int) (x2 : Int) (x3 : Int) (x4 : Int) (z0 : Int) (m : gw_Mem) (h : gw_b z0 ∧ gw_in (gw_w (3 * x1)) 30 ∧ gw_in (gw_w ((gw_w (3 * x1)) + 1)) 30 ∧ gw_CI d M_X12_has [gR 117, gI 101] (gw_up (gw_up (gw_up (gw_up m 117 14 z0) 117 13 (gw_w (((gw_up m 117 14 z0) 117 13) + (if (gw_up m 117 14 z0) 117 14 = 0 then (1 : Int) else (0 : Int))))) 128 (gw_w (3 * x1)) x3) 128 (gw_w ((gw_w (3 * x1)) + 1)) (gw_w (x4 - 48))) (fun v13 m14 => gw_in (gw_w ((gw_w (3 * x1)) + 2)) 30 ∧ QR none (gw_up m14 128 (gw_w ((gw_w (3 * x1)) + 2)) (if v13 = 0 then (0 : Int) else (1 : Int))))) : gw_G M_X12_personClause d QR Γ 118 [some (gR 117), some (gI x1), some (gI x2), some (gI x3), some (gI x4)] [gI z0, gR 117] m := by
  refine gw_putI 121 d_X12_personClause_118 rfl P_12_157 (Or.inr ⟨rfl, h.1⟩) sh_117 rfl (kz := 14) rfl ?_
  refine gw_aload_n 122 d_X12_personClause_121 rfl rfl ?_
  refine gw_dup 123 d_X12_personClause_122 rfl rfl ?_
  refine gw_getI 126 d_X12_personClause_123 rfl F_12_154 sh_117 rfl (kz := 13) rfl ?_
  refine gw_aload_n 127 d_X12_personClause_126 rfl rfl ?_
  refine gw_getI 130 d_X12_personClause_127 rfl F_12_157 sh_117 rfl (kz := 14) rfl ?_
  have j24 : gw_G M_X12_personClause d QR Γ 138 [some (gR 117), some (gI x1), some (gI x2), some (gI x3), some (gI x4)] [gI (if (gw_up m 117 14 z0) 117 14 = 0 then (1 : Int) else (0 : Int)), gI ((gw_up m 117 14 z0) 117 13), gR 117] (gw_up m 117 14 z0) := by
    refine gw_iadd 139 d_X12_personClause_138 rfl  ?_
    refine gw_putI 142 d_X12_personClause_139 rfl P_12_154 (Or.inl rfl) sh_117 rfl (kz := 13) rfl ?_
    refine gw_aload_n 143 d_X12_personClause_142 rfl rfl ?_
    refine gw_getR 146 d_X12_personClause_143 rfl F_12_40 sh_117 rfl ?_
    refine gw_iconst 147 d_X12_personClause_146 rfl rfl ?_
    refine gw_iload_n 148 d_X12_personClause_147 rfl rfl ?_
    refine gw_imul 149 d_X12_personClause_148 rfl  ?_
    refine gw_iload_n 150 d_X12_personClause_149 rfl rfl ?_
    refine gw_iastore 151 d_X12_personClause_150 rfl sh_128 h.2.1 ?_
    refine gw_aload_n 152 d_X12_personClause_151 rfl rfl ?_
    refine gw_getR 155 d_X12_personClause_152 rfl F_12_40 sh_117 rfl ?_
    refine gw_iconst 156 d_X12_personClause_155 rfl rfl ?_
    refine gw_iload_n 157 d_X12_personClause_156 rfl rfl ?_
    refine gw_imul 158 d_X12_personClause_157 rfl  ?_
    refine gw_iconst 159 d_X12_personClause_158 rfl rfl ?_
    refine gw_iadd 160 d_X12_personClause_159 rfl  ?_
    refine gw_iload 162 d_X12_personClause_160 rfl rfl ?_
    refine gw_bipush 164 d_X12_personClause_162 rfl rfl (by decide) ?_
    refine gw_isub 165 d_X12_personClause_164 rfl  ?_
    refine gw_iastore 166 d_X12_personClause_165 rfl sh_128 h.2.2.1 ?_
    refine gw_aload_n 167 d_X12_personClause_166 rfl rfl ?_
    refine gw_getR 170 d_X12_personClause_167 rfl F_12_40 sh_117 rfl ?_
    refine gw_iconst 171 d_X12_personClause_170 rfl rfl ?_
    refine gw_iload_n 172 d_X12_personClause_171 rfl rfl ?_
    refine gw_imul 173 d_X12_personClause_172 rfl  ?_
    refine gw_iconst 174 d_X12_personClause_173 rfl rfl ?_
    refine gw_iadd 175 d_X12_personClause_174 rfl  ?_
    refine gw_aload_n 176 d_X12_personClause_175 rfl rfl ?_
    refine gw_bipush 178 d_X12_personClause_176 rfl rfl (by decide) ?_
    refine gw_cVI (a := [gI 101]) (rest := [gI (gw_w ((gw_w (3 * x1)) + 2)), gR 128]) 181 d_X12_personClause_178 rfl ml_12_175 v_X12_has rfl sh_117 rfl rfl rfl h.2.2.2 (fun v13 m14 h15 => ?_)
    have j26 : gw_G M_X12_personClause d QR Γ 189 [some (gR 117), some (gI x1), some (gI x2), some (gI x3), some (gI x4)] [gI (if v13 = 0 then (0 : Int) else (1 : Int)), gI (gw_w ((gw_w (3 * x1)) + 2)), gR 128] m14 := by
      refine gw_iastore 190 d_X12_personClause_189 rfl sh_128 h15.1 ?_
      exact gw_return d_X12_personClause_190 rfl h15.2
    refine gw_if_eq 188 184 d_X12_personClause_181 rfl rfl (fun c27 => ?_) (fun c27 => ?_)
    · skip
      refine gw_iconst 189 d_X12_personClause_188 rfl rfl ?_
      simpa only [if_pos c27] using j26
    · skip
      refine gw_iconst 185 d_X12_personClause_184 rfl rfl ?_
      refine gw_goto 189 d_X12_personClause_185 rfl ?_
      simpa only [if_neg c27] using j26
  refine gw_if_eq 137 133 d_X12_personClause_130 rfl rfl (fun c25 => ?_) (fun c25 => ?_)
  · skip
    refine gw_iconst 138 d_X12_personClause_137 rfl rfl ?_
    simpa only [if_pos c25] using j24
  · skip
    refine gw_iconst 134 d_X12_personClause_133 rfl rfl ?_
    refine gw_goto 138 d_X12_personClause_134 rfl ?_
    simpa only [if_neg c25] using j24
set_option maxRecDepth 100000 in
set_option maxHeartbeats 4000000 in
theorem r_X12_readAll_0 {d : Nat} {QR : Option gw_SV → gw_Mem → Prop} {Γ : gw_Ga} (x1 : Int) (m : gw_Mem) (h : gw_G M_X12_readAll d QR Γ 14 [some (gR 117), some (gI x1), some (gI 0), some (gI 1)] [] (gw_up (gw_up m 117 13 0) 117 14 0)) : gw_G M_X12_readAll d QR Γ 0 [some (gR 117), some (gI x1), none, none] [] m := by
  refine gw_aload_n 1 d_X12_readAll_0 rfl rfl ?_
  refine gw_iconst 2 d_X12_readAll_1 rfl rfl ?_
  refine gw_putI 5 d_X12_readAll_2 rfl P_12_154 (Or.inl rfl) sh_117 rfl (kz := 13) rfl ?_
  refine gw_aload_n 6 d_X12_readAll_5 rfl rfl ?_
  refine gw_iconst 7 d_X12_readAll_6 rfl rfl ?_
  refine gw_putI 10 d_X12_readAll_7 rfl P_12_157 (Or.inr ⟨rfl, gw_b0⟩) sh_117 rfl (kz := 14) rfl ?_
  refine gw_iconst 11 d_X12_readAll_10 rfl rfl ?_
  refine gw_istore_n (ls' := [some (gR 117), some (gI x1), some (gI 0), none]) 12 d_X12_readAll_11 rfl rfl rfl rfl ?_
  refine gw_iconst 13 d_X12_readAll_12 rfl rfl ?_
  refine gw_istore_n (ls' := [some (gR 117), some (gI x1), some (gI 0), some (gI 1)]) 14 d_X12_readAll_13 rfl rfl rfl rfl ?_
  exact h
set_option maxRecDepth 100000 in
set_option maxHeartbeats 4000000 in
theorem r_X12_readAll_14 {d : Nat} {QR : Option gw_SV → gw_Mem → Prop} {Γ : gw_Ga} (x1 : Int) (x2 : Int) (x3 : Int) (m : gw_Mem) (h : ((x3 = 0 → ((m 117 14 = 0 → gw_CI d M_X12_here [gR 117] m (fun v1 m2 => gw_G M_X12_readAll d QR Γ 100 [some (gR 117), some (gI x1), some (gI x2), some (gI x3)] [gI (if v1 = 0 then (0 : Int) else (1 : Int)), gR 117] m2)) ∧ (¬ (m 117 14 = 0) → gw_G M_X12_readAll d QR Γ 100 [some (gR 117), some (gI x1), some (gI x2), some (gI x3)] [gI 1, gR 117] m))) ∧ (¬ (x3 = 0) → ((x1 = 0 → gw_CV d M_X12_personClause [gR 117, gI x2] m (fun m4 => gw_G M_X12_readAll d QR Γ 35 [some (gR 117), some (gI x1), some (gI x2), some (gI x3)] [] m4)) ∧ (¬ (x1 = 0) → gw_CV d M_X12_markClause [gR 117, gI x2] m (fun m6 => gw_G M_X12_readAll d QR Γ 35 [some (gR 117), some (gI x1), some (gI x2), some (gI x3)] [] m6)))))) : gw_G M_X12_readAll d QR Γ 14 [some (gR 117), some (gI x1), some (gI x2), some (gI x3)] [] m := by
  refine gw_iload_n 15 d_X12_readAll_14 rfl rfl ?_
  refine gw_if_eq 80 18 d_X12_readAll_15 rfl rfl (fun c11 => ?_) (fun c11 => ?_)
  · skip
    refine gw_aload_n 81 d_X12_readAll_80 rfl rfl ?_
    refine gw_aload_n 82 d_X12_readAll_81 rfl rfl ?_
    refine gw_getI 85 d_X12_readAll_82 rfl F_12_157 sh_117 rfl (kz := 14) rfl ?_
    refine gw_if_ne 95 88 d_X12_readAll_85 rfl rfl (fun c12 => ?_) (fun c12 => ?_)
    · skip
      refine gw_aload_n 89 d_X12_readAll_88 rfl rfl ?_
      refine gw_cVI (a := []) (rest := [gR 117]) 92 d_X12_readAll_89 rfl ml_12_161 v_X12_here rfl sh_117 rfl rfl rfl ((h.1 c11).1 c12) (fun v1 m2 h3 => ?_)
      have j13 : gw_G M_X12_readAll d QR Γ 100 [some (gR 117), some (gI x1), some (gI x2), some (gI x3)] [gI (if v1 = 0 then (0 : Int) else (1 : Int)), gR 117] m2 := by
        exact h3
      refine gw_if_eq 99 95 d_X12_readAll_92 rfl rfl (fun c14 => ?_) (fun c14 => ?_)
      · skip
        refine gw_iconst 100 d_X12_readAll_99 rfl rfl ?_
        simpa only [if_pos c14] using j13
      · skip
        refine gw_iconst 96 d_X12_readAll_95 rfl rfl ?_
        refine gw_goto 100 d_X12_readAll_96 rfl ?_
        simpa only [if_neg c14] using j13
    · skip
      refine gw_iconst 96 d_X12_readAll_95 rfl rfl ?_
      refine gw_goto 100 d_X12_readAll_96 rfl ?_
      exact ((h.1 c11).2 c12)
  · skip
    refine gw_iload_n 19 d_X12_readAll_18 rfl rfl ?_
    refine gw_if_eq 30 22 d_X12_readAll_19 rfl rfl (fun c15 => ?_) (fun c15 => ?_)
    · skip
      refine gw_aload_n 31 d_X12_readAll_30 rfl rfl ?_
      refine gw_iload_n 32 d_X12_readAll_31 rfl rfl ?_
      refine gw_cVV (a := [gI x2]) (rest := []) 35 d_X12_readAll_32 rfl ml_12_186 v_X12_personClause rfl sh_117 rfl rfl rfl ((h.2 c11).1 c15) (fun m4 h5 => ?_)
      exact h5
    · skip
      refine gw_aload_n 23 d_X12_readAll_22 rfl rfl ?_
      refine gw_iload_n 24 d_X12_readAll_23 rfl rfl ?_
      refine gw_cVV (a := [gI x2]) (rest := []) 27 d_X12_readAll_24 rfl ml_12_182 v_X12_markClause rfl sh_117 rfl rfl rfl ((h.2 c11).2 c15) (fun m6 h7 => ?_)
      refine gw_goto 35 d_X12_readAll_27 rfl ?_
      exact h7
set_option maxRecDepth 100000 in
set_option maxHeartbeats 4000000 in
theorem r_X12_readAll_35 {d : Nat} {QR : Option gw_SV → gw_Mem → Prop} {Γ : gw_Ga} (x1 : Int) (x2 : Int) (x3 : Int) (m : gw_Mem) (h : (((if x1 = 0 then (10 : Int) else (8 : Int)) ≤ gw_w (x2 + 1) → gw_G M_X12_readAll d QR Γ 76 [some (gR 117), some (gI x1), some (gI (gw_w (x2 + 1))), some (gI x3)] [gI 0] m) ∧ (¬ ((if x1 = 0 then (10 : Int) else (8 : Int)) ≤ gw_w (x2 + 1)) → gw_CI d M_X12_has [gR 117, gI (if x1 = 0 then (44 : Int) else (59 : Int))] m (fun v8 m9 => gw_G M_X12_readAll d QR Γ 76 [some (gR 117), some (gI x1), some (gI (gw_w (x2 + 1))), some (gI x3)] [gI (if v8 = 0 then (0 : Int) else (1 : Int))] m9)))) : gw_G M_X12_readAll d QR Γ 35 [some (gR 117), some (gI x1), some (gI x2), some (gI x3)] [] m := by
  refine gw_iinc (ls' := [some (gR 117), some (gI x1), some (gI (gw_w (x2 + 1))), some (gI x3)]) 38 d_X12_readAll_35 rfl rfl rfl rfl rfl ?_
  refine gw_iload_n 39 d_X12_readAll_38 rfl rfl ?_
  refine gw_iload_n 40 d_X12_readAll_39 rfl rfl ?_
  have j16 : gw_G M_X12_readAll d QR Γ 50 [some (gR 117), some (gI x1), some (gI (gw_w (x2 + 1))), some (gI x3)] [gI (if x1 = 0 then (10 : Int) else (8 : Int)), gI (gw_w (x2 + 1))] m := by
    refine gw_icmp_ge 75 53 d_X12_readAll_50 rfl rfl (fun c18 => ?_) (fun c18 => ?_)
    · skip
      refine gw_iconst 76 d_X12_readAll_75 rfl rfl ?_
      exact (h.1 c18)
    · skip
      refine gw_aload_n 54 d_X12_readAll_53 rfl rfl ?_
      refine gw_iload_n 55 d_X12_readAll_54 rfl rfl ?_
      have j19 : gw_G M_X12_readAll d QR Γ 65 [some (gR 117), some (gI x1), some (gI (gw_w (x2 + 1))), some (gI x3)] [gI (if x1 = 0 then (44 : Int) else (59 : Int)), gR 117] m := by
        refine gw_cVI (a := [gI (if x1 = 0 then (44 : Int) else (59 : Int))]) (rest := []) 68 d_X12_readAll_65 rfl ml_12_175 v_X12_has rfl sh_117 rfl rfl rfl (h.2 c18) (fun v8 m9 h10 => ?_)
        have j21 : gw_G M_X12_readAll d QR Γ 76 [some (gR 117), some (gI x1), some (gI (gw_w (x2 + 1))), some (gI x3)] [gI (if v8 = 0 then (0 : Int) else (1 : Int))] m9 := by
          exact h10
        refine gw_if_eq 75 71 d_X12_readAll_68 rfl rfl (fun c22 => ?_) (fun c22 => ?_)
        · skip
          refine gw_iconst 76 d_X12_readAll_75 rfl rfl ?_
          simpa only [if_pos c22] using j21
        · skip
          refine gw_iconst 72 d_X12_readAll_71 rfl rfl ?_
          refine gw_goto 76 d_X12_readAll_72 rfl ?_
          simpa only [if_neg c22] using j21
      refine gw_if_eq 63 58 d_X12_readAll_55 rfl rfl (fun c20 => ?_) (fun c20 => ?_)
      · skip
        refine gw_bipush 65 d_X12_readAll_63 rfl rfl (by decide) ?_
        simpa only [if_pos c20] using j19
      · skip
        refine gw_bipush 60 d_X12_readAll_58 rfl rfl (by decide) ?_
        refine gw_goto 65 d_X12_readAll_60 rfl ?_
        simpa only [if_neg c20] using j19
  refine gw_if_eq 48 43 d_X12_readAll_40 rfl rfl (fun c17 => ?_) (fun c17 => ?_)
  · skip
    refine gw_bipush 50 d_X12_readAll_48 rfl rfl (by decide) ?_
    simpa only [if_pos c17] using j16
  · skip
    refine gw_bipush 45 d_X12_readAll_43 rfl rfl (by decide) ?_
    refine gw_goto 50 d_X12_readAll_45 rfl ?_
    simpa only [if_neg c17] using j16
set_option maxRecDepth 100000 in
set_option maxHeartbeats 4000000 in
theorem r_X12_readAll_76 {d : Nat} {QR : Option gw_SV → gw_Mem → Prop} {Γ : gw_Ga} (x1 : Int) (x2 : Int) (x3 : Int) (z0 : Int) (m : gw_Mem) (h : gw_G M_X12_readAll d QR Γ 14 [some (gR 117), some (gI x1), some (gI x2), some (gI z0)] [] m) : gw_G M_X12_readAll d QR Γ 76 [some (gR 117), some (gI x1), some (gI x2), some (gI x3)] [gI z0] m := by
  refine gw_istore_n (ls' := [some (gR 117), some (gI x1), some (gI x2), some (gI z0)]) 77 d_X12_readAll_76 rfl rfl rfl rfl ?_
  refine gw_goto 14 d_X12_readAll_77 rfl ?_
  exact h
set_option maxRecDepth 100000 in
set_option maxHeartbeats 4000000 in
theorem r_X12_readAll_100 {d : Nat} {QR : Option gw_SV → gw_Mem → Prop} {Γ : gw_Ga} (x1 : Int) (x2 : Int) (x3 : Int) (z0 : Int) (m : gw_Mem) (h : gw_b z0 ∧ QR (some (gI (if (gw_up (gw_up m 117 14 z0) 117 12 0) 117 14 = 0 then x2 else gw_w ((-20) - ((gw_up (gw_up m 117 14 z0) 117 12 0) 117 13))))) (gw_up (gw_up m 117 14 z0) 117 12 0)) : gw_G M_X12_readAll d QR Γ 100 [some (gR 117), some (gI x1), some (gI x2), some (gI x3)] [gI z0, gR 117] m := by
  refine gw_putI 103 d_X12_readAll_100 rfl P_12_157 (Or.inr ⟨rfl, h.1⟩) sh_117 rfl (kz := 14) rfl ?_
  refine gw_aload_n 104 d_X12_readAll_103 rfl rfl ?_
  refine gw_iconst 105 d_X12_readAll_104 rfl rfl ?_
  refine gw_putI 108 d_X12_readAll_105 rfl P_12_151 (Or.inl rfl) sh_117 rfl (kz := 12) rfl ?_
  refine gw_aload_n 109 d_X12_readAll_108 rfl rfl ?_
  refine gw_getI 112 d_X12_readAll_109 rfl F_12_157 sh_117 rfl (kz := 14) rfl ?_
  have j23 : gw_G M_X12_readAll d QR Γ 126 [some (gR 117), some (gI x1), some (gI x2), some (gI x3)] [gI (if (gw_up (gw_up m 117 14 z0) 117 12 0) 117 14 = 0 then x2 else gw_w ((-20) - ((gw_up (gw_up m 117 14 z0) 117 12 0) 117 13)))] (gw_up (gw_up m 117 14 z0) 117 12 0) := by
    exact gw_ireturn d_X12_readAll_126 (Or.inl rfl) h.2
  refine gw_if_eq 125 115 d_X12_readAll_112 rfl rfl (fun c24 => ?_) (fun c24 => ?_)
  · skip
    refine gw_iload_n 126 d_X12_readAll_125 rfl rfl ?_
    simpa only [if_pos c24] using j23
  · skip
    refine gw_bipush 117 d_X12_readAll_115 rfl rfl (by decide) ?_
    refine gw_aload_n 118 d_X12_readAll_117 rfl rfl ?_
    refine gw_getI 121 d_X12_readAll_118 rfl F_12_154 sh_117 rfl (kz := 13) rfl ?_
    refine gw_isub 122 d_X12_readAll_121 rfl  ?_
    refine gw_goto 126 d_X12_readAll_122 rfl ?_
    simpa only [if_neg c24] using j23
set_option maxRecDepth 100000 in
set_option maxHeartbeats 4000000 in
theorem r_X12_way_0 {d : Nat} {QR : Option gw_SV → gw_Mem → Prop} {Γ : gw_Ga} (m : gw_Mem) (h : gw_CI d M_X12_readAll [gR 117, gI 1] m (fun v1 m2 => gw_G M_X12_way d QR Γ 8 [some (gR 117), some (gI v1), some (gI 0)] [] m2)) : gw_G M_X12_way d QR Γ 0 [some (gR 117), none, none] [] m := by
  refine gw_aload_n 1 d_X12_way_0 rfl rfl ?_
  refine gw_iconst 2 d_X12_way_1 rfl rfl ?_
  refine gw_cVI (a := [gI 1]) (rest := []) 5 d_X12_way_2 rfl ml_12_189 v_X12_readAll rfl sh_117 rfl rfl rfl h (fun v1 m2 h3 => ?_)
  refine gw_istore_n (ls' := [some (gR 117), some (gI v1), none]) 6 d_X12_way_5 rfl rfl rfl rfl ?_
  refine gw_iconst 7 d_X12_way_6 rfl rfl ?_
  refine gw_istore_n (ls' := [some (gR 117), some (gI v1), some (gI 0)]) 8 d_X12_way_7 rfl rfl rfl rfl ?_
  exact h3
set_option maxRecDepth 100000 in
set_option maxHeartbeats 4000000 in
theorem r_X12_way_8 {d : Nat} {QR : Option gw_SV → gw_Mem → Prop} {Γ : gw_Ga} (x1 : Int) (x2 : Int) (m : gw_Mem) (h : ((4 ≤ x2 → gw_G M_X12_way d QR Γ 30 [some (gR 117), some (gI x1), some (gI x2)] [] m) ∧ (¬ (4 ≤ x2) → ((x1 ≤ 0 → gw_G M_X12_way d QR Γ 30 [some (gR 117), some (gI x1), some (gI x2)] [] m) ∧ (¬ (x1 ≤ 0) → gw_in x2 4 ∧ gw_G M_X12_way d QR Γ 8 [some (gR 117), some (gI x1), some (gI (gw_w (x2 + 1)))] [] (gw_up m 118 x2 0)))))) : gw_G M_X12_way d QR Γ 8 [some (gR 117), some (gI x1), some (gI x2)] [] m := by
  refine gw_iload_n 9 d_X12_way_8 rfl rfl ?_
  refine gw_iconst 10 d_X12_way_9 rfl rfl ?_
  refine gw_icmp_ge 30 13 d_X12_way_10 rfl rfl (fun c7 => ?_) (fun c7 => ?_)
  · skip
    exact (h.1 c7)
  · skip
    refine gw_iload_n 14 d_X12_way_13 rfl rfl ?_
    refine gw_if_le 30 17 d_X12_way_14 rfl rfl (fun c8 => ?_) (fun c8 => ?_)
    · skip
      exact ((h.2 c7).1 c8)
    · skip
      refine gw_aload_n 18 d_X12_way_17 rfl rfl ?_
      refine gw_getR 21 d_X12_way_18 rfl F_12_7 sh_117 rfl ?_
      refine gw_iload_n 22 d_X12_way_21 rfl rfl ?_
      refine gw_iconst 23 d_X12_way_22 rfl rfl ?_
      refine gw_iastore 24 d_X12_way_23 rfl sh_118 ((h.2 c7).2 c8).1 ?_
      refine gw_iinc (ls' := [some (gR 117), some (gI x1), some (gI (gw_w (x2 + 1)))]) 27 d_X12_way_24 rfl rfl rfl rfl rfl ?_
      refine gw_goto 8 d_X12_way_27 rfl ?_
      exact ((h.2 c7).2 c8).2
set_option maxRecDepth 100000 in
set_option maxHeartbeats 4000000 in
theorem r_X12_way_30 {d : Nat} {QR : Option gw_SV → gw_Mem → Prop} {Γ : gw_Ga} (x1 : Int) (x2 : Int) (m : gw_Mem) (h : gw_G M_X12_way d QR Γ 32 [some (gR 117), some (gI x1), some (gI 0)] [] m) : gw_G M_X12_way d QR Γ 30 [some (gR 117), some (gI x1), some (gI x2)] [] m := by
  refine gw_iconst 31 d_X12_way_30 rfl rfl ?_
  refine gw_istore_n (ls' := [some (gR 117), some (gI x1), some (gI 0)]) 32 d_X12_way_31 rfl rfl rfl rfl ?_
  exact h
set_option maxRecDepth 100000 in
set_option maxHeartbeats 4000000 in
theorem r_X12_way_32 {d : Nat} {QR : Option gw_SV → gw_Mem → Prop} {Γ : gw_Ga} (x1 : Int) (x2 : Int) (m : gw_Mem) (h : ((x1 ≤ x2 → QR (some (gI x1)) m) ∧ (¬ (x1 ≤ x2) → gw_in (gw_w (3 * x2)) 30 ∧ gw_in (gw_w ((gw_w (3 * x2)) + 1)) 30 ∧ gw_in (gw_w ((gw_w (3 * x2)) + 2)) 30 ∧ gw_CI d M_X12_comes [gR 117, gI (m 128 (gw_w (3 * x2))), gI (m 128 (gw_w ((gw_w (3 * x2)) + 1))), gI (m 128 (gw_w ((gw_w (3 * x2)) + 2)))] m (fun v4 m5 => gw_G M_X12_way d QR Γ 32 [some (gR 117), some (gI x1), some (gI (gw_w (x2 + 1)))] [] m5)))) : gw_G M_X12_way d QR Γ 32 [some (gR 117), some (gI x1), some (gI x2)] [] m := by
  refine gw_iload_n 33 d_X12_way_32 rfl rfl ?_
  refine gw_iload_n 34 d_X12_way_33 rfl rfl ?_
  refine gw_icmp_ge 76 37 d_X12_way_34 rfl rfl (fun c9 => ?_) (fun c9 => ?_)
  · skip
    refine gw_iload_n 77 d_X12_way_76 rfl rfl ?_
    exact gw_ireturn d_X12_way_77 (Or.inl rfl) (h.1 c9)
  · skip
    refine gw_aload_n 38 d_X12_way_37 rfl rfl ?_
    refine gw_aload_n 39 d_X12_way_38 rfl rfl ?_
    refine gw_getR 42 d_X12_way_39 rfl F_12_40 sh_117 rfl ?_
    refine gw_iconst 43 d_X12_way_42 rfl rfl ?_
    refine gw_iload_n 44 d_X12_way_43 rfl rfl ?_
    refine gw_imul 45 d_X12_way_44 rfl  ?_
    refine gw_iaload 46 d_X12_way_45 rfl sh_128 (h.2 c9).1 ?_
    refine gw_aload_n 47 d_X12_way_46 rfl rfl ?_
    refine gw_getR 50 d_X12_way_47 rfl F_12_40 sh_117 rfl ?_
    refine gw_iconst 51 d_X12_way_50 rfl rfl ?_
    refine gw_iload_n 52 d_X12_way_51 rfl rfl ?_
    refine gw_imul 53 d_X12_way_52 rfl  ?_
    refine gw_iconst 54 d_X12_way_53 rfl rfl ?_
    refine gw_iadd 55 d_X12_way_54 rfl  ?_
    refine gw_iaload 56 d_X12_way_55 rfl sh_128 (h.2 c9).2.1 ?_
    refine gw_aload_n 57 d_X12_way_56 rfl rfl ?_
    refine gw_getR 60 d_X12_way_57 rfl F_12_40 sh_117 rfl ?_
    refine gw_iconst 61 d_X12_way_60 rfl rfl ?_
    refine gw_iload_n 62 d_X12_way_61 rfl rfl ?_
    refine gw_imul 63 d_X12_way_62 rfl  ?_
    refine gw_iconst 64 d_X12_way_63 rfl rfl ?_
    refine gw_iadd 65 d_X12_way_64 rfl  ?_
    refine gw_iaload 66 d_X12_way_65 rfl sh_128 (h.2 c9).2.2.1 ?_
    refine gw_cVI (a := [gI (m 128 (gw_w (3 * x2))), gI (m 128 (gw_w ((gw_w (3 * x2)) + 1))), gI (m 128 (gw_w ((gw_w (3 * x2)) + 2)))]) (rest := []) 69 d_X12_way_66 rfl ml_12_116 v_X12_comes rfl sh_117 rfl rfl rfl (h.2 c9).2.2.2 (fun v4 m5 h6 => ?_)
    refine gw_pop 70 d_X12_way_69 rfl rfl ?_
    refine gw_iinc (ls' := [some (gR 117), some (gI x1), some (gI (gw_w (x2 + 1)))]) 73 d_X12_way_70 rfl rfl rfl rfl rfl ?_
    refine gw_goto 32 d_X12_way_73 rfl ?_
    exact h6
set_option maxRecDepth 100000 in
set_option maxHeartbeats 4000000 in
theorem r_X12_group_0 {d : Nat} {QR : Option gw_SV → gw_Mem → Prop} {Γ : gw_Ga} (m : gw_Mem) (h : gw_CI d M_X12_readAll [gR 117, gI 0] m (fun v1 m2 => gw_G M_X12_group d QR Γ 24 [some (gR 117), some (gI v1), some (gI 0)] [] (gw_up m2 117 6 (if v1 ≤ 0 then m2 117 6 else (0 : Int))))) : gw_G M_X12_group d QR Γ 0 [some (gR 117), none, none] [] m := by
  refine gw_aload_n 1 d_X12_group_0 rfl rfl ?_
  refine gw_iconst 2 d_X12_group_1 rfl rfl ?_
  refine gw_cVI (a := [gI 0]) (rest := []) 5 d_X12_group_2 rfl ml_12_189 v_X12_readAll rfl sh_117 rfl rfl rfl h (fun v1 m2 h3 => ?_)
  refine gw_istore_n (ls' := [some (gR 117), some (gI v1), none]) 6 d_X12_group_5 rfl rfl rfl rfl ?_
  refine gw_aload_n 7 d_X12_group_6 rfl rfl ?_
  refine gw_iload_n 8 d_X12_group_7 rfl rfl ?_
  have j7 : gw_G M_X12_group d QR Γ 19 [some (gR 117), some (gI v1), none] [gI (if v1 ≤ 0 then m2 117 6 else (0 : Int)), gR 117] m2 := by
    refine gw_putI 22 d_X12_group_19 rfl P_12_120 (Or.inl rfl) sh_117 rfl (kz := 6) rfl ?_
    refine gw_iconst 23 d_X12_group_22 rfl rfl ?_
    refine gw_istore_n (ls' := [some (gR 117), some (gI v1), some (gI 0)]) 24 d_X12_group_23 rfl rfl rfl rfl ?_
    exact h3
  refine gw_if_le 15 11 d_X12_group_8 rfl rfl (fun c8 => ?_) (fun c8 => ?_)
  · skip
    refine gw_aload_n 16 d_X12_group_15 rfl rfl ?_
    refine gw_getI 19 d_X12_group_16 rfl F_12_120 sh_117 rfl (kz := 6) rfl ?_
    simpa only [if_pos c8] using j7
  · skip
    refine gw_iconst 12 d_X12_group_11 rfl rfl ?_
    refine gw_goto 19 d_X12_group_12 rfl ?_
    simpa only [if_neg c8] using j7
set_option maxRecDepth 100000 in
set_option maxHeartbeats 4000000 in
theorem r_X12_group_24 {d : Nat} {QR : Option gw_SV → gw_Mem → Prop} {Γ : gw_Ga} (x1 : Int) (x2 : Int) (m : gw_Mem) (h : ((x1 ≤ x2 → QR (some (gI x1)) m) ∧ (¬ (x1 ≤ x2) → gw_in (gw_w (3 * x2)) 30 ∧ gw_in (gw_w ((gw_w (3 * x2)) + 1)) 30 ∧ gw_in (gw_w ((gw_w (3 * x2)) + 2)) 30 ∧ gw_CI d M_X12_joins [gR 117, gI (m 128 (gw_w (3 * x2))), gI (m 128 (gw_w ((gw_w (3 * x2)) + 1))), gI (m 128 (gw_w ((gw_w (3 * x2)) + 2)))] m (fun v4 m5 => gw_G M_X12_group d QR Γ 24 [some (gR 117), some (gI x1), some (gI (gw_w (x2 + 1)))] [] m5)))) : gw_G M_X12_group d QR Γ 24 [some (gR 117), some (gI x1), some (gI x2)] [] m := by
  refine gw_iload_n 25 d_X12_group_24 rfl rfl ?_
  refine gw_iload_n 26 d_X12_group_25 rfl rfl ?_
  refine gw_icmp_ge 68 29 d_X12_group_26 rfl rfl (fun c9 => ?_) (fun c9 => ?_)
  · skip
    refine gw_iload_n 69 d_X12_group_68 rfl rfl ?_
    exact gw_ireturn d_X12_group_69 (Or.inl rfl) (h.1 c9)
  · skip
    refine gw_aload_n 30 d_X12_group_29 rfl rfl ?_
    refine gw_aload_n 31 d_X12_group_30 rfl rfl ?_
    refine gw_getR 34 d_X12_group_31 rfl F_12_40 sh_117 rfl ?_
    refine gw_iconst 35 d_X12_group_34 rfl rfl ?_
    refine gw_iload_n 36 d_X12_group_35 rfl rfl ?_
    refine gw_imul 37 d_X12_group_36 rfl  ?_
    refine gw_iaload 38 d_X12_group_37 rfl sh_128 (h.2 c9).1 ?_
    refine gw_aload_n 39 d_X12_group_38 rfl rfl ?_
    refine gw_getR 42 d_X12_group_39 rfl F_12_40 sh_117 rfl ?_
    refine gw_iconst 43 d_X12_group_42 rfl rfl ?_
    refine gw_iload_n 44 d_X12_group_43 rfl rfl ?_
    refine gw_imul 45 d_X12_group_44 rfl  ?_
    refine gw_iconst 46 d_X12_group_45 rfl rfl ?_
    refine gw_iadd 47 d_X12_group_46 rfl  ?_
    refine gw_iaload 48 d_X12_group_47 rfl sh_128 (h.2 c9).2.1 ?_
    refine gw_aload_n 49 d_X12_group_48 rfl rfl ?_
    refine gw_getR 52 d_X12_group_49 rfl F_12_40 sh_117 rfl ?_
    refine gw_iconst 53 d_X12_group_52 rfl rfl ?_
    refine gw_iload_n 54 d_X12_group_53 rfl rfl ?_
    refine gw_imul 55 d_X12_group_54 rfl  ?_
    refine gw_iconst 56 d_X12_group_55 rfl rfl ?_
    refine gw_iadd 57 d_X12_group_56 rfl  ?_
    refine gw_iaload 58 d_X12_group_57 rfl sh_128 (h.2 c9).2.2.1 ?_
    refine gw_cVI (a := [gI (m 128 (gw_w (3 * x2))), gI (m 128 (gw_w ((gw_w (3 * x2)) + 1))), gI (m 128 (gw_w ((gw_w (3 * x2)) + 2)))]) (rest := []) 61 d_X12_group_58 rfl ml_12_129 v_X12_joins rfl sh_117 rfl rfl rfl (h.2 c9).2.2.2 (fun v4 m5 h6 => ?_)
    refine gw_pop 62 d_X12_group_61 rfl rfl ?_
    refine gw_iinc (ls' := [some (gR 117), some (gI x1), some (gI (gw_w (x2 + 1)))]) 65 d_X12_group_62 rfl rfl rfl rfl rfl ?_
    refine gw_goto 24 d_X12_group_65 rfl ?_
    exact h6
set_option maxRecDepth 100000 in
set_option maxHeartbeats 4000000 in
theorem r_X12_stopsMet_0 {d : Nat} {QR : Option gw_SV → gw_Mem → Prop} {Γ : gw_Ga} (m : gw_Mem) (h : gw_G M_X12_stopsMet d QR Γ 4 [some (gR 117), some (gI 0), some (gI 0)] [] m) : gw_G M_X12_stopsMet d QR Γ 0 [some (gR 117), none, none] [] m := by
  refine gw_iconst 1 d_X12_stopsMet_0 rfl rfl ?_
  refine gw_istore_n (ls' := [some (gR 117), some (gI 0), none]) 2 d_X12_stopsMet_1 rfl rfl rfl rfl ?_
  refine gw_iconst 3 d_X12_stopsMet_2 rfl rfl ?_
  refine gw_istore_n (ls' := [some (gR 117), some (gI 0), some (gI 0)]) 4 d_X12_stopsMet_3 rfl rfl rfl rfl ?_
  exact h
set_option maxRecDepth 100000 in
set_option maxHeartbeats 4000000 in
theorem r_X12_stopsMet_4 {d : Nat} {QR : Option gw_SV → gw_Mem → Prop} {Γ : gw_Ga} (x1 : Int) (x2 : Int) (m : gw_Mem) (h : ((m 118 0 ≤ x2 → QR (some (gI x1)) m) ∧ (¬ (m 118 0 ≤ x2) → gw_in x2 32 ∧ gw_G M_X12_stopsMet d QR Γ 4 [some (gR 117), some (gI (gw_w (x1 + (if m 117 0 ≤ m 119 x2 then (0 : Int) else (1 : Int))))), some (gI (gw_w (x2 + 1)))] [] m))) : gw_G M_X12_stopsMet d QR Γ 4 [some (gR 117), some (gI x1), some (gI x2)] [] m := by
  refine gw_iload_n 5 d_X12_stopsMet_4 rfl rfl ?_
  refine gw_aload_n 6 d_X12_stopsMet_5 rfl rfl ?_
  refine gw_getR 9 d_X12_stopsMet_6 rfl F_12_7 sh_117 rfl ?_
  refine gw_iconst 10 d_X12_stopsMet_9 rfl rfl ?_
  refine gw_iaload 11 d_X12_stopsMet_10 rfl sh_118 (gw_inN (k := 0) rfl) ?_
  refine gw_icmp_ge 41 14 d_X12_stopsMet_11 rfl rfl (fun c1 => ?_) (fun c1 => ?_)
  · skip
    refine gw_iload_n 42 d_X12_stopsMet_41 rfl rfl ?_
    exact gw_ireturn d_X12_stopsMet_42 (Or.inl rfl) (h.1 c1)
  · skip
    refine gw_iload_n 15 d_X12_stopsMet_14 rfl rfl ?_
    refine gw_aload_n 16 d_X12_stopsMet_15 rfl rfl ?_
    refine gw_getR 19 d_X12_stopsMet_16 rfl F_12_13 sh_117 rfl ?_
    refine gw_iload_n 20 d_X12_stopsMet_19 rfl rfl ?_
    refine gw_iaload 21 d_X12_stopsMet_20 rfl sh_119 (h.2 c1).1 ?_
    refine gw_aload_n 22 d_X12_stopsMet_21 rfl rfl ?_
    refine gw_getI 25 d_X12_stopsMet_22 rfl F_12_88 sh_117 rfl (kz := 0) rfl ?_
    have j2 : gw_G M_X12_stopsMet d QR Γ 33 [some (gR 117), some (gI x1), some (gI x2)] [gI (if m 117 0 ≤ m 119 x2 then (0 : Int) else (1 : Int)), gI x1] m := by
      refine gw_iadd 34 d_X12_stopsMet_33 rfl  ?_
      refine gw_istore_n (ls' := [some (gR 117), some (gI (gw_w (x1 + (if m 117 0 ≤ m 119 x2 then (0 : Int) else (1 : Int))))), some (gI x2)]) 35 d_X12_stopsMet_34 rfl rfl rfl rfl ?_
      refine gw_iinc (ls' := [some (gR 117), some (gI (gw_w (x1 + (if m 117 0 ≤ m 119 x2 then (0 : Int) else (1 : Int))))), some (gI (gw_w (x2 + 1)))]) 38 d_X12_stopsMet_35 rfl rfl rfl rfl rfl ?_
      refine gw_goto 4 d_X12_stopsMet_38 rfl ?_
      exact (h.2 c1).2
    refine gw_icmp_ge 32 28 d_X12_stopsMet_25 rfl rfl (fun c3 => ?_) (fun c3 => ?_)
    · skip
      refine gw_iconst 33 d_X12_stopsMet_32 rfl rfl ?_
      simpa only [if_pos c3] using j2
    · skip
      refine gw_iconst 29 d_X12_stopsMet_28 rfl rfl ?_
      refine gw_goto 33 d_X12_stopsMet_29 rfl ?_
      simpa only [if_neg c3] using j2
set_option maxRecDepth 100000 in
set_option maxHeartbeats 4000000 in
theorem r_X12_count_0 {d : Nat} {QR : Option gw_SV → gw_Mem → Prop} {Γ : gw_Ga} (x1 : Int) (m : gw_Mem) (h : gw_CI d M_X12_in [gL x1, gL 0, gL 3] m (fun v1 m2 => ((v1 = 0 → ((x1 = 4 → QR (some (gI (m2 117 6))) m2) ∧ (¬ (x1 = 4) → ((x1 = 5 → gw_CI d M_X12_stopsMet [gR 117] m2 (fun v4 m5 => QR (some (gI v4)) m5)) ∧ (¬ (x1 = 5) → QR (some (gI (-1))) m2))))) ∧ (¬ (v1 = 0) → gw_in x1 4 ∧ QR (some (gI (m2 118 x1))) m2)))) : gw_G M_X12_count d QR Γ 0 [some (gR 117), some (gI x1)] [] m := by
  refine gw_iload_n 1 d_X12_count_0 rfl rfl ?_
  refine gw_i2lR 2 d_X12_count_1 rfl  ?_
  refine gw_lconst 3 d_X12_count_2 rfl (n := 0) rfl (by decide) ?_
  refine gw_ldc2 6 d_X12_count_3 rfl ct_12_106 (n := 3) (gw_rb_inL (gw_rb_in rfl)) (by decide) ?_
  refine gw_cSI (a := [gL x1, gL 0, gL 3]) (rest := []) 9 d_X12_count_6 rfl ml_12_98 v_X12_in rfl rfl rfl h (fun v1 m2 h3 => ?_)
  refine gw_if_eq 21 12 d_X12_count_9 rfl rfl (fun c7 => ?_) (fun c7 => ?_)
  · skip
    refine gw_iload_n 22 d_X12_count_21 rfl rfl ?_
    refine gw_iconst 23 d_X12_count_22 rfl rfl ?_
    refine gw_icmp_ne 33 26 d_X12_count_23 rfl rfl (fun c8 => ?_) (fun c8 => ?_)
    · skip
      refine gw_aload_n 27 d_X12_count_26 rfl rfl ?_
      refine gw_getI 30 d_X12_count_27 rfl F_12_120 sh_117 rfl (kz := 6) rfl ?_
      refine gw_goto 46 d_X12_count_30 rfl ?_
      exact gw_ireturn d_X12_count_46 (Or.inl rfl) ((h3.1 c7).1 c8)
    · skip
      refine gw_iload_n 34 d_X12_count_33 rfl rfl ?_
      refine gw_iconst 35 d_X12_count_34 rfl rfl ?_
      refine gw_icmp_ne 45 38 d_X12_count_35 rfl rfl (fun c9 => ?_) (fun c9 => ?_)
      · skip
        refine gw_aload_n 39 d_X12_count_38 rfl rfl ?_
        refine gw_cVI (a := []) (rest := []) 42 d_X12_count_39 rfl ml_12_193 v_X12_stopsMet rfl sh_117 rfl rfl rfl (((h3.1 c7).2 c8).1 c9) (fun v4 m5 h6 => ?_)
        refine gw_goto 46 d_X12_count_42 rfl ?_
        exact gw_ireturn d_X12_count_46 (Or.inl rfl) h6
      · skip
        refine gw_iconst 46 d_X12_count_45 rfl rfl ?_
        exact gw_ireturn d_X12_count_46 (Or.inl rfl) (((h3.1 c7).2 c8).2 c9)
  · skip
    refine gw_aload_n 13 d_X12_count_12 rfl rfl ?_
    refine gw_getR 16 d_X12_count_13 rfl F_12_7 sh_117 rfl ?_
    refine gw_iload_n 17 d_X12_count_16 rfl rfl ?_
    refine gw_iaload 18 d_X12_count_17 rfl sh_118 (h3.2 c7).1 ?_
    refine gw_goto 46 d_X12_count_18 rfl ?_
    exact gw_ireturn d_X12_count_46 (Or.inl rfl) (h3.2 c7).2
set_option maxRecDepth 100000 in
set_option maxHeartbeats 4000000 in
theorem r_X12_isLost_0 {d : Nat} {QR : Option gw_SV → gw_Mem → Prop} {Γ : gw_Ga} (x1 : Int) (m : gw_Mem) (h : gw_in x1 10 ∧ QR (some (gI (if m 131 x1 < 0 then (0 : Int) else (1 : Int)))) m) : gw_G M_X12_isLost d QR Γ 0 [some (gR 117), some (gI x1)] [] m := by
  refine gw_aload_n 1 d_X12_isLost_0 rfl rfl ?_
  refine gw_getR 4 d_X12_isLost_1 rfl F_12_49 sh_117 rfl ?_
  refine gw_iload_n 5 d_X12_isLost_4 rfl rfl ?_
  refine gw_iaload 6 d_X12_isLost_5 rfl sh_131 h.1 ?_
  have j1 : gw_G M_X12_isLost d QR Γ 14 [some (gR 117), some (gI x1)] [gI (if m 131 x1 < 0 then (0 : Int) else (1 : Int))] m := by
    exact gw_ireturn d_X12_isLost_14 (Or.inr ⟨rfl, (gw_bi gw_b0 gw_b1)⟩) h.2
  refine gw_if_lt 13 9 d_X12_isLost_6 rfl rfl (fun c2 => ?_) (fun c2 => ?_)
  · skip
    refine gw_iconst 14 d_X12_isLost_13 rfl rfl ?_
    simpa only [if_pos c2] using j1
  · skip
    refine gw_iconst 10 d_X12_isLost_9 rfl rfl ?_
    refine gw_goto 14 d_X12_isLost_10 rfl ?_
    simpa only [if_neg c2] using j1
set_option maxRecDepth 100000 in
set_option maxHeartbeats 4000000 in
theorem r_X12_isNear_0 {d : Nat} {QR : Option gw_SV → gw_Mem → Prop} {Γ : gw_Ga} (x1 : Int) (x2 : Int) (m : gw_Mem) (h : gw_CI d M_X12_isLost [gR 117, gI x1] m (fun v1 m2 => (v1 = 0 → gw_in x1 10) ∧ QR (some (gI (if v1 = 0 then (if gw_w (x2 * (m2 122 4)) < gw_w ((m2 117 16) - (m2 129 x1)) then (0 : Int) else (1 : Int)) else (0 : Int)))) m2)) : gw_G M_X12_isNear d QR Γ 0 [some (gR 117), some (gI x1), some (gI x2)] [] m := by
  refine gw_aload_n 1 d_X12_isNear_0 rfl rfl ?_
  refine gw_iload_n 2 d_X12_isNear_1 rfl rfl ?_
  refine gw_cVI (a := [gI x1]) (rest := []) 5 d_X12_isNear_2 rfl ml_12_196 v_X12_isLost rfl sh_117 rfl rfl rfl h (fun v1 m2 h3 => ?_)
  have j4 : gw_G M_X12_isNear d QR Γ 35 [some (gR 117), some (gI x1), some (gI x2)] [gI (if v1 = 0 then (if gw_w (x2 * (m2 122 4)) < gw_w ((m2 117 16) - (m2 129 x1)) then (0 : Int) else (1 : Int)) else (0 : Int))] m2 := by
    exact gw_ireturn d_X12_isNear_35 (Or.inr ⟨rfl, (gw_bi (gw_bi gw_b0 gw_b1) gw_b0)⟩) h3.2
  refine gw_if_ne 34 8 d_X12_isNear_5 rfl rfl (fun c5 => ?_) (fun c5 => ?_)
  · skip
    refine gw_aload_n 9 d_X12_isNear_8 rfl rfl ?_
    refine gw_getI 12 d_X12_isNear_9 rfl F_12_199 sh_117 rfl (kz := 16) rfl ?_
    refine gw_aload_n 13 d_X12_isNear_12 rfl rfl ?_
    refine gw_getR 16 d_X12_isNear_13 rfl F_12_43 sh_117 rfl ?_
    refine gw_iload_n 17 d_X12_isNear_16 rfl rfl ?_
    refine gw_iaload 18 d_X12_isNear_17 rfl sh_129 (h3.1 c5) ?_
    refine gw_isub 19 d_X12_isNear_18 rfl  ?_
    refine gw_iload_n 20 d_X12_isNear_19 rfl rfl ?_
    refine gw_aload_n 21 d_X12_isNear_20 rfl rfl ?_
    refine gw_getR 24 d_X12_isNear_21 rfl F_12_22 sh_117 rfl ?_
    refine gw_iconst 25 d_X12_isNear_24 rfl rfl ?_
    refine gw_iaload 26 d_X12_isNear_25 rfl sh_122 (gw_inN (k := 4) rfl) ?_
    refine gw_imul 27 d_X12_isNear_26 rfl  ?_
    refine gw_icmp_gt 34 30 d_X12_isNear_27 rfl rfl (fun c6 => ?_) (fun c6 => ?_)
    · skip
      refine gw_iconst 35 d_X12_isNear_34 rfl rfl ?_
      simpa only [if_pos c5, if_pos c6] using j4
    · skip
      refine gw_iconst 31 d_X12_isNear_30 rfl rfl ?_
      refine gw_goto 35 d_X12_isNear_31 rfl ?_
      simpa only [if_pos c5, if_neg c6] using j4
  · skip
    refine gw_iconst 35 d_X12_isNear_34 rfl rfl ?_
    simpa only [if_neg c5] using j4
set_option maxRecDepth 100000 in
set_option maxHeartbeats 4000000 in
theorem r_X12_nearOf_0 {d : Nat} {QR : Option gw_SV → gw_Mem → Prop} {Γ : gw_Ga} (x1 : Int) (m : gw_Mem) (h : gw_G M_X12_nearOf d QR Γ 7 [some (gR 117), some (gI x1), some (gI 0), some (gI 0), some (gI 0)] [] m) : gw_G M_X12_nearOf d QR Γ 0 [some (gR 117), some (gI x1), none, none, none] [] m := by
  refine gw_iconst 1 d_X12_nearOf_0 rfl rfl ?_
  refine gw_istore_n (ls' := [some (gR 117), some (gI x1), some (gI 0), none, none]) 2 d_X12_nearOf_1 rfl rfl rfl rfl ?_
  refine gw_iconst 3 d_X12_nearOf_2 rfl rfl ?_
  refine gw_istore_n (ls' := [some (gR 117), some (gI x1), some (gI 0), some (gI 0), none]) 4 d_X12_nearOf_3 rfl rfl rfl rfl ?_
  refine gw_iconst 5 d_X12_nearOf_4 rfl rfl ?_
  refine gw_istore (ls' := [some (gR 117), some (gI x1), some (gI 0), some (gI 0), some (gI 0)]) 7 d_X12_nearOf_5 rfl rfl rfl rfl ?_
  exact h
set_option maxRecDepth 100000 in
set_option maxHeartbeats 4000000 in
theorem r_X12_nearOf_7 {d : Nat} {QR : Option gw_SV → gw_Mem → Prop} {Γ : gw_Ga} (x1 : Int) (x2 : Int) (x3 : Int) (x4 : Int) (m : gw_Mem) (h : ((m 117 6 ≤ x4 → QR (some (gI (if x1 = 0 then x2 else x3))) m) ∧ (¬ (m 117 6 ≤ x4) → gw_CI d M_X12_isLost [gR 117, gI x4] m (fun v1 m2 => gw_CI d M_X12_isNear [gR 117, gI x4, gI 1] m2 (fun v4 m5 => gw_G M_X12_nearOf d QR Γ 7 [some (gR 117), some (gI x1), some (gI (gw_w (x2 + (if v4 = 0 then (0 : Int) else (1 : Int))))), some (gI (gw_w (x3 + (if v1 = 0 then (1 : Int) else (0 : Int))))), some (gI (gw_w (x4 + 1)))] [] m5))))) : gw_G M_X12_nearOf d QR Γ 7 [some (gR 117), some (gI x1), some (gI x2), some (gI x3), some (gI x4)] [] m := by
  refine gw_iload 9 d_X12_nearOf_7 rfl rfl ?_
  refine gw_aload_n 10 d_X12_nearOf_9 rfl rfl ?_
  refine gw_getI 13 d_X12_nearOf_10 rfl F_12_120 sh_117 rfl (kz := 6) rfl ?_
  refine gw_icmp_ge 57 16 d_X12_nearOf_13 rfl rfl (fun c7 => ?_) (fun c7 => ?_)
  · skip
    refine gw_iload_n 58 d_X12_nearOf_57 rfl rfl ?_
    have j8 : gw_G M_X12_nearOf d QR Γ 66 [some (gR 117), some (gI x1), some (gI x2), some (gI x3), some (gI x4)] [gI (if x1 = 0 then x2 else x3)] m := by
      exact gw_ireturn d_X12_nearOf_66 (Or.inl rfl) (h.1 c7)
    refine gw_if_eq 65 61 d_X12_nearOf_58 rfl rfl (fun c9 => ?_) (fun c9 => ?_)
    · skip
      refine gw_iload_n 66 d_X12_nearOf_65 rfl rfl ?_
      simpa only [if_pos c9] using j8
    · skip
      refine gw_iload_n 62 d_X12_nearOf_61 rfl rfl ?_
      refine gw_goto 66 d_X12_nearOf_62 rfl ?_
      simpa only [if_neg c9] using j8
  · skip
    refine gw_iload_n 17 d_X12_nearOf_16 rfl rfl ?_
    refine gw_aload_n 18 d_X12_nearOf_17 rfl rfl ?_
    refine gw_iload 20 d_X12_nearOf_18 rfl rfl ?_
    refine gw_cVI (a := [gI x4]) (rest := [gI x3]) 23 d_X12_nearOf_20 rfl ml_12_196 v_X12_isLost rfl sh_117 rfl rfl rfl (h.2 c7) (fun v1 m2 h3 => ?_)
    have j10 : gw_G M_X12_nearOf d QR Γ 31 [some (gR 117), some (gI x1), some (gI x2), some (gI x3), some (gI x4)] [gI (if v1 = 0 then (1 : Int) else (0 : Int)), gI x3] m2 := by
      refine gw_iadd 32 d_X12_nearOf_31 rfl  ?_
      refine gw_istore_n (ls' := [some (gR 117), some (gI x1), some (gI x2), some (gI (gw_w (x3 + (if v1 = 0 then (1 : Int) else (0 : Int))))), some (gI x4)]) 33 d_X12_nearOf_32 rfl rfl rfl rfl ?_
      refine gw_iload_n 34 d_X12_nearOf_33 rfl rfl ?_
      refine gw_aload_n 35 d_X12_nearOf_34 rfl rfl ?_
      refine gw_iload 37 d_X12_nearOf_35 rfl rfl ?_
      refine gw_iconst 38 d_X12_nearOf_37 rfl rfl ?_
      refine gw_cVI (a := [gI x4, gI 1]) (rest := [gI x2]) 41 d_X12_nearOf_38 rfl ml_12_202 v_X12_isNear rfl sh_117 rfl rfl rfl h3 (fun v4 m5 h6 => ?_)
      have j12 : gw_G M_X12_nearOf d QR Γ 49 [some (gR 117), some (gI x1), some (gI x2), some (gI (gw_w (x3 + (if v1 = 0 then (1 : Int) else (0 : Int))))), some (gI x4)] [gI (if v4 = 0 then (0 : Int) else (1 : Int)), gI x2] m5 := by
        refine gw_iadd 50 d_X12_nearOf_49 rfl  ?_
        refine gw_istore_n (ls' := [some (gR 117), some (gI x1), some (gI (gw_w (x2 + (if v4 = 0 then (0 : Int) else (1 : Int))))), some (gI (gw_w (x3 + (if v1 = 0 then (1 : Int) else (0 : Int))))), some (gI x4)]) 51 d_X12_nearOf_50 rfl rfl rfl rfl ?_
        refine gw_iinc (ls' := [some (gR 117), some (gI x1), some (gI (gw_w (x2 + (if v4 = 0 then (0 : Int) else (1 : Int))))), some (gI (gw_w (x3 + (if v1 = 0 then (1 : Int) else (0 : Int))))), some (gI (gw_w (x4 + 1)))]) 54 d_X12_nearOf_51 rfl rfl rfl rfl rfl ?_
        refine gw_goto 7 d_X12_nearOf_54 rfl ?_
        exact h6
      refine gw_if_eq 48 44 d_X12_nearOf_41 rfl rfl (fun c13 => ?_) (fun c13 => ?_)
      · skip
        refine gw_iconst 49 d_X12_nearOf_48 rfl rfl ?_
        simpa only [if_pos c13] using j12
      · skip
        refine gw_iconst 45 d_X12_nearOf_44 rfl rfl ?_
        refine gw_goto 49 d_X12_nearOf_45 rfl ?_
        simpa only [if_neg c13] using j12
    refine gw_if_eq 30 26 d_X12_nearOf_23 rfl rfl (fun c11 => ?_) (fun c11 => ?_)
    · skip
      refine gw_iconst 31 d_X12_nearOf_30 rfl rfl ?_
      simpa only [if_pos c11] using j10
    · skip
      refine gw_iconst 27 d_X12_nearOf_26 rfl rfl ?_
      refine gw_goto 31 d_X12_nearOf_27 rfl ?_
      simpa only [if_neg c11] using j10
set_option maxRecDepth 100000 in
set_option maxHeartbeats 4000000 in
theorem r_X12_stopHere_0 {d : Nat} {QR : Option gw_SV → gw_Mem → Prop} {Γ : gw_Ga} (m : gw_Mem) (h : ((m 117 16 < m 117 0 → gw_CI d M_X12_markAt [gR 117, gI 0, gI (m 117 16)] m (fun v1 m2 => gw_G M_X12_stopHere d QR Γ 25 [some (gR 117), none] [gI v1] m2)) ∧ (¬ (m 117 16 < m 117 0) → gw_G M_X12_stopHere d QR Γ 25 [some (gR 117), none] [gI (-4)] m))) : gw_G M_X12_stopHere d QR Γ 0 [some (gR 117), none] [] m := by
  refine gw_aload_n 1 d_X12_stopHere_0 rfl rfl ?_
  refine gw_getI 4 d_X12_stopHere_1 rfl F_12_199 sh_117 rfl (kz := 16) rfl ?_
  refine gw_aload_n 5 d_X12_stopHere_4 rfl rfl ?_
  refine gw_getI 8 d_X12_stopHere_5 rfl F_12_88 sh_117 rfl (kz := 0) rfl ?_
  refine gw_icmp_lt 16 11 d_X12_stopHere_8 rfl rfl (fun c4 => ?_) (fun c4 => ?_)
  · skip
    refine gw_aload_n 17 d_X12_stopHere_16 rfl rfl ?_
    refine gw_iconst 18 d_X12_stopHere_17 rfl rfl ?_
    refine gw_aload_n 19 d_X12_stopHere_18 rfl rfl ?_
    refine gw_getI 22 d_X12_stopHere_19 rfl F_12_199 sh_117 rfl (kz := 16) rfl ?_
    refine gw_cVI (a := [gI 0, gI (m 117 16)]) (rest := []) 25 d_X12_stopHere_22 rfl ml_12_112 v_X12_markAt rfl sh_117 rfl rfl rfl (h.1 c4) (fun v1 m2 h3 => ?_)
    exact h3
  · skip
    refine gw_bipush 13 d_X12_stopHere_11 rfl rfl (by decide) ?_
    refine gw_goto 25 d_X12_stopHere_13 rfl ?_
    exact (h.2 c4)
set_option maxRecDepth 100000 in
set_option maxHeartbeats 4000000 in
theorem r_X12_stopHere_25 {d : Nat} {QR : Option gw_SV → gw_Mem → Prop} {Γ : gw_Ga} (y1 : Option gw_SV) (z0 : Int) (m : gw_Mem) (h : QR (some (gI (if z0 < 0 then (-4 : Int) else (if gw_and (gw_shr (m 117 22) z0) 1 = 0 then z0 else (-4 : Int))))) m) : gw_G M_X12_stopHere d QR Γ 25 [some (gR 117), y1] [gI z0] m := by
  refine gw_istore_n (ls' := [some (gR 117), some (gI z0)]) 26 d_X12_stopHere_25 rfl rfl rfl rfl ?_
  refine gw_iload_n 27 d_X12_stopHere_26 rfl rfl ?_
  have j5 : gw_G M_X12_stopHere d QR Γ 47 [some (gR 117), some (gI z0)] [gI (if z0 < 0 then (-4 : Int) else (if gw_and (gw_shr (m 117 22) z0) 1 = 0 then z0 else (-4 : Int)))] m := by
    exact gw_ireturn d_X12_stopHere_47 (Or.inl rfl) h
  refine gw_if_lt 45 30 d_X12_stopHere_27 rfl rfl (fun c6 => ?_) (fun c6 => ?_)
  · skip
    refine gw_bipush 47 d_X12_stopHere_45 rfl rfl (by decide) ?_
    simpa only [if_pos c6] using j5
  · skip
    refine gw_aload_n 31 d_X12_stopHere_30 rfl rfl ?_
    refine gw_getI 34 d_X12_stopHere_31 rfl F_12_205 sh_117 rfl (kz := 22) rfl ?_
    refine gw_iload_n 35 d_X12_stopHere_34 rfl rfl ?_
    refine gw_ishr 36 d_X12_stopHere_35 rfl  ?_
    refine gw_iconst 37 d_X12_stopHere_36 rfl rfl ?_
    refine gw_iand 38 d_X12_stopHere_37 rfl  ?_
    refine gw_if_ne 45 41 d_X12_stopHere_38 rfl rfl (fun c7 => ?_) (fun c7 => ?_)
    · skip
      refine gw_iload_n 42 d_X12_stopHere_41 rfl rfl ?_
      refine gw_goto 47 d_X12_stopHere_42 rfl ?_
      simpa only [if_neg c6, if_pos c7] using j5
    · skip
      refine gw_bipush 47 d_X12_stopHere_45 rfl rfl (by decide) ?_
      simpa only [if_neg c6, if_neg c7] using j5
set_option maxRecDepth 100000 in
set_option maxHeartbeats 4000000 in
theorem r_X12_isRed_0 {d : Nat} {QR : Option gw_SV → gw_Mem → Prop} {Γ : gw_Ga} (x1 : Int) (x2 : Int) (m : gw_Mem) (h : gw_CI d M_X12_markAt [gR 117, gI 1, gI x1] m (fun v1 m2 => (¬ (v1 < 0) → (¬ (m2 117 0 ≤ x1) → gw_in (gw_w (8 + (if 0 ≤ v1 then v1 else (0 : Int)))) 32 ∧ m2 120 (gw_w (8 + (if 0 ≤ v1 then v1 else (0 : Int)))) ≠ 0 ∧ gw_in (gw_w (8 + (if 0 ≤ v1 then v1 else (0 : Int)))) 32)) ∧ QR (some (gI (if v1 < 0 then (0 : Int) else (if m2 117 0 ≤ x1 then (0 : Int) else (if gw_w ((m2 120 (gw_w (8 + (if 0 ≤ v1 then v1 else (0 : Int))))).tdiv 2) ≤ x2.tmod (m2 120 (gw_w (8 + (if 0 ≤ v1 then v1 else (0 : Int))))) then (0 : Int) else (1 : Int)))))) m2)) : gw_G M_X12_isRed d QR Γ 0 [some (gR 117), some (gI x1), some (gI x2), none] [] m := by
  refine gw_aload_n 1 d_X12_isRed_0 rfl rfl ?_
  refine gw_iconst 2 d_X12_isRed_1 rfl rfl ?_
  refine gw_iload_n 3 d_X12_isRed_2 rfl rfl ?_
  refine gw_cVI (a := [gI 1, gI x1]) (rest := []) 6 d_X12_isRed_3 rfl ml_12_112 v_X12_markAt rfl sh_117 rfl rfl rfl h (fun v1 m2 h3 => ?_)
  refine gw_istore_n (ls' := [some (gR 117), some (gI x1), some (gI x2), some (gI v1)]) 7 d_X12_isRed_6 rfl rfl rfl rfl ?_
  refine gw_iload_n 8 d_X12_isRed_7 rfl rfl ?_
  have j4 : gw_G M_X12_isRed d QR Γ 65 [some (gR 117), some (gI x1), some (gI x2), some (gI v1)] [gI (if v1 < 0 then (0 : Int) else (if m2 117 0 ≤ x1 then (0 : Int) else (if gw_w ((m2 120 (gw_w (8 + (if 0 ≤ v1 then v1 else (0 : Int))))).tdiv 2) ≤ x2.tmod (m2 120 (gw_w (8 + (if 0 ≤ v1 then v1 else (0 : Int))))) then (0 : Int) else (1 : Int))))] m2 := by
    exact gw_ireturn d_X12_isRed_65 (Or.inr ⟨rfl, (gw_bi gw_b0 (gw_bi gw_b0 (gw_bi gw_b0 gw_b1)))⟩) h3.2
  refine gw_if_lt 64 11 d_X12_isRed_8 rfl rfl (fun c5 => ?_) (fun c5 => ?_)
  · skip
    refine gw_iconst 65 d_X12_isRed_64 rfl rfl ?_
    simpa only [if_pos c5] using j4
  · skip
    refine gw_iload_n 12 d_X12_isRed_11 rfl rfl ?_
    refine gw_aload_n 13 d_X12_isRed_12 rfl rfl ?_
    refine gw_getI 16 d_X12_isRed_13 rfl F_12_88 sh_117 rfl (kz := 0) rfl ?_
    refine gw_icmp_ge 64 19 d_X12_isRed_16 rfl rfl (fun c6 => ?_) (fun c6 => ?_)
    · skip
      refine gw_iconst 65 d_X12_isRed_64 rfl rfl ?_
      simpa only [if_neg c5, if_pos c6] using j4
    · skip
      refine gw_iload_n 20 d_X12_isRed_19 rfl rfl ?_
      refine gw_aload_n 21 d_X12_isRed_20 rfl rfl ?_
      refine gw_getR 24 d_X12_isRed_21 rfl F_12_16 sh_117 rfl ?_
      refine gw_bipush 26 d_X12_isRed_24 rfl rfl (by decide) ?_
      refine gw_iload_n 27 d_X12_isRed_26 rfl rfl ?_
      have j7 : gw_G M_X12_isRed d QR Γ 35 [some (gR 117), some (gI x1), some (gI x2), some (gI v1)] [gI (if 0 ≤ v1 then v1 else (0 : Int)), gI 8, gR 120, gI x2] m2 := by
        refine gw_iadd 36 d_X12_isRed_35 rfl  ?_
        refine gw_iaload 37 d_X12_isRed_36 rfl sh_120 ((h3.1 c5) c6).1 ?_
        refine gw_irem 38 d_X12_isRed_37 rfl ((h3.1 c5) c6).2.1 ?_
        refine gw_aload_n 39 d_X12_isRed_38 rfl rfl ?_
        refine gw_getR 42 d_X12_isRed_39 rfl F_12_16 sh_117 rfl ?_
        refine gw_bipush 44 d_X12_isRed_42 rfl rfl (by decide) ?_
        refine gw_iload_n 45 d_X12_isRed_44 rfl rfl ?_
        have j9 : gw_G M_X12_isRed d QR Γ 53 [some (gR 117), some (gI x1), some (gI x2), some (gI v1)] [gI (if 0 ≤ v1 then v1 else (0 : Int)), gI 8, gR 120, gI (x2.tmod (m2 120 (gw_w (8 + (if 0 ≤ v1 then v1 else (0 : Int))))))] m2 := by
          refine gw_iadd 54 d_X12_isRed_53 rfl  ?_
          refine gw_iaload 55 d_X12_isRed_54 rfl sh_120 ((h3.1 c5) c6).2.2 ?_
          refine gw_iconst 56 d_X12_isRed_55 rfl rfl ?_
          refine gw_idiv 57 d_X12_isRed_56 rfl (by decide) ?_
          refine gw_icmp_ge 64 60 d_X12_isRed_57 rfl rfl (fun c11 => ?_) (fun c11 => ?_)
          · skip
            refine gw_iconst 65 d_X12_isRed_64 rfl rfl ?_
            simpa only [if_neg c5, if_neg c6, if_pos c11] using j4
          · skip
            refine gw_iconst 61 d_X12_isRed_60 rfl rfl ?_
            refine gw_goto 65 d_X12_isRed_61 rfl ?_
            simpa only [if_neg c5, if_neg c6, if_neg c11] using j4
        refine gw_if_ge 52 48 d_X12_isRed_45 rfl rfl (fun c10 => ?_) (fun c10 => ?_)
        · skip
          refine gw_iload_n 53 d_X12_isRed_52 rfl rfl ?_
          simpa only [if_pos c10] using j9
        · skip
          refine gw_iconst 49 d_X12_isRed_48 rfl rfl ?_
          refine gw_goto 53 d_X12_isRed_49 rfl ?_
          simpa only [if_neg c10] using j9
      refine gw_if_ge 34 30 d_X12_isRed_27 rfl rfl (fun c8 => ?_) (fun c8 => ?_)
      · skip
        refine gw_iload_n 35 d_X12_isRed_34 rfl rfl ?_
        simpa only [if_pos c8] using j7
      · skip
        refine gw_iconst 31 d_X12_isRed_30 rfl rfl ?_
        refine gw_goto 35 d_X12_isRed_31 rfl ?_
        simpa only [if_neg c8] using j7
set_option maxRecDepth 100000 in
set_option maxHeartbeats 4000000 in
theorem r_X12_isKept_0 {d : Nat} {QR : Option gw_SV → gw_Mem → Prop} {Γ : gw_Ga} (m : gw_Mem) (h : gw_CI d M_X12_stopHere [gR 117] m (fun v1 m2 => ((0 ≤ v1 → ((m2 117 17 = 0 → gw_CI d M_X12_nearOf [gR 117, gI 1] m2 (fun v4 m5 => gw_CI d M_X12_nearOf [gR 117, gI 0] m5 (fun v7 m8 => gw_G M_X12_isKept d QR Γ 97 [some (gR 117), some (gI v1), some (gI v4), some (gI (if v4 ≤ m5 122 1 then v4 else m5 122 1))] [] (gw_up (gw_up m8 117 17 (if (if v4 ≤ m5 122 1 then v4 else m5 122 1) ≤ v7 then (1 : Int) else (if m8 117 18 < m8 122 3 then (0 : Int) else (1 : Int)))) 117 18 (gw_w (((gw_up m8 117 17 (if (if v4 ≤ m5 122 1 then v4 else m5 122 1) ≤ v7 then (1 : Int) else (if m8 117 18 < m8 122 3 then (0 : Int) else (1 : Int)))) 117 18) + (if (gw_up m8 117 17 (if (if v4 ≤ m5 122 1 then v4 else m5 122 1) ≤ v7 then (1 : Int) else (if m8 117 18 < m8 122 3 then (0 : Int) else (1 : Int)))) 117 17 = 0 then (1 : Int) else (0 : Int)))))))) ∧ (¬ (m2 117 17 = 0) → gw_G M_X12_isKept d QR Γ 97 [some (gR 117), some (gI v1), none, none] [] m2))) ∧ (¬ (0 ≤ v1) → QR (some (gI 0)) m2)))) : gw_G M_X12_isKept d QR Γ 0 [some (gR 117), none, none, none] [] m := by
  refine gw_aload_n 1 d_X12_isKept_0 rfl rfl ?_
  refine gw_cVI (a := []) (rest := []) 4 d_X12_isKept_1 rfl ml_12_208 v_X12_stopHere rfl sh_117 rfl rfl rfl h (fun v1 m2 h3 => ?_)
  refine gw_istore_n (ls' := [some (gR 117), some (gI v1), none, none]) 5 d_X12_isKept_4 rfl rfl rfl rfl ?_
  refine gw_iload_n 6 d_X12_isKept_5 rfl rfl ?_
  refine gw_if_ge 11 9 d_X12_isKept_6 rfl rfl (fun c13 => ?_) (fun c13 => ?_)
  · skip
    refine gw_aload_n 12 d_X12_isKept_11 rfl rfl ?_
    refine gw_getI 15 d_X12_isKept_12 rfl F_12_211 sh_117 rfl (kz := 17) rfl ?_
    refine gw_if_ne 97 18 d_X12_isKept_15 rfl rfl (fun c14 => ?_) (fun c14 => ?_)
    · skip
      refine gw_aload_n 19 d_X12_isKept_18 rfl rfl ?_
      refine gw_iconst 20 d_X12_isKept_19 rfl rfl ?_
      refine gw_cVI (a := [gI 1]) (rest := []) 23 d_X12_isKept_20 rfl ml_12_214 v_X12_nearOf rfl sh_117 rfl rfl rfl ((h3.1 c13).1 c14) (fun v4 m5 h6 => ?_)
      refine gw_istore_n (ls' := [some (gR 117), some (gI v1), some (gI v4), none]) 24 d_X12_isKept_23 rfl rfl rfl rfl ?_
      refine gw_aload_n 25 d_X12_isKept_24 rfl rfl ?_
      refine gw_getR 28 d_X12_isKept_25 rfl F_12_22 sh_117 rfl ?_
      refine gw_iconst 29 d_X12_isKept_28 rfl rfl ?_
      refine gw_iaload 30 d_X12_isKept_29 rfl sh_122 (gw_inN (k := 1) rfl) ?_
      refine gw_iload_n 31 d_X12_isKept_30 rfl rfl ?_
      have j15 : gw_G M_X12_isKept d QR Γ 44 [some (gR 117), some (gI v1), some (gI v4), none] [gI (if v4 ≤ m5 122 1 then v4 else m5 122 1)] m5 := by
        refine gw_istore_n (ls' := [some (gR 117), some (gI v1), some (gI v4), some (gI (if v4 ≤ m5 122 1 then v4 else m5 122 1))]) 45 d_X12_isKept_44 rfl rfl rfl rfl ?_
        refine gw_aload_n 46 d_X12_isKept_45 rfl rfl ?_
        refine gw_aload_n 47 d_X12_isKept_46 rfl rfl ?_
        refine gw_iconst 48 d_X12_isKept_47 rfl rfl ?_
        refine gw_cVI (a := [gI 0]) (rest := [gR 117]) 51 d_X12_isKept_48 rfl ml_12_214 v_X12_nearOf rfl sh_117 rfl rfl rfl h6 (fun v7 m8 h9 => ?_)
        refine gw_iload_n 52 d_X12_isKept_51 rfl rfl ?_
        have j17 : gw_G M_X12_isKept d QR Γ 73 [some (gR 117), some (gI v1), some (gI v4), some (gI (if v4 ≤ m5 122 1 then v4 else m5 122 1))] [gI (if (if v4 ≤ m5 122 1 then v4 else m5 122 1) ≤ v7 then (1 : Int) else (if m8 117 18 < m8 122 3 then (0 : Int) else (1 : Int))), gR 117] m8 := by
          refine gw_putI 76 d_X12_isKept_73 rfl P_12_211 (Or.inr ⟨rfl, (gw_bi gw_b1 (gw_bi gw_b0 gw_b1))⟩) sh_117 rfl (kz := 17) rfl ?_
          refine gw_aload_n 77 d_X12_isKept_76 rfl rfl ?_
          refine gw_dup 78 d_X12_isKept_77 rfl rfl ?_
          refine gw_getI 81 d_X12_isKept_78 rfl F_12_217 sh_117 rfl (kz := 18) rfl ?_
          refine gw_aload_n 82 d_X12_isKept_81 rfl rfl ?_
          refine gw_getI 85 d_X12_isKept_82 rfl F_12_211 sh_117 rfl (kz := 17) rfl ?_
          have j19 : gw_G M_X12_isKept d QR Γ 93 [some (gR 117), some (gI v1), some (gI v4), some (gI (if v4 ≤ m5 122 1 then v4 else m5 122 1))] [gI (if (gw_up m8 117 17 (if (if v4 ≤ m5 122 1 then v4 else m5 122 1) ≤ v7 then (1 : Int) else (if m8 117 18 < m8 122 3 then (0 : Int) else (1 : Int)))) 117 17 = 0 then (1 : Int) else (0 : Int)), gI ((gw_up m8 117 17 (if (if v4 ≤ m5 122 1 then v4 else m5 122 1) ≤ v7 then (1 : Int) else (if m8 117 18 < m8 122 3 then (0 : Int) else (1 : Int)))) 117 18), gR 117] (gw_up m8 117 17 (if (if v4 ≤ m5 122 1 then v4 else m5 122 1) ≤ v7 then (1 : Int) else (if m8 117 18 < m8 122 3 then (0 : Int) else (1 : Int)))) := by
            refine gw_iadd 94 d_X12_isKept_93 rfl  ?_
            refine gw_putI 97 d_X12_isKept_94 rfl P_12_217 (Or.inl rfl) sh_117 rfl (kz := 18) rfl ?_
            exact h9
          refine gw_if_eq 92 88 d_X12_isKept_85 rfl rfl (fun c20 => ?_) (fun c20 => ?_)
          · skip
            refine gw_iconst 93 d_X12_isKept_92 rfl rfl ?_
            simpa only [if_pos c20] using j19
          · skip
            refine gw_iconst 89 d_X12_isKept_88 rfl rfl ?_
            refine gw_goto 93 d_X12_isKept_89 rfl ?_
            simpa only [if_neg c20] using j19
        refine gw_icmp_ge 68 55 d_X12_isKept_52 rfl rfl (fun c18 => ?_) (fun c18 => ?_)
        · skip
          refine gw_iconst 69 d_X12_isKept_68 rfl rfl ?_
          refine gw_goto 73 d_X12_isKept_69 rfl ?_
          simpa only [if_pos c18] using j17
        · skip
          refine gw_aload_n 56 d_X12_isKept_55 rfl rfl ?_
          refine gw_getI 59 d_X12_isKept_56 rfl F_12_217 sh_117 rfl (kz := 18) rfl ?_
          refine gw_aload_n 60 d_X12_isKept_59 rfl rfl ?_
          refine gw_getR 63 d_X12_isKept_60 rfl F_12_22 sh_117 rfl ?_
          refine gw_iconst 64 d_X12_isKept_63 rfl rfl ?_
          refine gw_iaload 65 d_X12_isKept_64 rfl sh_122 (gw_inN (k := 3) rfl) ?_
          refine gw_icmp_lt 72 68 d_X12_isKept_65 rfl rfl (fun c21 => ?_) (fun c21 => ?_)
          · skip
            refine gw_iconst 73 d_X12_isKept_72 rfl rfl ?_
            simpa only [if_neg c18, if_pos c21] using j17
          · skip
            refine gw_iconst 69 d_X12_isKept_68 rfl rfl ?_
            refine gw_goto 73 d_X12_isKept_69 rfl ?_
            simpa only [if_neg c18, if_neg c21] using j17
      refine gw_icmp_ge 43 34 d_X12_isKept_31 rfl rfl (fun c16 => ?_) (fun c16 => ?_)
      · skip
        refine gw_iload_n 44 d_X12_isKept_43 rfl rfl ?_
        simpa only [if_pos c16] using j15
      · skip
        refine gw_aload_n 35 d_X12_isKept_34 rfl rfl ?_
        refine gw_getR 38 d_X12_isKept_35 rfl F_12_22 sh_117 rfl ?_
        refine gw_iconst 39 d_X12_isKept_38 rfl rfl ?_
        refine gw_iaload 40 d_X12_isKept_39 rfl sh_122 (gw_inN (k := 1) rfl) ?_
        refine gw_goto 44 d_X12_isKept_40 rfl ?_
        simpa only [if_neg c16] using j15
    · skip
      exact ((h3.1 c13).2 c14)
  · skip
    refine gw_iconst 10 d_X12_isKept_9 rfl rfl ?_
    exact gw_ireturn d_X12_isKept_10 (Or.inr ⟨rfl, gw_b0⟩) (h3.2 c13)
set_option maxRecDepth 100000 in
set_option maxHeartbeats 4000000 in
theorem r_X12_isKept_97 {d : Nat} {QR : Option gw_SV → gw_Mem → Prop} {Γ : gw_Ga} (x1 : Int) (y2 : Option gw_SV) (y3 : Option gw_SV) (m : gw_Mem) (h : ((m 117 17 = 0 → QR (some (gI 1)) m) ∧ (¬ (m 117 17 = 0) → gw_in x1 32 ∧ ((m 120 x1 ≤ m 117 19 → ((m 122 2 ≤ m 117 21 → gw_G M_X12_isKept d QR Γ 210 [some (gR 117), some (gI x1), y2, y3] [] m) ∧ (¬ (m 122 2 ≤ m 117 21) → ((m 117 20 < m 122 3 → QR (some (gI 1)) (gw_up m 117 20 (gw_w ((m 117 20) + 1)))) ∧ (¬ (m 117 20 < m 122 3) → gw_G M_X12_isKept d QR Γ 210 [some (gR 117), some (gI x1), y2, y3] [] m))))) ∧ (¬ (m 120 x1 ≤ m 117 19) → gw_G M_X12_isKept d QR Γ 131 [some (gR 117), some (gI x1), some (gI 0), y3] [] (gw_up m 117 19 (gw_w ((m 117 19) + 1)))))))) : gw_G M_X12_isKept d QR Γ 97 [some (gR 117), some (gI x1), y2, y3] [] m := by
  refine gw_aload_n 98 d_X12_isKept_97 rfl rfl ?_
  refine gw_getI 101 d_X12_isKept_98 rfl F_12_211 sh_117 rfl (kz := 17) rfl ?_
  refine gw_if_ne 106 104 d_X12_isKept_101 rfl rfl (fun c22 => ?_) (fun c22 => ?_)
  · skip
    refine gw_iconst 105 d_X12_isKept_104 rfl rfl ?_
    exact gw_ireturn d_X12_isKept_105 (Or.inr ⟨rfl, gw_b1⟩) (h.1 c22)
  · skip
    refine gw_aload_n 107 d_X12_isKept_106 rfl rfl ?_
    refine gw_getI 110 d_X12_isKept_107 rfl F_12_220 sh_117 rfl (kz := 19) rfl ?_
    refine gw_aload_n 111 d_X12_isKept_110 rfl rfl ?_
    refine gw_getR 114 d_X12_isKept_111 rfl F_12_16 sh_117 rfl ?_
    refine gw_iload_n 115 d_X12_isKept_114 rfl rfl ?_
    refine gw_iaload 116 d_X12_isKept_115 rfl sh_120 (h.2 c22).1 ?_
    refine gw_icmp_ge 184 119 d_X12_isKept_116 rfl rfl (fun c23 => ?_) (fun c23 => ?_)
    · skip
      refine gw_aload_n 185 d_X12_isKept_184 rfl rfl ?_
      refine gw_getI 188 d_X12_isKept_185 rfl F_12_223 sh_117 rfl (kz := 21) rfl ?_
      refine gw_aload_n 189 d_X12_isKept_188 rfl rfl ?_
      refine gw_getR 192 d_X12_isKept_189 rfl F_12_22 sh_117 rfl ?_
      refine gw_iconst 193 d_X12_isKept_192 rfl rfl ?_
      refine gw_iaload 194 d_X12_isKept_193 rfl sh_122 (gw_inN (k := 2) rfl) ?_
      refine gw_icmp_ge 210 197 d_X12_isKept_194 rfl rfl (fun c24 => ?_) (fun c24 => ?_)
      · skip
        exact (((h.2 c22).2.1 c23).1 c24)
      · skip
        refine gw_aload_n 198 d_X12_isKept_197 rfl rfl ?_
        refine gw_getI 201 d_X12_isKept_198 rfl F_12_226 sh_117 rfl (kz := 20) rfl ?_
        refine gw_aload_n 202 d_X12_isKept_201 rfl rfl ?_
        refine gw_getR 205 d_X12_isKept_202 rfl F_12_22 sh_117 rfl ?_
        refine gw_iconst 206 d_X12_isKept_205 rfl rfl ?_
        refine gw_iaload 207 d_X12_isKept_206 rfl sh_122 (gw_inN (k := 3) rfl) ?_
        refine gw_icmp_lt 224 210 d_X12_isKept_207 rfl rfl (fun c25 => ?_) (fun c25 => ?_)
        · skip
          refine gw_aload_n 225 d_X12_isKept_224 rfl rfl ?_
          refine gw_dup 226 d_X12_isKept_225 rfl rfl ?_
          refine gw_getI 229 d_X12_isKept_226 rfl F_12_226 sh_117 rfl (kz := 20) rfl ?_
          refine gw_iconst 230 d_X12_isKept_229 rfl rfl ?_
          refine gw_iadd 231 d_X12_isKept_230 rfl  ?_
          refine gw_putI 234 d_X12_isKept_231 rfl P_12_226 (Or.inl rfl) sh_117 rfl (kz := 20) rfl ?_
          refine gw_iconst 235 d_X12_isKept_234 rfl rfl ?_
          exact gw_ireturn d_X12_isKept_235 (Or.inr ⟨rfl, gw_b1⟩) ((((h.2 c22).2.1 c23).2 c24).1 c25)
        · skip
          exact ((((h.2 c22).2.1 c23).2 c24).2 c25)
    · skip
      refine gw_aload_n 120 d_X12_isKept_119 rfl rfl ?_
      refine gw_dup 121 d_X12_isKept_120 rfl rfl ?_
      refine gw_getI 124 d_X12_isKept_121 rfl F_12_220 sh_117 rfl (kz := 19) rfl ?_
      refine gw_iconst 125 d_X12_isKept_124 rfl rfl ?_
      refine gw_iadd 126 d_X12_isKept_125 rfl  ?_
      refine gw_putI 129 d_X12_isKept_126 rfl P_12_220 (Or.inl rfl) sh_117 rfl (kz := 19) rfl ?_
      refine gw_iconst 130 d_X12_isKept_129 rfl rfl ?_
      refine gw_istore_n (ls' := [some (gR 117), some (gI x1), some (gI 0), y3]) 131 d_X12_isKept_130 rfl rfl rfl rfl ?_
      exact ((h.2 c22).2.2 c23)
set_option maxRecDepth 100000 in
set_option maxHeartbeats 4000000 in
theorem r_X12_isKept_131 {d : Nat} {QR : Option gw_SV → gw_Mem → Prop} {Γ : gw_Ga} (x1 : Int) (x2 : Int) (y3 : Option gw_SV) (m : gw_Mem) (h : ((m 117 6 ≤ x2 → QR (some (gI 1)) m) ∧ (¬ (m 117 6 ≤ x2) → gw_in x2 10 ∧ gw_in x2 10 ∧ gw_CI d M_X12_isNear [gR 117, gI x2, gI (if m 125 x2 = 1 then (3 : Int) else (1 : Int))] m (fun v10 m11 => gw_in x2 10 ∧ gw_G M_X12_isKept d QR Γ 131 [some (gR 117), some (gI x1), some (gI (gw_w (x2 + 1))), y3] [] (gw_up m11 132 x2 (gw_w ((m 132 x2) + (if v10 = 0 then (0 : Int) else (1 : Int))))))))) : gw_G M_X12_isKept d QR Γ 131 [some (gR 117), some (gI x1), some (gI x2), y3] [] m := by
  refine gw_iload_n 132 d_X12_isKept_131 rfl rfl ?_
  refine gw_aload_n 133 d_X12_isKept_132 rfl rfl ?_
  refine gw_getI 136 d_X12_isKept_133 rfl F_12_120 sh_117 rfl (kz := 6) rfl ?_
  refine gw_icmp_ge 182 139 d_X12_isKept_136 rfl rfl (fun c26 => ?_) (fun c26 => ?_)
  · skip
    refine gw_iconst 183 d_X12_isKept_182 rfl rfl ?_
    exact gw_ireturn d_X12_isKept_183 (Or.inr ⟨rfl, gw_b1⟩) (h.1 c26)
  · skip
    refine gw_aload_n 140 d_X12_isKept_139 rfl rfl ?_
    refine gw_getR 143 d_X12_isKept_140 rfl F_12_52 sh_117 rfl ?_
    refine gw_iload_n 144 d_X12_isKept_143 rfl rfl ?_
    refine gw_dup2 145 d_X12_isKept_144 rfl rfl rfl ?_
    refine gw_iaload 146 d_X12_isKept_145 rfl sh_132 (h.2 c26).1 ?_
    refine gw_aload_n 147 d_X12_isKept_146 rfl rfl ?_
    refine gw_iload_n 148 d_X12_isKept_147 rfl rfl ?_
    refine gw_aload_n 149 d_X12_isKept_148 rfl rfl ?_
    refine gw_getR 152 d_X12_isKept_149 rfl F_12_31 sh_117 rfl ?_
    refine gw_iload_n 153 d_X12_isKept_152 rfl rfl ?_
    refine gw_iaload 154 d_X12_isKept_153 rfl sh_125 (h.2 c26).2.1 ?_
    refine gw_iconst 155 d_X12_isKept_154 rfl rfl ?_
    have j27 : gw_G M_X12_isKept d QR Γ 163 [some (gR 117), some (gI x1), some (gI x2), y3] [gI (if m 125 x2 = 1 then (3 : Int) else (1 : Int)), gI x2, gR 117, gI (m 132 x2), gI x2, gR 132] m := by
      refine gw_cVI (a := [gI x2, gI (if m 125 x2 = 1 then (3 : Int) else (1 : Int))]) (rest := [gI (m 132 x2), gI x2, gR 132]) 166 d_X12_isKept_163 rfl ml_12_202 v_X12_isNear rfl sh_117 rfl rfl rfl (h.2 c26).2.2 (fun v10 m11 h12 => ?_)
      have j29 : gw_G M_X12_isKept d QR Γ 174 [some (gR 117), some (gI x1), some (gI x2), y3] [gI (if v10 = 0 then (0 : Int) else (1 : Int)), gI (m 132 x2), gI x2, gR 132] m11 := by
        refine gw_iadd 175 d_X12_isKept_174 rfl  ?_
        refine gw_iastore 176 d_X12_isKept_175 rfl sh_132 h12.1 ?_
        refine gw_iinc (ls' := [some (gR 117), some (gI x1), some (gI (gw_w (x2 + 1))), y3]) 179 d_X12_isKept_176 rfl rfl rfl rfl rfl ?_
        refine gw_goto 131 d_X12_isKept_179 rfl ?_
        exact h12.2
      refine gw_if_eq 173 169 d_X12_isKept_166 rfl rfl (fun c30 => ?_) (fun c30 => ?_)
      · skip
        refine gw_iconst 174 d_X12_isKept_173 rfl rfl ?_
        simpa only [if_pos c30] using j29
      · skip
        refine gw_iconst 170 d_X12_isKept_169 rfl rfl ?_
        refine gw_goto 174 d_X12_isKept_170 rfl ?_
        simpa only [if_neg c30] using j29
    refine gw_icmp_ne 162 158 d_X12_isKept_155 rfl rfl (fun c28 => ?_) (fun c28 => ?_)
    · skip
      refine gw_iconst 159 d_X12_isKept_158 rfl rfl ?_
      refine gw_goto 163 d_X12_isKept_159 rfl ?_
      simpa only [if_pos c28] using j27
    · skip
      refine gw_iconst 163 d_X12_isKept_162 rfl rfl ?_
      simpa only [if_neg c28] using j27
set_option maxRecDepth 100000 in
set_option maxHeartbeats 4000000 in
theorem r_X12_isKept_210 {d : Nat} {QR : Option gw_SV → gw_Mem → Prop} {Γ : gw_Ga} (x1 : Int) (y2 : Option gw_SV) (y3 : Option gw_SV) (m : gw_Mem) (h : QR (some (gI 0)) (gw_up m 117 22 (gw_or (m 117 22) (gw_shl 1 x1)))) : gw_G M_X12_isKept d QR Γ 210 [some (gR 117), some (gI x1), y2, y3] [] m := by
  refine gw_aload_n 211 d_X12_isKept_210 rfl rfl ?_
  refine gw_dup 212 d_X12_isKept_211 rfl rfl ?_
  refine gw_getI 215 d_X12_isKept_212 rfl F_12_205 sh_117 rfl (kz := 22) rfl ?_
  refine gw_iconst 216 d_X12_isKept_215 rfl rfl ?_
  refine gw_iload_n 217 d_X12_isKept_216 rfl rfl ?_
  refine gw_ishl 218 d_X12_isKept_217 rfl  ?_
  refine gw_ior 219 d_X12_isKept_218 rfl  ?_
  refine gw_putI 222 d_X12_isKept_219 rfl P_12_205 (Or.inl rfl) sh_117 rfl (kz := 22) rfl ?_
  refine gw_iconst 223 d_X12_isKept_222 rfl rfl ?_
  exact gw_ireturn d_X12_isKept_223 (Or.inr ⟨rfl, gw_b0⟩) h
set_option maxRecDepth 100000 in
set_option maxHeartbeats 4000000 in
theorem r_X12_guideGoes_0 {d : Nat} {QR : Option gw_SV → gw_Mem → Prop} {Γ : gw_Ga} (x1 : Int) (m : gw_Mem) (h : ((m 117 16 = m 117 0 → QR none m) ∧ (¬ (m 117 16 = m 117 0) → gw_CI d M_X12_isKept [gR 117] m (fun v1 m2 => ((v1 = 0 → gw_G M_X12_guideGoes d QR Γ 26 [some (gR 117), some (gI x1), some (gI (m2 117 16)), some (gI 0)] [] m2) ∧ (¬ (v1 = 0) → QR none m2)))))) : gw_G M_X12_guideGoes d QR Γ 0 [some (gR 117), some (gI x1), none, none] [] m := by
  refine gw_aload_n 1 d_X12_guideGoes_0 rfl rfl ?_
  refine gw_getI 4 d_X12_guideGoes_1 rfl F_12_199 sh_117 rfl (kz := 16) rfl ?_
  refine gw_aload_n 5 d_X12_guideGoes_4 rfl rfl ?_
  refine gw_getI 8 d_X12_guideGoes_5 rfl F_12_88 sh_117 rfl (kz := 0) rfl ?_
  refine gw_icmp_eq 18 11 d_X12_guideGoes_8 rfl rfl (fun c10 => ?_) (fun c10 => ?_)
  · skip
    exact gw_return d_X12_guideGoes_18 rfl (h.1 c10)
  · skip
    refine gw_aload_n 12 d_X12_guideGoes_11 rfl rfl ?_
    refine gw_cVI (a := []) (rest := []) 15 d_X12_guideGoes_12 rfl ml_12_229 v_X12_isKept rfl sh_117 rfl rfl rfl (h.2 c10) (fun v1 m2 h3 => ?_)
    refine gw_if_eq 19 18 d_X12_guideGoes_15 rfl rfl (fun c11 => ?_) (fun c11 => ?_)
    · skip
      refine gw_aload_n 20 d_X12_guideGoes_19 rfl rfl ?_
      refine gw_getI 23 d_X12_guideGoes_20 rfl F_12_199 sh_117 rfl (kz := 16) rfl ?_
      refine gw_istore_n (ls' := [some (gR 117), some (gI x1), some (gI (m2 117 16)), none]) 24 d_X12_guideGoes_23 rfl rfl rfl rfl ?_
      refine gw_iconst 25 d_X12_guideGoes_24 rfl rfl ?_
      refine gw_istore_n (ls' := [some (gR 117), some (gI x1), some (gI (m2 117 16)), some (gI 0)]) 26 d_X12_guideGoes_25 rfl rfl rfl rfl ?_
      exact (h3.1 c11)
    · skip
      exact gw_return d_X12_guideGoes_18 rfl (h3.2 c11)
set_option maxRecDepth 100000 in
set_option maxHeartbeats 4000000 in
theorem r_X12_guideGoes_26 {d : Nat} {QR : Option gw_SV → gw_Mem → Prop} {Γ : gw_Ga} (x1 : Int) (x2 : Int) (x3 : Int) (m : gw_Mem) (h : ((m 122 0 ≤ x3 → gw_G M_X12_guideGoes d QR Γ 82 [some (gR 117), some (gI x1), some (gI x2), some (gI x3)] [] m) ∧ (¬ (m 122 0 ≤ x3) → ((m 117 0 ≤ m 117 16 → gw_G M_X12_guideGoes d QR Γ 82 [some (gR 117), some (gI x1), some (gI x2), some (gI x3)] [] m) ∧ (¬ (m 117 0 ≤ m 117 16) → gw_CI d M_X12_stopHere [gR 117] m (fun v4 m5 => ((0 ≤ v4 → gw_G M_X12_guideGoes d QR Γ 82 [some (gR 117), some (gI x1), some (gI x2), some (gI x3)] [] m5) ∧ (¬ (0 ≤ v4) → gw_CI d M_X12_isRed [gR 117, gI (m5 117 16), gI x1] m5 (fun v7 m8 => ((v7 = 0 → gw_G M_X12_guideGoes d QR Γ 26 [some (gR 117), some (gI x1), some (gI x2), some (gI (gw_w (x3 + 1)))] [] (gw_up m8 117 16 (gw_w ((m8 117 16) + 1)))) ∧ (¬ (v7 = 0) → gw_G M_X12_guideGoes d QR Γ 82 [some (gR 117), some (gI x1), some (gI x2), some (gI x3)] [] m8))))))))))) : gw_G M_X12_guideGoes d QR Γ 26 [some (gR 117), some (gI x1), some (gI x2), some (gI x3)] [] m := by
  refine gw_iload_n 27 d_X12_guideGoes_26 rfl rfl ?_
  refine gw_aload_n 28 d_X12_guideGoes_27 rfl rfl ?_
  refine gw_getR 31 d_X12_guideGoes_28 rfl F_12_22 sh_117 rfl ?_
  refine gw_iconst 32 d_X12_guideGoes_31 rfl rfl ?_
  refine gw_iaload 33 d_X12_guideGoes_32 rfl sh_122 (gw_inN (k := 0) rfl) ?_
  refine gw_icmp_ge 82 36 d_X12_guideGoes_33 rfl rfl (fun c12 => ?_) (fun c12 => ?_)
  · skip
    exact (h.1 c12)
  · skip
    refine gw_aload_n 37 d_X12_guideGoes_36 rfl rfl ?_
    refine gw_getI 40 d_X12_guideGoes_37 rfl F_12_199 sh_117 rfl (kz := 16) rfl ?_
    refine gw_aload_n 41 d_X12_guideGoes_40 rfl rfl ?_
    refine gw_getI 44 d_X12_guideGoes_41 rfl F_12_88 sh_117 rfl (kz := 0) rfl ?_
    refine gw_icmp_ge 82 47 d_X12_guideGoes_44 rfl rfl (fun c13 => ?_) (fun c13 => ?_)
    · skip
      exact ((h.2 c12).1 c13)
    · skip
      refine gw_aload_n 48 d_X12_guideGoes_47 rfl rfl ?_
      refine gw_cVI (a := []) (rest := []) 51 d_X12_guideGoes_48 rfl ml_12_208 v_X12_stopHere rfl sh_117 rfl rfl rfl ((h.2 c12).2 c13) (fun v4 m5 h6 => ?_)
      refine gw_if_ge 82 54 d_X12_guideGoes_51 rfl rfl (fun c14 => ?_) (fun c14 => ?_)
      · skip
        exact (h6.1 c14)
      · skip
        refine gw_aload_n 55 d_X12_guideGoes_54 rfl rfl ?_
        refine gw_aload_n 56 d_X12_guideGoes_55 rfl rfl ?_
        refine gw_getI 59 d_X12_guideGoes_56 rfl F_12_199 sh_117 rfl (kz := 16) rfl ?_
        refine gw_iload_n 60 d_X12_guideGoes_59 rfl rfl ?_
        refine gw_cVI (a := [gI (m5 117 16), gI x1]) (rest := []) 63 d_X12_guideGoes_60 rfl ml_12_233 v_X12_isRed rfl sh_117 rfl rfl rfl (h6.2 c14) (fun v7 m8 h9 => ?_)
        refine gw_if_ne 82 66 d_X12_guideGoes_63 rfl rfl (fun c15 => ?_) (fun c15 => ?_)
        · skip
          refine gw_aload_n 67 d_X12_guideGoes_66 rfl rfl ?_
          refine gw_dup 68 d_X12_guideGoes_67 rfl rfl ?_
          refine gw_getI 71 d_X12_guideGoes_68 rfl F_12_199 sh_117 rfl (kz := 16) rfl ?_
          refine gw_iconst 72 d_X12_guideGoes_71 rfl rfl ?_
          refine gw_iadd 73 d_X12_guideGoes_72 rfl  ?_
          refine gw_putI 76 d_X12_guideGoes_73 rfl P_12_199 (Or.inl rfl) sh_117 rfl (kz := 16) rfl ?_
          refine gw_iinc (ls' := [some (gR 117), some (gI x1), some (gI x2), some (gI (gw_w (x3 + 1)))]) 79 d_X12_guideGoes_76 rfl rfl rfl rfl rfl ?_
          refine gw_goto 26 d_X12_guideGoes_79 rfl ?_
          exact (h9.1 c15)
        · skip
          exact (h9.2 c15)
set_option maxRecDepth 100000 in
set_option maxHeartbeats 4000000 in
theorem r_X12_guideGoes_82 {d : Nat} {QR : Option gw_SV → gw_Mem → Prop} {Γ : gw_Ga} (x1 : Int) (x2 : Int) (x3 : Int) (m : gw_Mem) (h : ((m 117 16 = x2 → gw_G M_X12_guideGoes d QR Γ 115 [some (gR 117), some (gI x1), some (gI x2), some (gI x3)] [] m) ∧ (¬ (m 117 16 = x2) → gw_G M_X12_guideGoes d QR Γ 115 [some (gR 117), some (gI x1), some (gI x2), some (gI x3)] [] (gw_up (gw_up (gw_up (gw_up (gw_up m 117 17 0) 117 18 0) 117 19 0) 117 20 0) 117 21 0)))) : gw_G M_X12_guideGoes d QR Γ 82 [some (gR 117), some (gI x1), some (gI x2), some (gI x3)] [] m := by
  refine gw_aload_n 83 d_X12_guideGoes_82 rfl rfl ?_
  refine gw_getI 86 d_X12_guideGoes_83 rfl F_12_199 sh_117 rfl (kz := 16) rfl ?_
  refine gw_iload_n 87 d_X12_guideGoes_86 rfl rfl ?_
  refine gw_icmp_eq 115 90 d_X12_guideGoes_87 rfl rfl (fun c16 => ?_) (fun c16 => ?_)
  · skip
    exact (h.1 c16)
  · skip
    refine gw_aload_n 91 d_X12_guideGoes_90 rfl rfl ?_
    refine gw_iconst 92 d_X12_guideGoes_91 rfl rfl ?_
    refine gw_putI 95 d_X12_guideGoes_92 rfl P_12_211 (Or.inr ⟨rfl, gw_b0⟩) sh_117 rfl (kz := 17) rfl ?_
    refine gw_aload_n 96 d_X12_guideGoes_95 rfl rfl ?_
    refine gw_iconst 97 d_X12_guideGoes_96 rfl rfl ?_
    refine gw_putI 100 d_X12_guideGoes_97 rfl P_12_217 (Or.inl rfl) sh_117 rfl (kz := 18) rfl ?_
    refine gw_aload_n 101 d_X12_guideGoes_100 rfl rfl ?_
    refine gw_iconst 102 d_X12_guideGoes_101 rfl rfl ?_
    refine gw_putI 105 d_X12_guideGoes_102 rfl P_12_220 (Or.inl rfl) sh_117 rfl (kz := 19) rfl ?_
    refine gw_aload_n 106 d_X12_guideGoes_105 rfl rfl ?_
    refine gw_iconst 107 d_X12_guideGoes_106 rfl rfl ?_
    refine gw_putI 110 d_X12_guideGoes_107 rfl P_12_226 (Or.inl rfl) sh_117 rfl (kz := 20) rfl ?_
    refine gw_aload_n 111 d_X12_guideGoes_110 rfl rfl ?_
    refine gw_iconst 112 d_X12_guideGoes_111 rfl rfl ?_
    refine gw_putI 115 d_X12_guideGoes_112 rfl P_12_223 (Or.inl rfl) sh_117 rfl (kz := 21) rfl ?_
    exact (h.2 c16)
set_option maxRecDepth 100000 in
set_option maxHeartbeats 4000000 in
theorem r_X12_guideGoes_115 {d : Nat} {QR : Option gw_SV → gw_Mem → Prop} {Γ : gw_Ga} (x1 : Int) (x2 : Int) (x3 : Int) (m : gw_Mem) (h : QR none (gw_up m 117 29 (if m 117 16 = m 117 0 then x1 else m 117 29))) : gw_G M_X12_guideGoes d QR Γ 115 [some (gR 117), some (gI x1), some (gI x2), some (gI x3)] [] m := by
  refine gw_aload_n 116 d_X12_guideGoes_115 rfl rfl ?_
  refine gw_aload_n 117 d_X12_guideGoes_116 rfl rfl ?_
  refine gw_getI 120 d_X12_guideGoes_117 rfl F_12_199 sh_117 rfl (kz := 16) rfl ?_
  refine gw_aload_n 121 d_X12_guideGoes_120 rfl rfl ?_
  refine gw_getI 124 d_X12_guideGoes_121 rfl F_12_88 sh_117 rfl (kz := 0) rfl ?_
  have j17 : gw_G M_X12_guideGoes d QR Γ 135 [some (gR 117), some (gI x1), some (gI x2), some (gI x3)] [gI (if m 117 16 = m 117 0 then x1 else m 117 29), gR 117] m := by
    refine gw_putI 138 d_X12_guideGoes_135 rfl P_12_236 (Or.inl rfl) sh_117 rfl (kz := 29) rfl ?_
    exact gw_return d_X12_guideGoes_138 rfl h
  refine gw_icmp_ne 131 127 d_X12_guideGoes_124 rfl rfl (fun c18 => ?_) (fun c18 => ?_)
  · skip
    refine gw_iload_n 128 d_X12_guideGoes_127 rfl rfl ?_
    refine gw_goto 135 d_X12_guideGoes_128 rfl ?_
    simpa only [if_pos c18] using j17
  · skip
    refine gw_aload_n 132 d_X12_guideGoes_131 rfl rfl ?_
    refine gw_getI 135 d_X12_guideGoes_132 rfl F_12_236 sh_117 rfl (kz := 29) rfl ?_
    simpa only [if_neg c18] using j17
set_option maxRecDepth 100000 in
set_option maxHeartbeats 4000000 in
theorem r_X12_leastOther_0 {d : Nat} {QR : Option gw_SV → gw_Mem → Prop} {Γ : gw_Ga} (x1 : Int) (m : gw_Mem) (h : gw_G M_X12_leastOther d QR Γ 6 [some (gR 117), some (gI x1), some (gI 1000), some (gI 0)] [] m) : gw_G M_X12_leastOther d QR Γ 0 [some (gR 117), some (gI x1), none, none] [] m := by
  refine gw_sipush 3 d_X12_leastOther_0 rfl rfl (by decide) ?_
  refine gw_istore_n (ls' := [some (gR 117), some (gI x1), some (gI 1000), none]) 4 d_X12_leastOther_3 rfl rfl rfl rfl ?_
  refine gw_iconst 5 d_X12_leastOther_4 rfl rfl ?_
  refine gw_istore_n (ls' := [some (gR 117), some (gI x1), some (gI 1000), some (gI 0)]) 6 d_X12_leastOther_5 rfl rfl rfl rfl ?_
  exact h
set_option maxRecDepth 100000 in
set_option maxHeartbeats 4000000 in
theorem r_X12_leastOther_6 {d : Nat} {QR : Option gw_SV → gw_Mem → Prop} {Γ : gw_Ga} (x1 : Int) (x2 : Int) (x3 : Int) (m : gw_Mem) (h : ((m 117 6 ≤ x3 → QR (some (gI x2)) m) ∧ (¬ (m 117 6 ≤ x3) → ((x3 = x1 → gw_G M_X12_leastOther d QR Γ 47 [some (gR 117), some (gI x1), some (gI x2), some (gI x3)] [gI x2] m) ∧ (¬ (x3 = x1) → gw_CI d M_X12_isLost [gR 117, gI x3] m (fun v1 m2 => (v1 = 0 → gw_in x3 10 ∧ (¬ (x2 ≤ m2 129 x3) → gw_in x3 10)) ∧ gw_G M_X12_leastOther d QR Γ 47 [some (gR 117), some (gI x1), some (gI x2), some (gI x3)] [gI (if v1 = 0 then (if x2 ≤ m2 129 x3 then x2 else m2 129 x3) else x2)] m2)))))) : gw_G M_X12_leastOther d QR Γ 6 [some (gR 117), some (gI x1), some (gI x2), some (gI x3)] [] m := by
  refine gw_iload_n 7 d_X12_leastOther_6 rfl rfl ?_
  refine gw_aload_n 8 d_X12_leastOther_7 rfl rfl ?_
  refine gw_getI 11 d_X12_leastOther_8 rfl F_12_120 sh_117 rfl (kz := 6) rfl ?_
  refine gw_icmp_ge 54 14 d_X12_leastOther_11 rfl rfl (fun c4 => ?_) (fun c4 => ?_)
  · skip
    refine gw_iload_n 55 d_X12_leastOther_54 rfl rfl ?_
    exact gw_ireturn d_X12_leastOther_55 (Or.inl rfl) (h.1 c4)
  · skip
    refine gw_iload_n 15 d_X12_leastOther_14 rfl rfl ?_
    refine gw_iload_n 16 d_X12_leastOther_15 rfl rfl ?_
    refine gw_icmp_eq 46 19 d_X12_leastOther_16 rfl rfl (fun c5 => ?_) (fun c5 => ?_)
    · skip
      refine gw_iload_n 47 d_X12_leastOther_46 rfl rfl ?_
      exact ((h.2 c4).1 c5)
    · skip
      refine gw_aload_n 20 d_X12_leastOther_19 rfl rfl ?_
      refine gw_iload_n 21 d_X12_leastOther_20 rfl rfl ?_
      refine gw_cVI (a := [gI x3]) (rest := []) 24 d_X12_leastOther_21 rfl ml_12_196 v_X12_isLost rfl sh_117 rfl rfl rfl ((h.2 c4).2 c5) (fun v1 m2 h3 => ?_)
      have j6 : gw_G M_X12_leastOther d QR Γ 47 [some (gR 117), some (gI x1), some (gI x2), some (gI x3)] [gI (if v1 = 0 then (if x2 ≤ m2 129 x3 then x2 else m2 129 x3) else x2)] m2 := by
        exact h3.2
      refine gw_if_ne 46 27 d_X12_leastOther_24 rfl rfl (fun c7 => ?_) (fun c7 => ?_)
      · skip
        refine gw_aload_n 28 d_X12_leastOther_27 rfl rfl ?_
        refine gw_getR 31 d_X12_leastOther_28 rfl F_12_43 sh_117 rfl ?_
        refine gw_iload_n 32 d_X12_leastOther_31 rfl rfl ?_
        refine gw_iaload 33 d_X12_leastOther_32 rfl sh_129 (h3.1 c7).1 ?_
        refine gw_iload_n 34 d_X12_leastOther_33 rfl rfl ?_
        refine gw_icmp_ge 46 37 d_X12_leastOther_34 rfl rfl (fun c8 => ?_) (fun c8 => ?_)
        · skip
          refine gw_iload_n 47 d_X12_leastOther_46 rfl rfl ?_
          simpa only [if_pos c7, if_pos c8] using j6
        · skip
          refine gw_aload_n 38 d_X12_leastOther_37 rfl rfl ?_
          refine gw_getR 41 d_X12_leastOther_38 rfl F_12_43 sh_117 rfl ?_
          refine gw_iload_n 42 d_X12_leastOther_41 rfl rfl ?_
          refine gw_iaload 43 d_X12_leastOther_42 rfl sh_129 ((h3.1 c7).2 c8) ?_
          refine gw_goto 47 d_X12_leastOther_43 rfl ?_
          simpa only [if_pos c7, if_neg c8] using j6
      · skip
        refine gw_iload_n 47 d_X12_leastOther_46 rfl rfl ?_
        simpa only [if_neg c7] using j6
set_option maxRecDepth 100000 in
set_option maxHeartbeats 4000000 in
theorem r_X12_leastOther_47 {d : Nat} {QR : Option gw_SV → gw_Mem → Prop} {Γ : gw_Ga} (x1 : Int) (x2 : Int) (x3 : Int) (z0 : Int) (m : gw_Mem) (h : gw_G M_X12_leastOther d QR Γ 6 [some (gR 117), some (gI x1), some (gI z0), some (gI (gw_w (x3 + 1)))] [] m) : gw_G M_X12_leastOther d QR Γ 47 [some (gR 117), some (gI x1), some (gI x2), some (gI x3)] [gI z0] m := by
  refine gw_istore_n (ls' := [some (gR 117), some (gI x1), some (gI z0), some (gI x3)]) 48 d_X12_leastOther_47 rfl rfl rfl rfl ?_
  refine gw_iinc (ls' := [some (gR 117), some (gI x1), some (gI z0), some (gI (gw_w (x3 + 1)))]) 51 d_X12_leastOther_48 rfl rfl rfl rfl rfl ?_
  refine gw_goto 6 d_X12_leastOther_51 rfl ?_
  exact h
set_option maxRecDepth 100000 in
set_option maxHeartbeats 4000000 in
theorem r_X12_losesWay_0 {d : Nat} {QR : Option gw_SV → gw_Mem → Prop} {Γ : gw_Ga} (x1 : Int) (m : gw_Mem) (h : gw_in x1 10 ∧ ((m 123 x1 = 3 → gw_G M_X12_losesWay d QR Γ 26 [some (gR 117), some (gI x1), none, none] [gI (-4)] m) ∧ (¬ (m 123 x1 = 3) → gw_in x1 10 ∧ gw_CI d M_X12_markAt [gR 117, gI 3, gI (m 129 x1)] m (fun v1 m2 => gw_G M_X12_losesWay d QR Γ 26 [some (gR 117), some (gI x1), none, none] [gI v1] m2)))) : gw_G M_X12_losesWay d QR Γ 0 [some (gR 117), some (gI x1), none, none] [] m := by
  refine gw_aload_n 1 d_X12_losesWay_0 rfl rfl ?_
  refine gw_getR 4 d_X12_losesWay_1 rfl F_12_25 sh_117 rfl ?_
  refine gw_iload_n 5 d_X12_losesWay_4 rfl rfl ?_
  refine gw_iaload 6 d_X12_losesWay_5 rfl sh_123 h.1 ?_
  refine gw_iconst 7 d_X12_losesWay_6 rfl rfl ?_
  refine gw_icmp_ne 15 10 d_X12_losesWay_7 rfl rfl (fun c7 => ?_) (fun c7 => ?_)
  · skip
    refine gw_bipush 12 d_X12_losesWay_10 rfl rfl (by decide) ?_
    refine gw_goto 26 d_X12_losesWay_12 rfl ?_
    exact (h.2.1 c7)
  · skip
    refine gw_aload_n 16 d_X12_losesWay_15 rfl rfl ?_
    refine gw_iconst 17 d_X12_losesWay_16 rfl rfl ?_
    refine gw_aload_n 18 d_X12_losesWay_17 rfl rfl ?_
    refine gw_getR 21 d_X12_losesWay_18 rfl F_12_43 sh_117 rfl ?_
    refine gw_iload_n 22 d_X12_losesWay_21 rfl rfl ?_
    refine gw_iaload 23 d_X12_losesWay_22 rfl sh_129 (h.2.2 c7).1 ?_
    refine gw_cVI (a := [gI 3, gI (m 129 x1)]) (rest := []) 26 d_X12_losesWay_23 rfl ml_12_112 v_X12_markAt rfl sh_117 rfl rfl rfl (h.2.2 c7).2 (fun v1 m2 h3 => ?_)
    exact h3
set_option maxRecDepth 100000 in
set_option maxHeartbeats 4000000 in
theorem r_X12_losesWay_26 {d : Nat} {QR : Option gw_SV → gw_Mem → Prop} {Γ : gw_Ga} (x1 : Int) (y2 : Option gw_SV) (y3 : Option gw_SV) (z0 : Int) (m : gw_Mem) (h : gw_CI d M_X12_tail [gR 117] m (fun v4 m5 => (¬ (z0 < 0) → gw_in x1 10 ∧ (¬ (m5 117 0 ≤ m5 129 x1) → gw_in x1 10 ∧ gw_in (gw_w (24 + (if 0 ≤ z0 then z0 else (0 : Int)))) 32 ∧ (¬ (gw_w ((m5 117 16) - (m5 129 x1)) ≤ m5 120 (gw_w (24 + (if 0 ≤ z0 then z0 else (0 : Int))))) → (¬ (v4 < 0) → gw_in (if 0 ≤ v4 then v4 else (0 : Int)) 10 ∧ gw_in x1 10)))) ∧ QR (some (gI (if z0 < 0 then (0 : Int) else (if m5 117 0 ≤ m5 129 x1 then (0 : Int) else (if gw_w ((m5 117 16) - (m5 129 x1)) ≤ m5 120 (gw_w (24 + (if 0 ≤ z0 then z0 else (0 : Int)))) then (0 : Int) else (if v4 < 0 then (1 : Int) else (if m5 129 (if 0 ≤ v4 then v4 else (0 : Int)) ≤ m5 129 x1 then (0 : Int) else (1 : Int)))))))) m5)) : gw_G M_X12_losesWay d QR Γ 26 [some (gR 117), some (gI x1), y2, y3] [gI z0] m := by
  refine gw_istore_n (ls' := [some (gR 117), some (gI x1), some (gI z0), y3]) 27 d_X12_losesWay_26 rfl rfl rfl rfl ?_
  refine gw_aload_n 28 d_X12_losesWay_27 rfl rfl ?_
  refine gw_cVI (a := []) (rest := []) 31 d_X12_losesWay_28 rfl ml_12_125 v_X12_tail rfl sh_117 rfl rfl rfl h (fun v4 m5 h6 => ?_)
  refine gw_istore_n (ls' := [some (gR 117), some (gI x1), some (gI z0), some (gI v4)]) 32 d_X12_losesWay_31 rfl rfl rfl rfl ?_
  refine gw_iload_n 33 d_X12_losesWay_32 rfl rfl ?_
  have j8 : gw_G M_X12_losesWay d QR Γ 112 [some (gR 117), some (gI x1), some (gI z0), some (gI v4)] [gI (if z0 < 0 then (0 : Int) else (if m5 117 0 ≤ m5 129 x1 then (0 : Int) else (if gw_w ((m5 117 16) - (m5 129 x1)) ≤ m5 120 (gw_w (24 + (if 0 ≤ z0 then z0 else (0 : Int)))) then (0 : Int) else (if v4 < 0 then (1 : Int) else (if m5 129 (if 0 ≤ v4 then v4 else (0 : Int)) ≤ m5 129 x1 then (0 : Int) else (1 : Int))))))] m5 := by
    exact gw_ireturn d_X12_losesWay_112 (Or.inr ⟨rfl, (gw_bi gw_b0 (gw_bi gw_b0 (gw_bi gw_b0 (gw_bi gw_b1 (gw_bi gw_b0 gw_b1)))))⟩) h6.2
  refine gw_if_lt 111 36 d_X12_losesWay_33 rfl rfl (fun c9 => ?_) (fun c9 => ?_)
  · skip
    refine gw_iconst 112 d_X12_losesWay_111 rfl rfl ?_
    simpa only [if_pos c9] using j8
  · skip
    refine gw_aload_n 37 d_X12_losesWay_36 rfl rfl ?_
    refine gw_getR 40 d_X12_losesWay_37 rfl F_12_43 sh_117 rfl ?_
    refine gw_iload_n 41 d_X12_losesWay_40 rfl rfl ?_
    refine gw_iaload 42 d_X12_losesWay_41 rfl sh_129 (h6.1 c9).1 ?_
    refine gw_aload_n 43 d_X12_losesWay_42 rfl rfl ?_
    refine gw_getI 46 d_X12_losesWay_43 rfl F_12_88 sh_117 rfl (kz := 0) rfl ?_
    refine gw_icmp_ge 111 49 d_X12_losesWay_46 rfl rfl (fun c10 => ?_) (fun c10 => ?_)
    · skip
      refine gw_iconst 112 d_X12_losesWay_111 rfl rfl ?_
      simpa only [if_neg c9, if_pos c10] using j8
    · skip
      refine gw_aload_n 50 d_X12_losesWay_49 rfl rfl ?_
      refine gw_getI 53 d_X12_losesWay_50 rfl F_12_199 sh_117 rfl (kz := 16) rfl ?_
      refine gw_aload_n 54 d_X12_losesWay_53 rfl rfl ?_
      refine gw_getR 57 d_X12_losesWay_54 rfl F_12_43 sh_117 rfl ?_
      refine gw_iload_n 58 d_X12_losesWay_57 rfl rfl ?_
      refine gw_iaload 59 d_X12_losesWay_58 rfl sh_129 ((h6.1 c9).2 c10).1 ?_
      refine gw_isub 60 d_X12_losesWay_59 rfl  ?_
      refine gw_aload_n 61 d_X12_losesWay_60 rfl rfl ?_
      refine gw_getR 64 d_X12_losesWay_61 rfl F_12_16 sh_117 rfl ?_
      refine gw_bipush 66 d_X12_losesWay_64 rfl rfl (by decide) ?_
      refine gw_iload_n 67 d_X12_losesWay_66 rfl rfl ?_
      have j11 : gw_G M_X12_losesWay d QR Γ 75 [some (gR 117), some (gI x1), some (gI z0), some (gI v4)] [gI (if 0 ≤ z0 then z0 else (0 : Int)), gI 24, gR 120, gI (gw_w ((m5 117 16) - (m5 129 x1)))] m5 := by
        refine gw_iadd 76 d_X12_losesWay_75 rfl  ?_
        refine gw_iaload 77 d_X12_losesWay_76 rfl sh_120 ((h6.1 c9).2 c10).2.1 ?_
        refine gw_icmp_le 111 80 d_X12_losesWay_77 rfl rfl (fun c13 => ?_) (fun c13 => ?_)
        · skip
          refine gw_iconst 112 d_X12_losesWay_111 rfl rfl ?_
          simpa only [if_neg c9, if_neg c10, if_pos c13] using j8
        · skip
          refine gw_iload_n 81 d_X12_losesWay_80 rfl rfl ?_
          refine gw_if_lt 107 84 d_X12_losesWay_81 rfl rfl (fun c14 => ?_) (fun c14 => ?_)
          · skip
            refine gw_iconst 108 d_X12_losesWay_107 rfl rfl ?_
            refine gw_goto 112 d_X12_losesWay_108 rfl ?_
            simpa only [if_neg c9, if_neg c10, if_neg c13, if_pos c14] using j8
          · skip
            refine gw_aload_n 85 d_X12_losesWay_84 rfl rfl ?_
            refine gw_getR 88 d_X12_losesWay_85 rfl F_12_43 sh_117 rfl ?_
            refine gw_iload_n 89 d_X12_losesWay_88 rfl rfl ?_
            have j15 : gw_G M_X12_losesWay d QR Γ 97 [some (gR 117), some (gI x1), some (gI z0), some (gI v4)] [gI (if 0 ≤ v4 then v4 else (0 : Int)), gR 129] m5 := by
              refine gw_iaload 98 d_X12_losesWay_97 rfl sh_129 ((((h6.1 c9).2 c10).2.2 c13) c14).1 ?_
              refine gw_aload_n 99 d_X12_losesWay_98 rfl rfl ?_
              refine gw_getR 102 d_X12_losesWay_99 rfl F_12_43 sh_117 rfl ?_
              refine gw_iload_n 103 d_X12_losesWay_102 rfl rfl ?_
              refine gw_iaload 104 d_X12_losesWay_103 rfl sh_129 ((((h6.1 c9).2 c10).2.2 c13) c14).2 ?_
              refine gw_icmp_le 111 107 d_X12_losesWay_104 rfl rfl (fun c17 => ?_) (fun c17 => ?_)
              · skip
                refine gw_iconst 112 d_X12_losesWay_111 rfl rfl ?_
                simpa only [if_neg c9, if_neg c10, if_neg c13, if_neg c14, if_pos c17] using j8
              · skip
                refine gw_iconst 108 d_X12_losesWay_107 rfl rfl ?_
                refine gw_goto 112 d_X12_losesWay_108 rfl ?_
                simpa only [if_neg c9, if_neg c10, if_neg c13, if_neg c14, if_neg c17] using j8
            refine gw_if_ge 96 92 d_X12_losesWay_89 rfl rfl (fun c16 => ?_) (fun c16 => ?_)
            · skip
              refine gw_iload_n 97 d_X12_losesWay_96 rfl rfl ?_
              simpa only [if_pos c16] using j15
            · skip
              refine gw_iconst 93 d_X12_losesWay_92 rfl rfl ?_
              refine gw_goto 97 d_X12_losesWay_93 rfl ?_
              simpa only [if_neg c16] using j15
      refine gw_if_ge 74 70 d_X12_losesWay_67 rfl rfl (fun c12 => ?_) (fun c12 => ?_)
      · skip
        refine gw_iload_n 75 d_X12_losesWay_74 rfl rfl ?_
        simpa only [if_pos c12] using j11
      · skip
        refine gw_iconst 71 d_X12_losesWay_70 rfl rfl ?_
        refine gw_goto 75 d_X12_losesWay_71 rfl ?_
        simpa only [if_neg c12] using j11
set_option maxRecDepth 100000 in
set_option maxHeartbeats 4000000 in
theorem r_X12_goes_0 {d : Nat} {QR : Option gw_SV → gw_Mem → Prop} {Γ : gw_Ga} (x1 : Int) (x2 : Int) (m : gw_Mem) (h : gw_in x1 10 ∧ ((m 123 x1 = 1 → gw_in x1 10 ∧ ((m 130 x1 ≤ 0 → gw_G M_X12_goes d QR Γ 30 [some (gR 117), some (gI x1), some (gI x2), none, none] [] m) ∧ (¬ (m 130 x1 ≤ 0) → gw_in x1 10 ∧ gw_in x1 10 ∧ QR none (gw_up m 130 x1 (gw_w ((m 130 x1) - 1)))))) ∧ (¬ (m 123 x1 = 1) → gw_G M_X12_goes d QR Γ 30 [some (gR 117), some (gI x1), some (gI x2), none, none] [] m))) : gw_G M_X12_goes d QR Γ 0 [some (gR 117), some (gI x1), some (gI x2), none, none] [] m := by
  refine gw_aload_n 1 d_X12_goes_0 rfl rfl ?_
  refine gw_getR 4 d_X12_goes_1 rfl F_12_25 sh_117 rfl ?_
  refine gw_iload_n 5 d_X12_goes_4 rfl rfl ?_
  refine gw_iaload 6 d_X12_goes_5 rfl sh_123 h.1 ?_
  refine gw_iconst 7 d_X12_goes_6 rfl rfl ?_
  refine gw_icmp_ne 30 10 d_X12_goes_7 rfl rfl (fun c13 => ?_) (fun c13 => ?_)
  · skip
    refine gw_aload_n 11 d_X12_goes_10 rfl rfl ?_
    refine gw_getR 14 d_X12_goes_11 rfl F_12_46 sh_117 rfl ?_
    refine gw_iload_n 15 d_X12_goes_14 rfl rfl ?_
    refine gw_iaload 16 d_X12_goes_15 rfl sh_130 (h.2.1 c13).1 ?_
    refine gw_if_le 30 19 d_X12_goes_16 rfl rfl (fun c14 => ?_) (fun c14 => ?_)
    · skip
      exact ((h.2.1 c13).2.1 c14)
    · skip
      refine gw_aload_n 20 d_X12_goes_19 rfl rfl ?_
      refine gw_getR 23 d_X12_goes_20 rfl F_12_46 sh_117 rfl ?_
      refine gw_iload_n 24 d_X12_goes_23 rfl rfl ?_
      refine gw_dup2 25 d_X12_goes_24 rfl rfl rfl ?_
      refine gw_iaload 26 d_X12_goes_25 rfl sh_130 ((h.2.1 c13).2.2 c14).1 ?_
      refine gw_iconst 27 d_X12_goes_26 rfl rfl ?_
      refine gw_isub 28 d_X12_goes_27 rfl  ?_
      refine gw_iastore 29 d_X12_goes_28 rfl sh_130 ((h.2.1 c13).2.2 c14).2.1 ?_
      exact gw_return d_X12_goes_29 rfl ((h.2.1 c13).2.2 c14).2.2
  · skip
    exact (h.2.2 c13)
set_option maxRecDepth 100000 in
set_option maxHeartbeats 4000000 in
theorem r_X12_goes_30 {d : Nat} {QR : Option gw_SV → gw_Mem → Prop} {Γ : gw_Ga} (x1 : Int) (x2 : Int) (y3 : Option gw_SV) (y4 : Option gw_SV) (m : gw_Mem) (h : gw_in x1 10 ∧ ((m 123 x1 = 2 → ((x2.tmod 2 = 1 → QR none m) ∧ (¬ (x2.tmod 2 = 1) → gw_G M_X12_goes d QR Γ 48 [some (gR 117), some (gI x1), some (gI x2), y3, y4] [] m))) ∧ (¬ (m 123 x1 = 2) → gw_G M_X12_goes d QR Γ 48 [some (gR 117), some (gI x1), some (gI x2), y3, y4] [] m))) : gw_G M_X12_goes d QR Γ 30 [some (gR 117), some (gI x1), some (gI x2), y3, y4] [] m := by
  refine gw_aload_n 31 d_X12_goes_30 rfl rfl ?_
  refine gw_getR 34 d_X12_goes_31 rfl F_12_25 sh_117 rfl ?_
  refine gw_iload_n 35 d_X12_goes_34 rfl rfl ?_
  refine gw_iaload 36 d_X12_goes_35 rfl sh_123 h.1 ?_
  refine gw_iconst 37 d_X12_goes_36 rfl rfl ?_
  refine gw_icmp_ne 48 40 d_X12_goes_37 rfl rfl (fun c15 => ?_) (fun c15 => ?_)
  · skip
    refine gw_iload_n 41 d_X12_goes_40 rfl rfl ?_
    refine gw_iconst 42 d_X12_goes_41 rfl rfl ?_
    refine gw_irem 43 d_X12_goes_42 rfl (by decide) ?_
    refine gw_iconst 44 d_X12_goes_43 rfl rfl ?_
    refine gw_icmp_ne 48 47 d_X12_goes_44 rfl rfl (fun c16 => ?_) (fun c16 => ?_)
    · skip
      exact gw_return d_X12_goes_47 rfl ((h.2.1 c15).1 c16)
    · skip
      exact ((h.2.1 c15).2 c16)
  · skip
    exact (h.2.2 c15)
set_option maxRecDepth 100000 in
set_option maxHeartbeats 4000000 in
theorem r_X12_goes_48 {d : Nat} {QR : Option gw_SV → gw_Mem → Prop} {Γ : gw_Ga} (x1 : Int) (x2 : Int) (y3 : Option gw_SV) (y4 : Option gw_SV) (m : gw_Mem) (h : gw_G M_X12_goes d QR Γ 50 [some (gR 117), some (gI x1), some (gI x2), some (gI 0), y4] [] m) : gw_G M_X12_goes d QR Γ 48 [some (gR 117), some (gI x1), some (gI x2), y3, y4] [] m := by
  refine gw_iconst 49 d_X12_goes_48 rfl rfl ?_
  refine gw_istore_n (ls' := [some (gR 117), some (gI x1), some (gI x2), some (gI 0), y4]) 50 d_X12_goes_49 rfl rfl rfl rfl ?_
  exact h
set_option maxRecDepth 100000 in
set_option maxHeartbeats 4000000 in
theorem r_X12_goes_50 {d : Nat} {QR : Option gw_SV → gw_Mem → Prop} {Γ : gw_Ga} (x1 : Int) (x2 : Int) (x3 : Int) (y4 : Option gw_SV) (m : gw_Mem) (h : gw_in x1 10 ∧ ((m 124 x1 ≤ x3 → QR none m) ∧ (¬ (m 124 x1 ≤ x3) → gw_in x1 10 ∧ ((m 117 16 ≤ m 129 x1 → QR none m) ∧ (¬ (m 117 16 ≤ m 129 x1) → gw_in x1 10 ∧ gw_CI d M_X12_isRed [gR 117, gI (m 129 x1), gI x2] m (fun v1 m2 => ((v1 = 0 → gw_in x1 10 ∧ ((m2 123 x1 = 3 → gw_in x1 10 ∧ gw_CI d M_X12_leastOther [gR 117, gI x1] m2 (fun v4 m5 => ((m2 129 x1 < v4 → gw_G M_X12_goes d QR Γ 112 [some (gR 117), some (gI x1), some (gI x2), some (gI x3), y4] [] m5) ∧ (¬ (m2 129 x1 < v4) → QR none m5)))) ∧ (¬ (m2 123 x1 = 3) → gw_G M_X12_goes d QR Γ 112 [some (gR 117), some (gI x1), some (gI x2), some (gI x3), y4] [] m2))) ∧ (¬ (v1 = 0) → QR none m2)))))))) : gw_G M_X12_goes d QR Γ 50 [some (gR 117), some (gI x1), some (gI x2), some (gI x3), y4] [] m := by
  refine gw_iload_n 51 d_X12_goes_50 rfl rfl ?_
  refine gw_aload_n 52 d_X12_goes_51 rfl rfl ?_
  refine gw_getR 55 d_X12_goes_52 rfl F_12_28 sh_117 rfl ?_
  refine gw_iload_n 56 d_X12_goes_55 rfl rfl ?_
  refine gw_iaload 57 d_X12_goes_56 rfl sh_124 h.1 ?_
  refine gw_icmp_ge 212 60 d_X12_goes_57 rfl rfl (fun c17 => ?_) (fun c17 => ?_)
  · skip
    exact gw_return d_X12_goes_212 rfl (h.2.1 c17)
  · skip
    refine gw_aload_n 61 d_X12_goes_60 rfl rfl ?_
    refine gw_getR 64 d_X12_goes_61 rfl F_12_43 sh_117 rfl ?_
    refine gw_iload_n 65 d_X12_goes_64 rfl rfl ?_
    refine gw_iaload 66 d_X12_goes_65 rfl sh_129 (h.2.2 c17).1 ?_
    refine gw_aload_n 67 d_X12_goes_66 rfl rfl ?_
    refine gw_getI 70 d_X12_goes_67 rfl F_12_199 sh_117 rfl (kz := 16) rfl ?_
    refine gw_icmp_ge 111 73 d_X12_goes_70 rfl rfl (fun c18 => ?_) (fun c18 => ?_)
    · skip
      exact gw_return d_X12_goes_111 rfl ((h.2.2 c17).2.1 c18)
    · skip
      refine gw_aload_n 74 d_X12_goes_73 rfl rfl ?_
      refine gw_aload_n 75 d_X12_goes_74 rfl rfl ?_
      refine gw_getR 78 d_X12_goes_75 rfl F_12_43 sh_117 rfl ?_
      refine gw_iload_n 79 d_X12_goes_78 rfl rfl ?_
      refine gw_iaload 80 d_X12_goes_79 rfl sh_129 ((h.2.2 c17).2.2 c18).1 ?_
      refine gw_iload_n 81 d_X12_goes_80 rfl rfl ?_
      refine gw_cVI (a := [gI (m 129 x1), gI x2]) (rest := []) 84 d_X12_goes_81 rfl ml_12_233 v_X12_isRed rfl sh_117 rfl rfl rfl ((h.2.2 c17).2.2 c18).2 (fun v1 m2 h3 => ?_)
      refine gw_if_ne 111 87 d_X12_goes_84 rfl rfl (fun c19 => ?_) (fun c19 => ?_)
      · skip
        refine gw_aload_n 88 d_X12_goes_87 rfl rfl ?_
        refine gw_getR 91 d_X12_goes_88 rfl F_12_25 sh_117 rfl ?_
        refine gw_iload_n 92 d_X12_goes_91 rfl rfl ?_
        refine gw_iaload 93 d_X12_goes_92 rfl sh_123 (h3.1 c19).1 ?_
        refine gw_iconst 94 d_X12_goes_93 rfl rfl ?_
        refine gw_icmp_ne 112 97 d_X12_goes_94 rfl rfl (fun c20 => ?_) (fun c20 => ?_)
        · skip
          refine gw_aload_n 98 d_X12_goes_97 rfl rfl ?_
          refine gw_getR 101 d_X12_goes_98 rfl F_12_43 sh_117 rfl ?_
          refine gw_iload_n 102 d_X12_goes_101 rfl rfl ?_
          refine gw_iaload 103 d_X12_goes_102 rfl sh_129 ((h3.1 c19).2.1 c20).1 ?_
          refine gw_aload_n 104 d_X12_goes_103 rfl rfl ?_
          refine gw_iload_n 105 d_X12_goes_104 rfl rfl ?_
          refine gw_cVI (a := [gI x1]) (rest := [gI (m2 129 x1)]) 108 d_X12_goes_105 rfl ml_12_239 v_X12_leastOther rfl sh_117 rfl rfl rfl ((h3.1 c19).2.1 c20).2 (fun v4 m5 h6 => ?_)
          refine gw_icmp_lt 112 111 d_X12_goes_108 rfl rfl (fun c21 => ?_) (fun c21 => ?_)
          · skip
            exact (h6.1 c21)
          · skip
            exact gw_return d_X12_goes_111 rfl (h6.2 c21)
        · skip
          exact ((h3.1 c19).2.2 c20)
      · skip
        exact gw_return d_X12_goes_111 rfl (h3.2 c19)
set_option maxRecDepth 100000 in
set_option maxHeartbeats 4000000 in
theorem r_X12_goes_112 {d : Nat} {QR : Option gw_SV → gw_Mem → Prop} {Γ : gw_Ga} (x1 : Int) (x2 : Int) (x3 : Int) (y4 : Option gw_SV) (m : gw_Mem) (h : gw_CI d M_X12_losesWay [gR 117, gI x1] m (fun v7 m8 => ((v7 = 0 → gw_in x1 10 ∧ gw_in x1 10 ∧ gw_in x1 10 ∧ (((gw_up m8 129 x1 (gw_w ((m8 129 x1) + 1))) 123 x1 = 1 → gw_in x1 10 ∧ (((gw_up m8 129 x1 (gw_w ((m8 129 x1) + 1))) 117 0 ≤ (gw_up m8 129 x1 (gw_w ((m8 129 x1) + 1))) 129 x1 → gw_G M_X12_goes d QR Γ 180 [some (gR 117), some (gI x1), some (gI x2), some (gI x3), y4] [] (gw_up m8 129 x1 (gw_w ((m8 129 x1) + 1)))) ∧ (¬ ((gw_up m8 129 x1 (gw_w ((m8 129 x1) + 1))) 117 0 ≤ (gw_up m8 129 x1 (gw_w ((m8 129 x1) + 1))) 129 x1) → gw_in x1 10 ∧ gw_CI d M_X12_markAt [gR 117, gI 2, gI ((gw_up m8 129 x1 (gw_w ((m8 129 x1) + 1))) 129 x1)] (gw_up m8 129 x1 (gw_w ((m8 129 x1) + 1))) (fun v10 m11 => gw_G M_X12_goes d QR Γ 182 [some (gR 117), some (gI x1), some (gI x2), some (gI x3), y4] [gI v10] m11)))) ∧ (¬ ((gw_up m8 129 x1 (gw_w ((m8 129 x1) + 1))) 123 x1 = 1) → gw_G M_X12_goes d QR Γ 180 [some (gR 117), some (gI x1), some (gI x2), some (gI x3), y4] [] (gw_up m8 129 x1 (gw_w ((m8 129 x1) + 1)))))) ∧ (¬ (v7 = 0) → gw_in x1 10 ∧ gw_in x1 10 ∧ QR none (gw_up m8 131 x1 (m8 129 x1)))))) : gw_G M_X12_goes d QR Γ 112 [some (gR 117), some (gI x1), some (gI x2), some (gI x3), y4] [] m := by
  refine gw_aload_n 113 d_X12_goes_112 rfl rfl ?_
  refine gw_iload_n 114 d_X12_goes_113 rfl rfl ?_
  refine gw_cVI (a := [gI x1]) (rest := []) 117 d_X12_goes_114 rfl ml_12_243 v_X12_losesWay rfl sh_117 rfl rfl rfl h (fun v7 m8 h9 => ?_)
  refine gw_if_eq 133 120 d_X12_goes_117 rfl rfl (fun c22 => ?_) (fun c22 => ?_)
  · skip
    refine gw_aload_n 134 d_X12_goes_133 rfl rfl ?_
    refine gw_getR 137 d_X12_goes_134 rfl F_12_43 sh_117 rfl ?_
    refine gw_iload_n 138 d_X12_goes_137 rfl rfl ?_
    refine gw_dup2 139 d_X12_goes_138 rfl rfl rfl ?_
    refine gw_iaload 140 d_X12_goes_139 rfl sh_129 (h9.1 c22).1 ?_
    refine gw_iconst 141 d_X12_goes_140 rfl rfl ?_
    refine gw_iadd 142 d_X12_goes_141 rfl  ?_
    refine gw_iastore 143 d_X12_goes_142 rfl sh_129 (h9.1 c22).2.1 ?_
    refine gw_aload_n 144 d_X12_goes_143 rfl rfl ?_
    refine gw_getR 147 d_X12_goes_144 rfl F_12_25 sh_117 rfl ?_
    refine gw_iload_n 148 d_X12_goes_147 rfl rfl ?_
    refine gw_iaload 149 d_X12_goes_148 rfl sh_123 (h9.1 c22).2.2.1 ?_
    refine gw_iconst 150 d_X12_goes_149 rfl rfl ?_
    refine gw_icmp_ne 180 153 d_X12_goes_150 rfl rfl (fun c23 => ?_) (fun c23 => ?_)
    · skip
      refine gw_aload_n 154 d_X12_goes_153 rfl rfl ?_
      refine gw_getR 157 d_X12_goes_154 rfl F_12_43 sh_117 rfl ?_
      refine gw_iload_n 158 d_X12_goes_157 rfl rfl ?_
      refine gw_iaload 159 d_X12_goes_158 rfl sh_129 ((h9.1 c22).2.2.2.1 c23).1 ?_
      refine gw_aload_n 160 d_X12_goes_159 rfl rfl ?_
      refine gw_getI 163 d_X12_goes_160 rfl F_12_88 sh_117 rfl (kz := 0) rfl ?_
      refine gw_icmp_ge 180 166 d_X12_goes_163 rfl rfl (fun c24 => ?_) (fun c24 => ?_)
      · skip
        exact (((h9.1 c22).2.2.2.1 c23).2.1 c24)
      · skip
        refine gw_aload_n 167 d_X12_goes_166 rfl rfl ?_
        refine gw_iconst 168 d_X12_goes_167 rfl rfl ?_
        refine gw_aload_n 169 d_X12_goes_168 rfl rfl ?_
        refine gw_getR 172 d_X12_goes_169 rfl F_12_43 sh_117 rfl ?_
        refine gw_iload_n 173 d_X12_goes_172 rfl rfl ?_
        refine gw_iaload 174 d_X12_goes_173 rfl sh_129 (((h9.1 c22).2.2.2.1 c23).2.2 c24).1 ?_
        refine gw_cVI (a := [gI 2, gI ((gw_up m8 129 x1 (gw_w ((m8 129 x1) + 1))) 129 x1)]) (rest := []) 177 d_X12_goes_174 rfl ml_12_112 v_X12_markAt rfl sh_117 rfl rfl rfl (((h9.1 c22).2.2.2.1 c23).2.2 c24).2 (fun v10 m11 h12 => ?_)
        refine gw_goto 182 d_X12_goes_177 rfl ?_
        exact h12
    · skip
      exact ((h9.1 c22).2.2.2.2 c23)
  · skip
    refine gw_aload_n 121 d_X12_goes_120 rfl rfl ?_
    refine gw_getR 124 d_X12_goes_121 rfl F_12_49 sh_117 rfl ?_
    refine gw_iload_n 125 d_X12_goes_124 rfl rfl ?_
    refine gw_aload_n 126 d_X12_goes_125 rfl rfl ?_
    refine gw_getR 129 d_X12_goes_126 rfl F_12_43 sh_117 rfl ?_
    refine gw_iload_n 130 d_X12_goes_129 rfl rfl ?_
    refine gw_iaload 131 d_X12_goes_130 rfl sh_129 (h9.2 c22).1 ?_
    refine gw_iastore 132 d_X12_goes_131 rfl sh_131 (h9.2 c22).2.1 ?_
    exact gw_return d_X12_goes_132 rfl (h9.2 c22).2.2
set_option maxRecDepth 100000 in
set_option maxHeartbeats 4000000 in
theorem r_X12_goes_180 {d : Nat} {QR : Option gw_SV → gw_Mem → Prop} {Γ : gw_Ga} (x1 : Int) (x2 : Int) (x3 : Int) (y4 : Option gw_SV) (m : gw_Mem) (h : gw_G M_X12_goes d QR Γ 182 [some (gR 117), some (gI x1), some (gI x2), some (gI x3), y4] [gI (-4)] m) : gw_G M_X12_goes d QR Γ 180 [some (gR 117), some (gI x1), some (gI x2), some (gI x3), y4] [] m := by
  refine gw_bipush 182 d_X12_goes_180 rfl rfl (by decide) ?_
  exact h
set_option maxRecDepth 100000 in
set_option maxHeartbeats 4000000 in
theorem r_X12_goes_182 {d : Nat} {QR : Option gw_SV → gw_Mem → Prop} {Γ : gw_Ga} (x1 : Int) (x2 : Int) (x3 : Int) (y4 : Option gw_SV) (z0 : Int) (m : gw_Mem) (h : ((z0 < 0 → gw_G M_X12_goes d QR Γ 50 [some (gR 117), some (gI x1), some (gI x2), some (gI (gw_w (x3 + 1))), some (gI z0)] [] m) ∧ (¬ (z0 < 0) → gw_in (gw_w (16 + z0)) 32 ∧ gw_in x1 10 ∧ QR none (gw_up m 130 x1 (m 120 (gw_w (16 + z0))))))) : gw_G M_X12_goes d QR Γ 182 [some (gR 117), some (gI x1), some (gI x2), some (gI x3), y4] [gI z0] m := by
  refine gw_istore (ls' := [some (gR 117), some (gI x1), some (gI x2), some (gI x3), some (gI z0)]) 184 d_X12_goes_182 rfl rfl rfl rfl ?_
  refine gw_iload 186 d_X12_goes_184 rfl rfl ?_
  refine gw_if_lt 206 189 d_X12_goes_186 rfl rfl (fun c25 => ?_) (fun c25 => ?_)
  · skip
    refine gw_iinc (ls' := [some (gR 117), some (gI x1), some (gI x2), some (gI (gw_w (x3 + 1))), some (gI z0)]) 209 d_X12_goes_206 rfl rfl rfl rfl rfl ?_
    refine gw_goto 50 d_X12_goes_209 rfl ?_
    exact (h.1 c25)
  · skip
    refine gw_aload_n 190 d_X12_goes_189 rfl rfl ?_
    refine gw_getR 193 d_X12_goes_190 rfl F_12_46 sh_117 rfl ?_
    refine gw_iload_n 194 d_X12_goes_193 rfl rfl ?_
    refine gw_aload_n 195 d_X12_goes_194 rfl rfl ?_
    refine gw_getR 198 d_X12_goes_195 rfl F_12_16 sh_117 rfl ?_
    refine gw_bipush 200 d_X12_goes_198 rfl rfl (by decide) ?_
    refine gw_iload 202 d_X12_goes_200 rfl rfl ?_
    refine gw_iadd 203 d_X12_goes_202 rfl  ?_
    refine gw_iaload 204 d_X12_goes_203 rfl sh_120 (h.2 c25).1 ?_
    refine gw_iastore 205 d_X12_goes_204 rfl sh_130 (h.2 c25).2.1 ?_
    exact gw_return d_X12_goes_205 rfl (h.2 c25).2.2
set_option maxRecDepth 100000 in
set_option maxHeartbeats 4000000 in
theorem r_X12_behind_0 {d : Nat} {QR : Option gw_SV → gw_Mem → Prop} {Γ : gw_Ga} (x1 : Int) (m : gw_Mem) (h : gw_G M_X12_behind d QR Γ 6 [some (gR 117), some (gI x1), some (gI 1000), some (gI 0), none] [] m) : gw_G M_X12_behind d QR Γ 0 [some (gR 117), some (gI x1), none, none, none] [] m := by
  refine gw_sipush 3 d_X12_behind_0 rfl rfl (by decide) ?_
  refine gw_istore_n (ls' := [some (gR 117), some (gI x1), some (gI 1000), none, none]) 4 d_X12_behind_3 rfl rfl rfl rfl ?_
  refine gw_iconst 5 d_X12_behind_4 rfl rfl ?_
  refine gw_istore_n (ls' := [some (gR 117), some (gI x1), some (gI 1000), some (gI 0), none]) 6 d_X12_behind_5 rfl rfl rfl rfl ?_
  exact h
set_option maxRecDepth 100000 in
set_option maxHeartbeats 4000000 in
theorem r_X12_behind_6 {d : Nat} {QR : Option gw_SV → gw_Mem → Prop} {Γ : gw_Ga} (x1 : Int) (x2 : Int) (x3 : Int) (y4 : Option gw_SV) (m : gw_Mem) (h : ((m 117 6 ≤ x3 → gw_CI d M_X12_nearOf [gR 117, gI 0] (gw_up m 117 30 (if (if x2 = 1000 then (-4 : Int) else gw_w ((m 117 16) - x2)) ≤ m 117 30 then m 117 30 else (if x2 = 1000 then (-4 : Int) else gw_w ((m 117 16) - x2)))) (fun v1 m2 => gw_CI d M_X12_nearOf [gR 117, gI 1] m2 (fun v4 m5 => gw_in (gw_w (12 * x1)) 3600 ∧ gw_in (gw_w ((gw_w (12 * x1)) + 1)) 3600 ∧ gw_G M_X12_behind d QR Γ 219 [some (gR 117), some (gI x1), some (gI x2), some (gI (if x2 = 1000 then (-4 : Int) else gw_w ((m 117 16) - x2))), some (gI 0)] [] (gw_up (gw_up (gw_up m5 117 21 (if v1 = v4 then gw_w ((m5 117 21) + 1) else (0 : Int))) 135 (gw_w (12 * x1)) ((gw_up m5 117 21 (if v1 = v4 then gw_w ((m5 117 21) + 1) else (0 : Int))) 117 16)) 135 (gw_w ((gw_w (12 * x1)) + 1)) (if x2 = 1000 then (-4 : Int) else gw_w ((m 117 16) - x2)))))) ∧ (¬ (m 117 6 ≤ x3) → gw_CI d M_X12_isLost [gR 117, gI x3] m (fun v7 m8 => ((v7 = 0 → gw_in x3 10 ∧ (¬ (x2 ≤ m8 129 x3) → gw_in x3 10) ∧ gw_in x3 10 ∧ gw_in x3 10 ∧ gw_in x3 10 ∧ gw_in x3 10 ∧ ((gw_up m8 133 x3 (gw_w ((m8 133 x3) + (if m8 129 x3 = m8 117 16 then (if m8 117 0 ≤ m8 117 16 then (0 : Int) else (1 : Int)) else (0 : Int))))) 129 x3 = (gw_up m8 133 x3 (gw_w ((m8 133 x3) + (if m8 129 x3 = m8 117 16 then (if m8 117 0 ≤ m8 117 16 then (0 : Int) else (1 : Int)) else (0 : Int))))) 117 0 → gw_in x3 10 ∧ (0 ≤ (gw_up m8 133 x3 (gw_w ((m8 133 x3) + (if m8 129 x3 = m8 117 16 then (if m8 117 0 ≤ m8 117 16 then (0 : Int) else (1 : Int)) else (0 : Int))))) 134 x3 → gw_in x3 10)) ∧ (¬ ((gw_up m8 133 x3 (gw_w ((m8 133 x3) + (if m8 129 x3 = m8 117 16 then (if m8 117 0 ≤ m8 117 16 then (0 : Int) else (1 : Int)) else (0 : Int))))) 129 x3 = (gw_up m8 133 x3 (gw_w ((m8 133 x3) + (if m8 129 x3 = m8 117 16 then (if m8 117 0 ≤ m8 117 16 then (0 : Int) else (1 : Int)) else (0 : Int))))) 117 0) → gw_in x3 10) ∧ gw_in x3 10 ∧ gw_G M_X12_behind d QR Γ 119 [some (gR 117), some (gI x1), some (gI (if x2 ≤ m8 129 x3 then x2 else m8 129 x3)), some (gI x3), y4] [] (gw_up (gw_up m8 133 x3 (gw_w ((m8 133 x3) + (if m8 129 x3 = m8 117 16 then (if m8 117 0 ≤ m8 117 16 then (0 : Int) else (1 : Int)) else (0 : Int))))) 134 x3 (if (gw_up m8 133 x3 (gw_w ((m8 133 x3) + (if m8 129 x3 = m8 117 16 then (if m8 117 0 ≤ m8 117 16 then (0 : Int) else (1 : Int)) else (0 : Int))))) 129 x3 = (gw_up m8 133 x3 (gw_w ((m8 133 x3) + (if m8 129 x3 = m8 117 16 then (if m8 117 0 ≤ m8 117 16 then (0 : Int) else (1 : Int)) else (0 : Int))))) 117 0 then (if 0 ≤ (gw_up m8 133 x3 (gw_w ((m8 133 x3) + (if m8 129 x3 = m8 117 16 then (if m8 117 0 ≤ m8 117 16 then (0 : Int) else (1 : Int)) else (0 : Int))))) 134 x3 then (gw_up m8 133 x3 (gw_w ((m8 133 x3) + (if m8 129 x3 = m8 117 16 then (if m8 117 0 ≤ m8 117 16 then (0 : Int) else (1 : Int)) else (0 : Int))))) 134 x3 else x1) else (gw_up m8 133 x3 (gw_w ((m8 133 x3) + (if m8 129 x3 = m8 117 16 then (if m8 117 0 ≤ m8 117 16 then (0 : Int) else (1 : Int)) else (0 : Int))))) 134 x3))) ∧ (¬ (v7 = 0) → gw_G M_X12_behind d QR Γ 119 [some (gR 117), some (gI x1), some (gI x2), some (gI x3), y4] [] m8)))))) : gw_G M_X12_behind d QR Γ 6 [some (gR 117), some (gI x1), some (gI x2), some (gI x3), y4] [] m := by
  refine gw_iload_n 7 d_X12_behind_6 rfl rfl ?_
  refine gw_aload_n 8 d_X12_behind_7 rfl rfl ?_
  refine gw_getI 11 d_X12_behind_8 rfl F_12_120 sh_117 rfl (kz := 6) rfl ?_
  refine gw_icmp_ge 125 14 d_X12_behind_11 rfl rfl (fun c10 => ?_) (fun c10 => ?_)
  · skip
    refine gw_iload_n 126 d_X12_behind_125 rfl rfl ?_
    refine gw_sipush 129 d_X12_behind_126 rfl rfl (by decide) ?_
    have j11 : gw_G M_X12_behind d QR Γ 143 [some (gR 117), some (gI x1), some (gI x2), some (gI x3), y4] [gI (if x2 = 1000 then (-4 : Int) else gw_w ((m 117 16) - x2))] m := by
      refine gw_istore_n (ls' := [some (gR 117), some (gI x1), some (gI x2), some (gI (if x2 = 1000 then (-4 : Int) else gw_w ((m 117 16) - x2))), y4]) 144 d_X12_behind_143 rfl rfl rfl rfl ?_
      refine gw_aload_n 145 d_X12_behind_144 rfl rfl ?_
      refine gw_iload_n 146 d_X12_behind_145 rfl rfl ?_
      refine gw_aload_n 147 d_X12_behind_146 rfl rfl ?_
      refine gw_getI 150 d_X12_behind_147 rfl F_12_246 sh_117 rfl (kz := 30) rfl ?_
      have j13 : gw_G M_X12_behind d QR Γ 161 [some (gR 117), some (gI x1), some (gI x2), some (gI (if x2 = 1000 then (-4 : Int) else gw_w ((m 117 16) - x2))), y4] [gI (if (if x2 = 1000 then (-4 : Int) else gw_w ((m 117 16) - x2)) ≤ m 117 30 then m 117 30 else (if x2 = 1000 then (-4 : Int) else gw_w ((m 117 16) - x2))), gR 117] m := by
        refine gw_putI 164 d_X12_behind_161 rfl P_12_246 (Or.inl rfl) sh_117 rfl (kz := 30) rfl ?_
        refine gw_aload_n 165 d_X12_behind_164 rfl rfl ?_
        refine gw_aload_n 166 d_X12_behind_165 rfl rfl ?_
        refine gw_iconst 167 d_X12_behind_166 rfl rfl ?_
        refine gw_cVI (a := [gI 0]) (rest := [gR 117]) 170 d_X12_behind_167 rfl ml_12_214 v_X12_nearOf rfl sh_117 rfl rfl rfl (h.1 c10) (fun v1 m2 h3 => ?_)
        refine gw_aload_n 171 d_X12_behind_170 rfl rfl ?_
        refine gw_iconst 172 d_X12_behind_171 rfl rfl ?_
        refine gw_cVI (a := [gI 1]) (rest := [gI v1, gR 117]) 175 d_X12_behind_172 rfl ml_12_214 v_X12_nearOf rfl sh_117 rfl rfl rfl h3 (fun v4 m5 h6 => ?_)
        have j15 : gw_G M_X12_behind d QR Γ 188 [some (gR 117), some (gI x1), some (gI x2), some (gI (if x2 = 1000 then (-4 : Int) else gw_w ((m 117 16) - x2))), y4] [gI (if v1 = v4 then gw_w ((m5 117 21) + 1) else (0 : Int)), gR 117] m5 := by
          refine gw_putI 191 d_X12_behind_188 rfl P_12_223 (Or.inl rfl) sh_117 rfl (kz := 21) rfl ?_
          refine gw_aload_n 192 d_X12_behind_191 rfl rfl ?_
          refine gw_getR 195 d_X12_behind_192 rfl F_12_61 sh_117 rfl ?_
          refine gw_bipush 197 d_X12_behind_195 rfl rfl (by decide) ?_
          refine gw_iload_n 198 d_X12_behind_197 rfl rfl ?_
          refine gw_imul 199 d_X12_behind_198 rfl  ?_
          refine gw_aload_n 200 d_X12_behind_199 rfl rfl ?_
          refine gw_getI 203 d_X12_behind_200 rfl F_12_199 sh_117 rfl (kz := 16) rfl ?_
          refine gw_iastore 204 d_X12_behind_203 rfl sh_135 h6.1 ?_
          refine gw_aload_n 205 d_X12_behind_204 rfl rfl ?_
          refine gw_getR 208 d_X12_behind_205 rfl F_12_61 sh_117 rfl ?_
          refine gw_bipush 210 d_X12_behind_208 rfl rfl (by decide) ?_
          refine gw_iload_n 211 d_X12_behind_210 rfl rfl ?_
          refine gw_imul 212 d_X12_behind_211 rfl  ?_
          refine gw_iconst 213 d_X12_behind_212 rfl rfl ?_
          refine gw_iadd 214 d_X12_behind_213 rfl  ?_
          refine gw_iload_n 215 d_X12_behind_214 rfl rfl ?_
          refine gw_iastore 216 d_X12_behind_215 rfl sh_135 h6.2.1 ?_
          refine gw_iconst 217 d_X12_behind_216 rfl rfl ?_
          refine gw_istore (ls' := [some (gR 117), some (gI x1), some (gI x2), some (gI (if x2 = 1000 then (-4 : Int) else gw_w ((m 117 16) - x2))), some (gI 0)]) 219 d_X12_behind_217 rfl rfl rfl rfl ?_
          exact h6.2.2
        refine gw_icmp_ne 187 178 d_X12_behind_175 rfl rfl (fun c16 => ?_) (fun c16 => ?_)
        · skip
          refine gw_aload_n 179 d_X12_behind_178 rfl rfl ?_
          refine gw_getI 182 d_X12_behind_179 rfl F_12_223 sh_117 rfl (kz := 21) rfl ?_
          refine gw_iconst 183 d_X12_behind_182 rfl rfl ?_
          refine gw_iadd 184 d_X12_behind_183 rfl  ?_
          refine gw_goto 188 d_X12_behind_184 rfl ?_
          simpa only [if_pos c16] using j15
        · skip
          refine gw_iconst 188 d_X12_behind_187 rfl rfl ?_
          simpa only [if_neg c16] using j15
      refine gw_icmp_le 157 153 d_X12_behind_150 rfl rfl (fun c14 => ?_) (fun c14 => ?_)
      · skip
        refine gw_aload_n 158 d_X12_behind_157 rfl rfl ?_
        refine gw_getI 161 d_X12_behind_158 rfl F_12_246 sh_117 rfl (kz := 30) rfl ?_
        simpa only [if_pos c14] using j13
      · skip
        refine gw_iload_n 154 d_X12_behind_153 rfl rfl ?_
        refine gw_goto 161 d_X12_behind_154 rfl ?_
        simpa only [if_neg c14] using j13
    refine gw_icmp_ne 137 132 d_X12_behind_129 rfl rfl (fun c12 => ?_) (fun c12 => ?_)
    · skip
      refine gw_bipush 134 d_X12_behind_132 rfl rfl (by decide) ?_
      refine gw_goto 143 d_X12_behind_134 rfl ?_
      simpa only [if_pos c12] using j11
    · skip
      refine gw_aload_n 138 d_X12_behind_137 rfl rfl ?_
      refine gw_getI 141 d_X12_behind_138 rfl F_12_199 sh_117 rfl (kz := 16) rfl ?_
      refine gw_iload_n 142 d_X12_behind_141 rfl rfl ?_
      refine gw_isub 143 d_X12_behind_142 rfl  ?_
      simpa only [if_neg c12] using j11
  · skip
    refine gw_aload_n 15 d_X12_behind_14 rfl rfl ?_
    refine gw_iload_n 16 d_X12_behind_15 rfl rfl ?_
    refine gw_cVI (a := [gI x3]) (rest := []) 19 d_X12_behind_16 rfl ml_12_196 v_X12_isLost rfl sh_117 rfl rfl rfl (h.2 c10) (fun v7 m8 h9 => ?_)
    refine gw_if_ne 119 22 d_X12_behind_19 rfl rfl (fun c17 => ?_) (fun c17 => ?_)
    · skip
      refine gw_aload_n 23 d_X12_behind_22 rfl rfl ?_
      refine gw_getR 26 d_X12_behind_23 rfl F_12_43 sh_117 rfl ?_
      refine gw_iload_n 27 d_X12_behind_26 rfl rfl ?_
      refine gw_iaload 28 d_X12_behind_27 rfl sh_129 (h9.1 c17).1 ?_
      refine gw_iload_n 29 d_X12_behind_28 rfl rfl ?_
      have j18 : gw_G M_X12_behind d QR Γ 42 [some (gR 117), some (gI x1), some (gI x2), some (gI x3), y4] [gI (if x2 ≤ m8 129 x3 then x2 else m8 129 x3)] m8 := by
        refine gw_istore_n (ls' := [some (gR 117), some (gI x1), some (gI (if x2 ≤ m8 129 x3 then x2 else m8 129 x3)), some (gI x3), y4]) 43 d_X12_behind_42 rfl rfl rfl rfl ?_
        refine gw_aload_n 44 d_X12_behind_43 rfl rfl ?_
        refine gw_getR 47 d_X12_behind_44 rfl F_12_55 sh_117 rfl ?_
        refine gw_iload_n 48 d_X12_behind_47 rfl rfl ?_
        refine gw_dup2 49 d_X12_behind_48 rfl rfl rfl ?_
        refine gw_iaload 50 d_X12_behind_49 rfl sh_133 (h9.1 c17).2.2.1 ?_
        refine gw_aload_n 51 d_X12_behind_50 rfl rfl ?_
        refine gw_getR 54 d_X12_behind_51 rfl F_12_43 sh_117 rfl ?_
        refine gw_iload_n 55 d_X12_behind_54 rfl rfl ?_
        refine gw_iaload 56 d_X12_behind_55 rfl sh_129 (h9.1 c17).2.2.2.1 ?_
        refine gw_aload_n 57 d_X12_behind_56 rfl rfl ?_
        refine gw_getI 60 d_X12_behind_57 rfl F_12_199 sh_117 rfl (kz := 16) rfl ?_
        have j20 : gw_G M_X12_behind d QR Γ 79 [some (gR 117), some (gI x1), some (gI (if x2 ≤ m8 129 x3 then x2 else m8 129 x3)), some (gI x3), y4] [gI (if m8 129 x3 = m8 117 16 then (if m8 117 0 ≤ m8 117 16 then (0 : Int) else (1 : Int)) else (0 : Int)), gI (m8 133 x3), gI x3, gR 133] m8 := by
          refine gw_iadd 80 d_X12_behind_79 rfl  ?_
          refine gw_iastore 81 d_X12_behind_80 rfl sh_133 (h9.1 c17).2.2.2.2.1 ?_
          refine gw_aload_n 82 d_X12_behind_81 rfl rfl ?_
          refine gw_getR 85 d_X12_behind_82 rfl F_12_58 sh_117 rfl ?_
          refine gw_iload_n 86 d_X12_behind_85 rfl rfl ?_
          refine gw_aload_n 87 d_X12_behind_86 rfl rfl ?_
          refine gw_getR 90 d_X12_behind_87 rfl F_12_43 sh_117 rfl ?_
          refine gw_iload_n 91 d_X12_behind_90 rfl rfl ?_
          refine gw_iaload 92 d_X12_behind_91 rfl sh_129 (h9.1 c17).2.2.2.2.2.1 ?_
          refine gw_aload_n 93 d_X12_behind_92 rfl rfl ?_
          refine gw_getI 96 d_X12_behind_93 rfl F_12_88 sh_117 rfl (kz := 0) rfl ?_
          have j22 : gw_G M_X12_behind d QR Γ 118 [some (gR 117), some (gI x1), some (gI (if x2 ≤ m8 129 x3 then x2 else m8 129 x3)), some (gI x3), y4] [gI (if (gw_up m8 133 x3 (gw_w ((m8 133 x3) + (if m8 129 x3 = m8 117 16 then (if m8 117 0 ≤ m8 117 16 then (0 : Int) else (1 : Int)) else (0 : Int))))) 129 x3 = (gw_up m8 133 x3 (gw_w ((m8 133 x3) + (if m8 129 x3 = m8 117 16 then (if m8 117 0 ≤ m8 117 16 then (0 : Int) else (1 : Int)) else (0 : Int))))) 117 0 then (if 0 ≤ (gw_up m8 133 x3 (gw_w ((m8 133 x3) + (if m8 129 x3 = m8 117 16 then (if m8 117 0 ≤ m8 117 16 then (0 : Int) else (1 : Int)) else (0 : Int))))) 134 x3 then (gw_up m8 133 x3 (gw_w ((m8 133 x3) + (if m8 129 x3 = m8 117 16 then (if m8 117 0 ≤ m8 117 16 then (0 : Int) else (1 : Int)) else (0 : Int))))) 134 x3 else x1) else (gw_up m8 133 x3 (gw_w ((m8 133 x3) + (if m8 129 x3 = m8 117 16 then (if m8 117 0 ≤ m8 117 16 then (0 : Int) else (1 : Int)) else (0 : Int))))) 134 x3), gI x3, gR 134] (gw_up m8 133 x3 (gw_w ((m8 133 x3) + (if m8 129 x3 = m8 117 16 then (if m8 117 0 ≤ m8 117 16 then (0 : Int) else (1 : Int)) else (0 : Int))))) := by
            refine gw_iastore 119 d_X12_behind_118 rfl sh_134 (h9.1 c17).2.2.2.2.2.2.2.2.1 ?_
            exact (h9.1 c17).2.2.2.2.2.2.2.2.2
          refine gw_icmp_ne 112 99 d_X12_behind_96 rfl rfl (fun c23 => ?_) (fun c23 => ?_)
          · skip
            refine gw_aload_n 100 d_X12_behind_99 rfl rfl ?_
            refine gw_getR 103 d_X12_behind_100 rfl F_12_58 sh_117 rfl ?_
            refine gw_iload_n 104 d_X12_behind_103 rfl rfl ?_
            refine gw_iaload 105 d_X12_behind_104 rfl sh_134 ((h9.1 c17).2.2.2.2.2.2.1 c23).1 ?_
            refine gw_if_ge 112 108 d_X12_behind_105 rfl rfl (fun c24 => ?_) (fun c24 => ?_)
            · skip
              refine gw_aload_n 113 d_X12_behind_112 rfl rfl ?_
              refine gw_getR 116 d_X12_behind_113 rfl F_12_58 sh_117 rfl ?_
              refine gw_iload_n 117 d_X12_behind_116 rfl rfl ?_
              refine gw_iaload 118 d_X12_behind_117 rfl sh_134 (((h9.1 c17).2.2.2.2.2.2.1 c23).2 c24) ?_
              simpa only [if_pos c23, if_pos c24] using j22
            · skip
              refine gw_iload_n 109 d_X12_behind_108 rfl rfl ?_
              refine gw_goto 118 d_X12_behind_109 rfl ?_
              simpa only [if_pos c23, if_neg c24] using j22
          · skip
            refine gw_aload_n 113 d_X12_behind_112 rfl rfl ?_
            refine gw_getR 116 d_X12_behind_113 rfl F_12_58 sh_117 rfl ?_
            refine gw_iload_n 117 d_X12_behind_116 rfl rfl ?_
            refine gw_iaload 118 d_X12_behind_117 rfl sh_134 ((h9.1 c17).2.2.2.2.2.2.2.1 c23) ?_
            simpa only [if_neg c23] using j22
        refine gw_icmp_ne 78 63 d_X12_behind_60 rfl rfl (fun c21 => ?_) (fun c21 => ?_)
        · skip
          refine gw_aload_n 64 d_X12_behind_63 rfl rfl ?_
          refine gw_getI 67 d_X12_behind_64 rfl F_12_199 sh_117 rfl (kz := 16) rfl ?_
          refine gw_aload_n 68 d_X12_behind_67 rfl rfl ?_
          refine gw_getI 71 d_X12_behind_68 rfl F_12_88 sh_117 rfl (kz := 0) rfl ?_
          refine gw_icmp_ge 78 74 d_X12_behind_71 rfl rfl (fun c25 => ?_) (fun c25 => ?_)
          · skip
            refine gw_iconst 79 d_X12_behind_78 rfl rfl ?_
            simpa only [if_pos c21, if_pos c25] using j20
          · skip
            refine gw_iconst 75 d_X12_behind_74 rfl rfl ?_
            refine gw_goto 79 d_X12_behind_75 rfl ?_
            simpa only [if_pos c21, if_neg c25] using j20
        · skip
          refine gw_iconst 79 d_X12_behind_78 rfl rfl ?_
          simpa only [if_neg c21] using j20
      refine gw_icmp_ge 41 32 d_X12_behind_29 rfl rfl (fun c19 => ?_) (fun c19 => ?_)
      · skip
        refine gw_iload_n 42 d_X12_behind_41 rfl rfl ?_
        simpa only [if_pos c19] using j18
      · skip
        refine gw_aload_n 33 d_X12_behind_32 rfl rfl ?_
        refine gw_getR 36 d_X12_behind_33 rfl F_12_43 sh_117 rfl ?_
        refine gw_iload_n 37 d_X12_behind_36 rfl rfl ?_
        refine gw_iaload 38 d_X12_behind_37 rfl sh_129 ((h9.1 c17).2.1 c19) ?_
        refine gw_goto 42 d_X12_behind_38 rfl ?_
        simpa only [if_neg c19] using j18
    · skip
      exact (h9.2 c17)
set_option maxRecDepth 100000 in
set_option maxHeartbeats 4000000 in
theorem r_X12_behind_119 {d : Nat} {QR : Option gw_SV → gw_Mem → Prop} {Γ : gw_Ga} (x1 : Int) (x2 : Int) (x3 : Int) (y4 : Option gw_SV) (m : gw_Mem) (h : gw_G M_X12_behind d QR Γ 6 [some (gR 117), some (gI x1), some (gI x2), some (gI (gw_w (x3 + 1))), y4] [] m) : gw_G M_X12_behind d QR Γ 119 [some (gR 117), some (gI x1), some (gI x2), some (gI x3), y4] [] m := by
  refine gw_iinc (ls' := [some (gR 117), some (gI x1), some (gI x2), some (gI (gw_w (x3 + 1))), y4]) 122 d_X12_behind_119 rfl rfl rfl rfl rfl ?_
  refine gw_goto 6 d_X12_behind_122 rfl ?_
  exact h
set_option maxRecDepth 100000 in
set_option maxHeartbeats 4000000 in
theorem r_X12_behind_219 {d : Nat} {QR : Option gw_SV → gw_Mem → Prop} {Γ : gw_Ga} (x1 : Int) (x2 : Int) (x3 : Int) (x4 : Int) (m : gw_Mem) (h : ((m 117 6 ≤ x4 → QR none m) ∧ (¬ (m 117 6 ≤ x4) → gw_in x4 10 ∧ gw_in (gw_w ((gw_w ((gw_w (12 * x1)) + 2)) + x4)) 3600 ∧ gw_G M_X12_behind d QR Γ 219 [some (gR 117), some (gI x1), some (gI x2), some (gI x3), some (gI (gw_w (x4 + 1)))] [] (gw_up m 135 (gw_w ((gw_w ((gw_w (12 * x1)) + 2)) + x4)) (m 129 x4))))) : gw_G M_X12_behind d QR Γ 219 [some (gR 117), some (gI x1), some (gI x2), some (gI x3), some (gI x4)] [] m := by
  refine gw_iload 221 d_X12_behind_219 rfl rfl ?_
  refine gw_aload_n 222 d_X12_behind_221 rfl rfl ?_
  refine gw_getI 225 d_X12_behind_222 rfl F_12_120 sh_117 rfl (kz := 6) rfl ?_
  refine gw_icmp_ge 255 228 d_X12_behind_225 rfl rfl (fun c26 => ?_) (fun c26 => ?_)
  · skip
    exact gw_return d_X12_behind_255 rfl (h.1 c26)
  · skip
    refine gw_aload_n 229 d_X12_behind_228 rfl rfl ?_
    refine gw_getR 232 d_X12_behind_229 rfl F_12_61 sh_117 rfl ?_
    refine gw_bipush 234 d_X12_behind_232 rfl rfl (by decide) ?_
    refine gw_iload_n 235 d_X12_behind_234 rfl rfl ?_
    refine gw_imul 236 d_X12_behind_235 rfl  ?_
    refine gw_iconst 237 d_X12_behind_236 rfl rfl ?_
    refine gw_iadd 238 d_X12_behind_237 rfl  ?_
    refine gw_iload 240 d_X12_behind_238 rfl rfl ?_
    refine gw_iadd 241 d_X12_behind_240 rfl  ?_
    refine gw_aload_n 242 d_X12_behind_241 rfl rfl ?_
    refine gw_getR 245 d_X12_behind_242 rfl F_12_43 sh_117 rfl ?_
    refine gw_iload 247 d_X12_behind_245 rfl rfl ?_
    refine gw_iaload 248 d_X12_behind_247 rfl sh_129 (h.2 c26).1 ?_
    refine gw_iastore 249 d_X12_behind_248 rfl sh_135 (h.2 c26).2.1 ?_
    refine gw_iinc (ls' := [some (gR 117), some (gI x1), some (gI x2), some (gI x3), some (gI (gw_w (x4 + 1)))]) 252 d_X12_behind_249 rfl rfl rfl rfl rfl ?_
    refine gw_goto 219 d_X12_behind_252 rfl ?_
    exact (h.2 c26).2.2
set_option maxRecDepth 100000 in
set_option maxHeartbeats 4000000 in
theorem r_X12_walks_0 {d : Nat} {QR : Option gw_SV → gw_Mem → Prop} {Γ : gw_Ga} (m : gw_Mem) (h : gw_G M_X12_walks d QR Γ 49 [some (gR 117), some (gI 0), none] [] (gw_up (gw_up (gw_up (gw_up (gw_up (gw_up (gw_up (gw_up (gw_up m 117 16 0) 117 17 0) 117 18 0) 117 19 0) 117 20 0) 117 21 0) 117 22 0) 117 29 (-4)) 117 30 (-4))) : gw_G M_X12_walks d QR Γ 0 [some (gR 117), none, none] [] m := by
  refine gw_aload_n 1 d_X12_walks_0 rfl rfl ?_
  refine gw_iconst 2 d_X12_walks_1 rfl rfl ?_
  refine gw_putI 5 d_X12_walks_2 rfl P_12_199 (Or.inl rfl) sh_117 rfl (kz := 16) rfl ?_
  refine gw_aload_n 6 d_X12_walks_5 rfl rfl ?_
  refine gw_iconst 7 d_X12_walks_6 rfl rfl ?_
  refine gw_putI 10 d_X12_walks_7 rfl P_12_211 (Or.inr ⟨rfl, gw_b0⟩) sh_117 rfl (kz := 17) rfl ?_
  refine gw_aload_n 11 d_X12_walks_10 rfl rfl ?_
  refine gw_iconst 12 d_X12_walks_11 rfl rfl ?_
  refine gw_putI 15 d_X12_walks_12 rfl P_12_217 (Or.inl rfl) sh_117 rfl (kz := 18) rfl ?_
  refine gw_aload_n 16 d_X12_walks_15 rfl rfl ?_
  refine gw_iconst 17 d_X12_walks_16 rfl rfl ?_
  refine gw_putI 20 d_X12_walks_17 rfl P_12_220 (Or.inl rfl) sh_117 rfl (kz := 19) rfl ?_
  refine gw_aload_n 21 d_X12_walks_20 rfl rfl ?_
  refine gw_iconst 22 d_X12_walks_21 rfl rfl ?_
  refine gw_putI 25 d_X12_walks_22 rfl P_12_226 (Or.inl rfl) sh_117 rfl (kz := 20) rfl ?_
  refine gw_aload_n 26 d_X12_walks_25 rfl rfl ?_
  refine gw_iconst 27 d_X12_walks_26 rfl rfl ?_
  refine gw_putI 30 d_X12_walks_27 rfl P_12_223 (Or.inl rfl) sh_117 rfl (kz := 21) rfl ?_
  refine gw_aload_n 31 d_X12_walks_30 rfl rfl ?_
  refine gw_iconst 32 d_X12_walks_31 rfl rfl ?_
  refine gw_putI 35 d_X12_walks_32 rfl P_12_205 (Or.inl rfl) sh_117 rfl (kz := 22) rfl ?_
  refine gw_aload_n 36 d_X12_walks_35 rfl rfl ?_
  refine gw_bipush 38 d_X12_walks_36 rfl rfl (by decide) ?_
  refine gw_putI 41 d_X12_walks_38 rfl P_12_236 (Or.inl rfl) sh_117 rfl (kz := 29) rfl ?_
  refine gw_aload_n 42 d_X12_walks_41 rfl rfl ?_
  refine gw_bipush 44 d_X12_walks_42 rfl rfl (by decide) ?_
  refine gw_putI 47 d_X12_walks_44 rfl P_12_246 (Or.inl rfl) sh_117 rfl (kz := 30) rfl ?_
  refine gw_iconst 48 d_X12_walks_47 rfl rfl ?_
  refine gw_istore_n (ls' := [some (gR 117), some (gI 0), none]) 49 d_X12_walks_48 rfl rfl rfl rfl ?_
  exact h
set_option maxRecDepth 100000 in
set_option maxHeartbeats 4000000 in
theorem r_X12_walks_49 {d : Nat} {QR : Option gw_SV → gw_Mem → Prop} {Γ : gw_Ga} (x1 : Int) (y2 : Option gw_SV) (m : gw_Mem) (h : ((m 117 6 ≤ x1 → gw_G M_X12_walks d QR Γ 109 [some (gR 117), some (gI 0), y2] [] m) ∧ (¬ (m 117 6 ≤ x1) → gw_in x1 10 ∧ gw_in x1 10 ∧ gw_in x1 10 ∧ gw_in x1 10 ∧ gw_in x1 10 ∧ gw_in x1 10 ∧ gw_G M_X12_walks d QR Γ 49 [some (gR 117), some (gI (gw_w (x1 + 1))), y2] [] (gw_up (gw_up (gw_up (gw_up (gw_up (gw_up m 129 x1 0) 130 x1 0) 131 x1 (-4)) 132 x1 0) 133 x1 0) 134 x1 (-4))))) : gw_G M_X12_walks d QR Γ 49 [some (gR 117), some (gI x1), y2] [] m := by
  refine gw_iload_n 50 d_X12_walks_49 rfl rfl ?_
  refine gw_aload_n 51 d_X12_walks_50 rfl rfl ?_
  refine gw_getI 54 d_X12_walks_51 rfl F_12_120 sh_117 rfl (kz := 6) rfl ?_
  refine gw_icmp_ge 107 57 d_X12_walks_54 rfl rfl (fun c10 => ?_) (fun c10 => ?_)
  · skip
    refine gw_iconst 108 d_X12_walks_107 rfl rfl ?_
    refine gw_istore_n (ls' := [some (gR 117), some (gI 0), y2]) 109 d_X12_walks_108 rfl rfl rfl rfl ?_
    exact (h.1 c10)
  · skip
    refine gw_aload_n 58 d_X12_walks_57 rfl rfl ?_
    refine gw_getR 61 d_X12_walks_58 rfl F_12_43 sh_117 rfl ?_
    refine gw_iload_n 62 d_X12_walks_61 rfl rfl ?_
    refine gw_iconst 63 d_X12_walks_62 rfl rfl ?_
    refine gw_iastore 64 d_X12_walks_63 rfl sh_129 (h.2 c10).1 ?_
    refine gw_aload_n 65 d_X12_walks_64 rfl rfl ?_
    refine gw_getR 68 d_X12_walks_65 rfl F_12_46 sh_117 rfl ?_
    refine gw_iload_n 69 d_X12_walks_68 rfl rfl ?_
    refine gw_iconst 70 d_X12_walks_69 rfl rfl ?_
    refine gw_iastore 71 d_X12_walks_70 rfl sh_130 (h.2 c10).2.1 ?_
    refine gw_aload_n 72 d_X12_walks_71 rfl rfl ?_
    refine gw_getR 75 d_X12_walks_72 rfl F_12_49 sh_117 rfl ?_
    refine gw_iload_n 76 d_X12_walks_75 rfl rfl ?_
    refine gw_bipush 78 d_X12_walks_76 rfl rfl (by decide) ?_
    refine gw_iastore 79 d_X12_walks_78 rfl sh_131 (h.2 c10).2.2.1 ?_
    refine gw_aload_n 80 d_X12_walks_79 rfl rfl ?_
    refine gw_getR 83 d_X12_walks_80 rfl F_12_52 sh_117 rfl ?_
    refine gw_iload_n 84 d_X12_walks_83 rfl rfl ?_
    refine gw_iconst 85 d_X12_walks_84 rfl rfl ?_
    refine gw_iastore 86 d_X12_walks_85 rfl sh_132 (h.2 c10).2.2.2.1 ?_
    refine gw_aload_n 87 d_X12_walks_86 rfl rfl ?_
    refine gw_getR 90 d_X12_walks_87 rfl F_12_55 sh_117 rfl ?_
    refine gw_iload_n 91 d_X12_walks_90 rfl rfl ?_
    refine gw_iconst 92 d_X12_walks_91 rfl rfl ?_
    refine gw_iastore 93 d_X12_walks_92 rfl sh_133 (h.2 c10).2.2.2.2.1 ?_
    refine gw_aload_n 94 d_X12_walks_93 rfl rfl ?_
    refine gw_getR 97 d_X12_walks_94 rfl F_12_58 sh_117 rfl ?_
    refine gw_iload_n 98 d_X12_walks_97 rfl rfl ?_
    refine gw_bipush 100 d_X12_walks_98 rfl rfl (by decide) ?_
    refine gw_iastore 101 d_X12_walks_100 rfl sh_134 (h.2 c10).2.2.2.2.2.1 ?_
    refine gw_iinc (ls' := [some (gR 117), some (gI (gw_w (x1 + 1))), y2]) 104 d_X12_walks_101 rfl rfl rfl rfl rfl ?_
    refine gw_goto 49 d_X12_walks_104 rfl ?_
    exact (h.2 c10).2.2.2.2.2.2
set_option maxRecDepth 100000 in
set_option maxHeartbeats 4000000 in
theorem r_X12_walks_109 {d : Nat} {QR : Option gw_SV → gw_Mem → Prop} {Γ : gw_Ga} (x1 : Int) (y2 : Option gw_SV) (m : gw_Mem) (h : ((300 ≤ x1 → QR none m) ∧ (¬ (300 ≤ x1) → gw_CV d M_X12_guideGoes [gR 117, gI x1] m (fun m1 => gw_G M_X12_walks d QR Γ 123 [some (gR 117), some (gI x1), some (gI 0)] [] m1)))) : gw_G M_X12_walks d QR Γ 109 [some (gR 117), some (gI x1), y2] [] m := by
  refine gw_iload_n 110 d_X12_walks_109 rfl rfl ?_
  refine gw_sipush 113 d_X12_walks_110 rfl rfl (by decide) ?_
  refine gw_icmp_ge 162 116 d_X12_walks_113 rfl rfl (fun c11 => ?_) (fun c11 => ?_)
  · skip
    exact gw_return d_X12_walks_162 rfl (h.1 c11)
  · skip
    refine gw_aload_n 117 d_X12_walks_116 rfl rfl ?_
    refine gw_iload_n 118 d_X12_walks_117 rfl rfl ?_
    refine gw_cVV (a := [gI x1]) (rest := []) 121 d_X12_walks_118 rfl ml_12_249 v_X12_guideGoes rfl sh_117 rfl rfl rfl (h.2 c11) (fun m1 h2 => ?_)
    refine gw_iconst 122 d_X12_walks_121 rfl rfl ?_
    refine gw_istore_n (ls' := [some (gR 117), some (gI x1), some (gI 0)]) 123 d_X12_walks_122 rfl rfl rfl rfl ?_
    exact h2
set_option maxRecDepth 100000 in
set_option maxHeartbeats 4000000 in
theorem r_X12_walks_123 {d : Nat} {QR : Option gw_SV → gw_Mem → Prop} {Γ : gw_Ga} (x1 : Int) (x2 : Int) (m : gw_Mem) (h : ((m 117 6 ≤ x2 → gw_CV d M_X12_behind [gR 117, gI x1] m (fun m3 => gw_G M_X12_walks d QR Γ 109 [some (gR 117), some (gI (gw_w (x1 + 1))), some (gI x2)] [] m3)) ∧ (¬ (m 117 6 ≤ x2) → gw_CI d M_X12_isLost [gR 117, gI x2] m (fun v5 m6 => ((v5 = 0 → gw_CV d M_X12_goes [gR 117, gI x2, gI x1] m6 (fun m8 => gw_G M_X12_walks d QR Γ 145 [some (gR 117), some (gI x1), some (gI x2)] [] m8)) ∧ (¬ (v5 = 0) → gw_G M_X12_walks d QR Γ 145 [some (gR 117), some (gI x1), some (gI x2)] [] m6)))))) : gw_G M_X12_walks d QR Γ 123 [some (gR 117), some (gI x1), some (gI x2)] [] m := by
  refine gw_iload_n 124 d_X12_walks_123 rfl rfl ?_
  refine gw_aload_n 125 d_X12_walks_124 rfl rfl ?_
  refine gw_getI 128 d_X12_walks_125 rfl F_12_120 sh_117 rfl (kz := 6) rfl ?_
  refine gw_icmp_ge 151 131 d_X12_walks_128 rfl rfl (fun c12 => ?_) (fun c12 => ?_)
  · skip
    refine gw_aload_n 152 d_X12_walks_151 rfl rfl ?_
    refine gw_iload_n 153 d_X12_walks_152 rfl rfl ?_
    refine gw_cVV (a := [gI x1]) (rest := []) 156 d_X12_walks_153 rfl ml_12_256 v_X12_behind rfl sh_117 rfl rfl rfl (h.1 c12) (fun m3 h4 => ?_)
    refine gw_iinc (ls' := [some (gR 117), some (gI (gw_w (x1 + 1))), some (gI x2)]) 159 d_X12_walks_156 rfl rfl rfl rfl rfl ?_
    refine gw_goto 109 d_X12_walks_159 rfl ?_
    exact h4
  · skip
    refine gw_aload_n 132 d_X12_walks_131 rfl rfl ?_
    refine gw_iload_n 133 d_X12_walks_132 rfl rfl ?_
    refine gw_cVI (a := [gI x2]) (rest := []) 136 d_X12_walks_133 rfl ml_12_196 v_X12_isLost rfl sh_117 rfl rfl rfl (h.2 c12) (fun v5 m6 h7 => ?_)
    refine gw_if_ne 145 139 d_X12_walks_136 rfl rfl (fun c13 => ?_) (fun c13 => ?_)
    · skip
      refine gw_aload_n 140 d_X12_walks_139 rfl rfl ?_
      refine gw_iload_n 141 d_X12_walks_140 rfl rfl ?_
      refine gw_iload_n 142 d_X12_walks_141 rfl rfl ?_
      refine gw_cVV (a := [gI x2, gI x1]) (rest := []) 145 d_X12_walks_142 rfl ml_12_252 v_X12_goes rfl sh_117 rfl rfl rfl (h7.1 c13) (fun m8 h9 => ?_)
      exact h9
    · skip
      exact (h7.2 c13)
set_option maxRecDepth 100000 in
set_option maxHeartbeats 4000000 in
theorem r_X12_walks_145 {d : Nat} {QR : Option gw_SV → gw_Mem → Prop} {Γ : gw_Ga} (x1 : Int) (x2 : Int) (m : gw_Mem) (h : gw_G M_X12_walks d QR Γ 123 [some (gR 117), some (gI x1), some (gI (gw_w (x2 + 1)))] [] m) : gw_G M_X12_walks d QR Γ 145 [some (gR 117), some (gI x1), some (gI x2)] [] m := by
  refine gw_iinc (ls' := [some (gR 117), some (gI x1), some (gI (gw_w (x2 + 1)))]) 148 d_X12_walks_145 rfl rfl rfl rfl rfl ?_
  refine gw_goto 123 d_X12_walks_148 rfl ?_
  exact h
set_option maxRecDepth 100000 in
set_option maxHeartbeats 4000000 in
theorem r_X12_fate_0 {d : Nat} {QR : Option gw_SV → gw_Mem → Prop} {Γ : gw_Ga} (x1 : Int) (x2 : Int) (m : gw_Mem) (h : gw_CI d M_X12_isOne [gR 117, gI x1] m (fun v1 m2 => ((v1 = 0 → QR (some (gI (-1))) m2) ∧ (¬ (v1 = 0) → gw_CI d M_X12_in [gL x2, gL 0, gL 3] m2 (fun v4 m5 => ((v4 = 0 → QR (some (gI (-1))) m5) ∧ (¬ (v4 = 0) → gw_CV d M_X12_walks [gR 117] m5 (fun m7 => (x2 = 0 → gw_in x1 10) ∧ (¬ (x2 = 0) → (x2 = 1 → gw_in x1 10) ∧ (¬ (x2 = 1) → (x2 = 2 → gw_in x1 10) ∧ (¬ (x2 = 2) → gw_in x1 10))) ∧ QR (some (gI (if x2 = 0 then m7 132 x1 else (if x2 = 1 then m7 133 x1 else (if x2 = 2 then m7 134 x1 else m7 131 x1))))) m7)))))))) : gw_G M_X12_fate d QR Γ 0 [some (gR 117), some (gI x1), some (gI x2)] [] m := by
  refine gw_aload_n 1 d_X12_fate_0 rfl rfl ?_
  refine gw_iload_n 2 d_X12_fate_1 rfl rfl ?_
  refine gw_cVI (a := [gI x1]) (rest := []) 5 d_X12_fate_2 rfl ml_12_132 v_X12_isOne rfl sh_117 rfl rfl rfl h (fun v1 m2 h3 => ?_)
  refine gw_if_eq 20 8 d_X12_fate_5 rfl rfl (fun c9 => ?_) (fun c9 => ?_)
  · skip
    refine gw_iconst 21 d_X12_fate_20 rfl rfl ?_
    exact gw_ireturn d_X12_fate_21 (Or.inl rfl) (h3.1 c9)
  · skip
    refine gw_iload_n 9 d_X12_fate_8 rfl rfl ?_
    refine gw_i2lR 10 d_X12_fate_9 rfl  ?_
    refine gw_lconst 11 d_X12_fate_10 rfl (n := 0) rfl (by decide) ?_
    refine gw_ldc2 14 d_X12_fate_11 rfl ct_12_106 (n := 3) (gw_rb_inL (gw_rb_in rfl)) (by decide) ?_
    refine gw_cSI (a := [gL x2, gL 0, gL 3]) (rest := []) 17 d_X12_fate_14 rfl ml_12_98 v_X12_in rfl rfl rfl (h3.2 c9) (fun v4 m5 h6 => ?_)
    refine gw_if_ne 22 20 d_X12_fate_17 rfl rfl (fun c10 => ?_) (fun c10 => ?_)
    · skip
      refine gw_iconst 21 d_X12_fate_20 rfl rfl ?_
      exact gw_ireturn d_X12_fate_21 (Or.inl rfl) (h6.1 c10)
    · skip
      refine gw_aload_n 23 d_X12_fate_22 rfl rfl ?_
      refine gw_cVV (a := []) (rest := []) 26 d_X12_fate_23 rfl ml_12_259 v_X12_walks rfl sh_117 rfl rfl rfl (h6.2 c10) (fun m7 h8 => ?_)
      refine gw_iload_n 27 d_X12_fate_26 rfl rfl ?_
      have j11 : gw_G M_X12_fate d QR Γ 73 [some (gR 117), some (gI x1), some (gI x2)] [gI (if x2 = 0 then m7 132 x1 else (if x2 = 1 then m7 133 x1 else (if x2 = 2 then m7 134 x1 else m7 131 x1)))] m7 := by
        exact gw_ireturn d_X12_fate_73 (Or.inl rfl) h8.2.2
      refine gw_if_ne 39 30 d_X12_fate_27 rfl rfl (fun c12 => ?_) (fun c12 => ?_)
      · skip
        refine gw_aload_n 31 d_X12_fate_30 rfl rfl ?_
        refine gw_getR 34 d_X12_fate_31 rfl F_12_52 sh_117 rfl ?_
        refine gw_iload_n 35 d_X12_fate_34 rfl rfl ?_
        refine gw_iaload 36 d_X12_fate_35 rfl sh_132 (h8.1 c12) ?_
        refine gw_goto 73 d_X12_fate_36 rfl ?_
        simpa only [if_pos c12] using j11
      · skip
        refine gw_iload_n 40 d_X12_fate_39 rfl rfl ?_
        refine gw_iconst 41 d_X12_fate_40 rfl rfl ?_
        refine gw_icmp_ne 53 44 d_X12_fate_41 rfl rfl (fun c13 => ?_) (fun c13 => ?_)
        · skip
          refine gw_aload_n 45 d_X12_fate_44 rfl rfl ?_
          refine gw_getR 48 d_X12_fate_45 rfl F_12_55 sh_117 rfl ?_
          refine gw_iload_n 49 d_X12_fate_48 rfl rfl ?_
          refine gw_iaload 50 d_X12_fate_49 rfl sh_133 ((h8.2.1 c12).1 c13) ?_
          refine gw_goto 73 d_X12_fate_50 rfl ?_
          simpa only [if_neg c12, if_pos c13] using j11
        · skip
          refine gw_iload_n 54 d_X12_fate_53 rfl rfl ?_
          refine gw_iconst 55 d_X12_fate_54 rfl rfl ?_
          refine gw_icmp_ne 67 58 d_X12_fate_55 rfl rfl (fun c14 => ?_) (fun c14 => ?_)
          · skip
            refine gw_aload_n 59 d_X12_fate_58 rfl rfl ?_
            refine gw_getR 62 d_X12_fate_59 rfl F_12_58 sh_117 rfl ?_
            refine gw_iload_n 63 d_X12_fate_62 rfl rfl ?_
            refine gw_iaload 64 d_X12_fate_63 rfl sh_134 (((h8.2.1 c12).2 c13).1 c14) ?_
            refine gw_goto 73 d_X12_fate_64 rfl ?_
            simpa only [if_neg c12, if_neg c13, if_pos c14] using j11
          · skip
            refine gw_aload_n 68 d_X12_fate_67 rfl rfl ?_
            refine gw_getR 71 d_X12_fate_68 rfl F_12_49 sh_117 rfl ?_
            refine gw_iload_n 72 d_X12_fate_71 rfl rfl ?_
            refine gw_iaload 73 d_X12_fate_72 rfl sh_131 (((h8.2.1 c12).2 c13).2 c14) ?_
            simpa only [if_neg c12, if_neg c13, if_neg c14] using j11
set_option maxRecDepth 100000 in
set_option maxHeartbeats 4000000 in
theorem r_X12_at_0 {d : Nat} {QR : Option gw_SV → gw_Mem → Prop} {Γ : gw_Ga} (x1 : Int) (x2 : Int) (m : gw_Mem) (h : gw_CI d M_X12_in [gL x1, gL 0, gL 299] m (fun v1 m2 => ((v1 = 0 → QR (some (gI (-1))) m2) ∧ (¬ (v1 = 0) → gw_CI d M_X12_in [gL x2, gL (-2), gL (gw_w ((m2 117 6) - 1))] m2 (fun v4 m5 => ((v4 = 0 → QR (some (gI (-1))) m5) ∧ (¬ (v4 = 0) → gw_CV d M_X12_walks [gR 117] m5 (fun m7 => gw_in (gw_w ((gw_w (12 * x1)) + (if x2 = (-1) then (0 : Int) else (if x2 = (-2) then (1 : Int) else gw_w (2 + x2))))) 3600 ∧ QR (some (gI (m7 135 (gw_w ((gw_w (12 * x1)) + (if x2 = (-1) then (0 : Int) else (if x2 = (-2) then (1 : Int) else gw_w (2 + x2)))))))) m7)))))))) : gw_G M_X12_at d QR Γ 0 [some (gR 117), some (gI x1), some (gI x2)] [] m := by
  refine gw_iload_n 1 d_X12_at_0 rfl rfl ?_
  refine gw_i2lR 2 d_X12_at_1 rfl  ?_
  refine gw_lconst 3 d_X12_at_2 rfl (n := 0) rfl (by decide) ?_
  refine gw_ldc2 6 d_X12_at_3 rfl ct_12_262 (n := 299) (gw_rb_inL (gw_rb_in rfl)) (by decide) ?_
  refine gw_cSI (a := [gL x1, gL 0, gL 299]) (rest := []) 9 d_X12_at_6 rfl ml_12_98 v_X12_in rfl rfl rfl h (fun v1 m2 h3 => ?_)
  refine gw_if_eq 30 12 d_X12_at_9 rfl rfl (fun c9 => ?_) (fun c9 => ?_)
  · skip
    refine gw_iconst 31 d_X12_at_30 rfl rfl ?_
    exact gw_ireturn d_X12_at_31 (Or.inl rfl) (h3.1 c9)
  · skip
    refine gw_iload_n 13 d_X12_at_12 rfl rfl ?_
    refine gw_i2lR 14 d_X12_at_13 rfl  ?_
    refine gw_ldc2 17 d_X12_at_14 rfl ct_12_264 (n := (-2)) (gw_rb_inL (gw_rb_in rfl)) (by decide) ?_
    refine gw_aload_n 18 d_X12_at_17 rfl rfl ?_
    refine gw_getI 21 d_X12_at_18 rfl F_12_120 sh_117 rfl (kz := 6) rfl ?_
    refine gw_iconst 22 d_X12_at_21 rfl rfl ?_
    refine gw_isub 23 d_X12_at_22 rfl  ?_
    refine gw_i2lR 24 d_X12_at_23 rfl  ?_
    refine gw_cSI (a := [gL x2, gL (-2), gL (gw_w ((m2 117 6) - 1))]) (rest := []) 27 d_X12_at_24 rfl ml_12_98 v_X12_in rfl rfl rfl (h3.2 c9) (fun v4 m5 h6 => ?_)
    refine gw_if_ne 32 30 d_X12_at_27 rfl rfl (fun c10 => ?_) (fun c10 => ?_)
    · skip
      refine gw_iconst 31 d_X12_at_30 rfl rfl ?_
      exact gw_ireturn d_X12_at_31 (Or.inl rfl) (h6.1 c10)
    · skip
      refine gw_aload_n 33 d_X12_at_32 rfl rfl ?_
      refine gw_cVV (a := []) (rest := []) 36 d_X12_at_33 rfl ml_12_259 v_X12_walks rfl sh_117 rfl rfl rfl (h6.2 c10) (fun m7 h8 => ?_)
      refine gw_aload_n 37 d_X12_at_36 rfl rfl ?_
      refine gw_getR 40 d_X12_at_37 rfl F_12_61 sh_117 rfl ?_
      refine gw_bipush 42 d_X12_at_40 rfl rfl (by decide) ?_
      refine gw_iload_n 43 d_X12_at_42 rfl rfl ?_
      refine gw_imul 44 d_X12_at_43 rfl  ?_
      refine gw_iload_n 45 d_X12_at_44 rfl rfl ?_
      refine gw_iconst 46 d_X12_at_45 rfl rfl ?_
      have j11 : gw_G M_X12_at d QR Γ 66 [some (gR 117), some (gI x1), some (gI x2)] [gI (if x2 = (-1) then (0 : Int) else (if x2 = (-2) then (1 : Int) else gw_w (2 + x2))), gI (gw_w (12 * x1)), gR 135] m7 := by
        refine gw_iadd 67 d_X12_at_66 rfl  ?_
        refine gw_iaload 68 d_X12_at_67 rfl sh_135 h8.1 ?_
        exact gw_ireturn d_X12_at_68 (Or.inl rfl) h8.2
      refine gw_icmp_ne 53 49 d_X12_at_46 rfl rfl (fun c12 => ?_) (fun c12 => ?_)
      · skip
        refine gw_iconst 50 d_X12_at_49 rfl rfl ?_
        refine gw_goto 66 d_X12_at_50 rfl ?_
        simpa only [if_pos c12] using j11
      · skip
        refine gw_iload_n 54 d_X12_at_53 rfl rfl ?_
        refine gw_bipush 56 d_X12_at_54 rfl rfl (by decide) ?_
        refine gw_icmp_ne 63 59 d_X12_at_56 rfl rfl (fun c13 => ?_) (fun c13 => ?_)
        · skip
          refine gw_iconst 60 d_X12_at_59 rfl rfl ?_
          refine gw_goto 66 d_X12_at_60 rfl ?_
          simpa only [if_neg c12, if_pos c13] using j11
        · skip
          refine gw_iconst 64 d_X12_at_63 rfl rfl ?_
          refine gw_iload_n 65 d_X12_at_64 rfl rfl ?_
          refine gw_iadd 66 d_X12_at_65 rfl  ?_
          simpa only [if_neg c12, if_neg c13] using j11
set_option maxRecDepth 100000 in
set_option maxHeartbeats 4000000 in
theorem r_X12_heardAll_0 {d : Nat} {QR : Option gw_SV → gw_Mem → Prop} {Γ : gw_Ga} (m : gw_Mem) (h : gw_G M_X12_heardAll d QR Γ 4 [some (gR 117), some (gI 0), some (gI 0)] [] m) : gw_G M_X12_heardAll d QR Γ 0 [some (gR 117), none, none] [] m := by
  refine gw_iconst 1 d_X12_heardAll_0 rfl rfl ?_
  refine gw_istore_n (ls' := [some (gR 117), some (gI 0), none]) 2 d_X12_heardAll_1 rfl rfl rfl rfl ?_
  refine gw_iconst 3 d_X12_heardAll_2 rfl rfl ?_
  refine gw_istore_n (ls' := [some (gR 117), some (gI 0), some (gI 0)]) 4 d_X12_heardAll_3 rfl rfl rfl rfl ?_
  exact h
set_option maxRecDepth 100000 in
set_option maxHeartbeats 4000000 in
theorem r_X12_heardAll_4 {d : Nat} {QR : Option gw_SV → gw_Mem → Prop} {Γ : gw_Ga} (x1 : Int) (x2 : Int) (m : gw_Mem) (h : ((m 117 6 ≤ x2 → QR (some (gI x1)) m) ∧ (¬ (m 117 6 ≤ x2) → gw_in x2 10 ∧ gw_G M_X12_heardAll d QR Γ 4 [some (gR 117), some (gI (gw_w (x1 + (m 132 x2)))), some (gI (gw_w (x2 + 1)))] [] m))) : gw_G M_X12_heardAll d QR Γ 4 [some (gR 117), some (gI x1), some (gI x2)] [] m := by
  refine gw_iload_n 5 d_X12_heardAll_4 rfl rfl ?_
  refine gw_aload_n 6 d_X12_heardAll_5 rfl rfl ?_
  refine gw_getI 9 d_X12_heardAll_6 rfl F_12_120 sh_117 rfl (kz := 6) rfl ?_
  refine gw_icmp_ge 27 12 d_X12_heardAll_9 rfl rfl (fun c1 => ?_) (fun c1 => ?_)
  · skip
    refine gw_iload_n 28 d_X12_heardAll_27 rfl rfl ?_
    exact gw_ireturn d_X12_heardAll_28 (Or.inl rfl) (h.1 c1)
  · skip
    refine gw_iload_n 13 d_X12_heardAll_12 rfl rfl ?_
    refine gw_aload_n 14 d_X12_heardAll_13 rfl rfl ?_
    refine gw_getR 17 d_X12_heardAll_14 rfl F_12_52 sh_117 rfl ?_
    refine gw_iload_n 18 d_X12_heardAll_17 rfl rfl ?_
    refine gw_iaload 19 d_X12_heardAll_18 rfl sh_132 (h.2 c1).1 ?_
    refine gw_iadd 20 d_X12_heardAll_19 rfl  ?_
    refine gw_istore_n (ls' := [some (gR 117), some (gI (gw_w (x1 + (m 132 x2)))), some (gI x2)]) 21 d_X12_heardAll_20 rfl rfl rfl rfl ?_
    refine gw_iinc (ls' := [some (gR 117), some (gI (gw_w (x1 + (m 132 x2)))), some (gI (gw_w (x2 + 1)))]) 24 d_X12_heardAll_21 rfl rfl rfl rfl rfl ?_
    refine gw_goto 4 d_X12_heardAll_24 rfl ?_
    exact (h.2 c1).2
set_option maxRecDepth 100000 in
set_option maxHeartbeats 4000000 in
theorem r_X12_leastOff_0 {d : Nat} {QR : Option gw_SV → gw_Mem → Prop} {Γ : gw_Ga} (m : gw_Mem) (h : gw_G M_X12_leastOff d QR Γ 5 [some (gR 117), some (gI (-4)), some (gI 0)] [] m) : gw_G M_X12_leastOff d QR Γ 0 [some (gR 117), none, none] [] m := by
  refine gw_bipush 2 d_X12_leastOff_0 rfl rfl (by decide) ?_
  refine gw_istore_n (ls' := [some (gR 117), some (gI (-4)), none]) 3 d_X12_leastOff_2 rfl rfl rfl rfl ?_
  refine gw_iconst 4 d_X12_leastOff_3 rfl rfl ?_
  refine gw_istore_n (ls' := [some (gR 117), some (gI (-4)), some (gI 0)]) 5 d_X12_leastOff_4 rfl rfl rfl rfl ?_
  exact h
set_option maxRecDepth 100000 in
set_option maxHeartbeats 4000000 in
theorem r_X12_leastOff_5 {d : Nat} {QR : Option gw_SV → gw_Mem → Prop} {Γ : gw_Ga} (x1 : Int) (x2 : Int) (m : gw_Mem) (h : ((m 117 6 ≤ x2 → QR (some (gI x1)) m) ∧ (¬ (m 117 6 ≤ x2) → (x1 < 0 → gw_in x2 10) ∧ (¬ (x1 < 0) → gw_in x2 10 ∧ (¬ (x1 ≤ m 132 x2) → gw_in x2 10)) ∧ gw_G M_X12_leastOff d QR Γ 5 [some (gR 117), some (gI (if x1 < 0 then m 132 x2 else (if x1 ≤ m 132 x2 then x1 else m 132 x2))), some (gI (gw_w (x2 + 1)))] [] m))) : gw_G M_X12_leastOff d QR Γ 5 [some (gR 117), some (gI x1), some (gI x2)] [] m := by
  refine gw_iload_n 6 d_X12_leastOff_5 rfl rfl ?_
  refine gw_aload_n 7 d_X12_leastOff_6 rfl rfl ?_
  refine gw_getI 10 d_X12_leastOff_7 rfl F_12_120 sh_117 rfl (kz := 6) rfl ?_
  refine gw_icmp_ge 44 13 d_X12_leastOff_10 rfl rfl (fun c1 => ?_) (fun c1 => ?_)
  · skip
    refine gw_iload_n 45 d_X12_leastOff_44 rfl rfl ?_
    exact gw_ireturn d_X12_leastOff_45 (Or.inl rfl) (h.1 c1)
  · skip
    refine gw_iload_n 14 d_X12_leastOff_13 rfl rfl ?_
    have j2 : gw_G M_X12_leastOff d QR Γ 37 [some (gR 117), some (gI x1), some (gI x2)] [gI (if x1 < 0 then m 132 x2 else (if x1 ≤ m 132 x2 then x1 else m 132 x2))] m := by
      refine gw_istore_n (ls' := [some (gR 117), some (gI (if x1 < 0 then m 132 x2 else (if x1 ≤ m 132 x2 then x1 else m 132 x2))), some (gI x2)]) 38 d_X12_leastOff_37 rfl rfl rfl rfl ?_
      refine gw_iinc (ls' := [some (gR 117), some (gI (if x1 < 0 then m 132 x2 else (if x1 ≤ m 132 x2 then x1 else m 132 x2))), some (gI (gw_w (x2 + 1)))]) 41 d_X12_leastOff_38 rfl rfl rfl rfl rfl ?_
      refine gw_goto 5 d_X12_leastOff_41 rfl ?_
      exact (h.2 c1).2.2
    refine gw_if_lt 27 17 d_X12_leastOff_14 rfl rfl (fun c3 => ?_) (fun c3 => ?_)
    · skip
      refine gw_aload_n 28 d_X12_leastOff_27 rfl rfl ?_
      refine gw_getR 31 d_X12_leastOff_28 rfl F_12_52 sh_117 rfl ?_
      refine gw_iload_n 32 d_X12_leastOff_31 rfl rfl ?_
      refine gw_iaload 33 d_X12_leastOff_32 rfl sh_132 ((h.2 c1).1 c3) ?_
      refine gw_goto 37 d_X12_leastOff_33 rfl ?_
      simpa only [if_pos c3] using j2
    · skip
      refine gw_aload_n 18 d_X12_leastOff_17 rfl rfl ?_
      refine gw_getR 21 d_X12_leastOff_18 rfl F_12_52 sh_117 rfl ?_
      refine gw_iload_n 22 d_X12_leastOff_21 rfl rfl ?_
      refine gw_iaload 23 d_X12_leastOff_22 rfl sh_132 ((h.2 c1).2.1 c3).1 ?_
      refine gw_iload_n 24 d_X12_leastOff_23 rfl rfl ?_
      refine gw_icmp_ge 36 27 d_X12_leastOff_24 rfl rfl (fun c4 => ?_) (fun c4 => ?_)
      · skip
        refine gw_iload_n 37 d_X12_leastOff_36 rfl rfl ?_
        simpa only [if_neg c3, if_pos c4] using j2
      · skip
        refine gw_aload_n 28 d_X12_leastOff_27 rfl rfl ?_
        refine gw_getR 31 d_X12_leastOff_28 rfl F_12_52 sh_117 rfl ?_
        refine gw_iload_n 32 d_X12_leastOff_31 rfl rfl ?_
        refine gw_iaload 33 d_X12_leastOff_32 rfl sh_132 (((h.2 c1).2.1 c3).2 c4) ?_
        refine gw_goto 37 d_X12_leastOff_33 rfl ?_
        simpa only [if_neg c3, if_neg c4] using j2
set_option maxRecDepth 100000 in
set_option maxHeartbeats 4000000 in
theorem r_X12_allThere_0 {d : Nat} {QR : Option gw_SV → gw_Mem → Prop} {Γ : gw_Ga} (m : gw_Mem) (h : gw_G M_X12_allThere d QR Γ 5 [some (gR 117), some (gI (-4)), some (gI 0)] [] m) : gw_G M_X12_allThere d QR Γ 0 [some (gR 117), none, none] [] m := by
  refine gw_bipush 2 d_X12_allThere_0 rfl rfl (by decide) ?_
  refine gw_istore_n (ls' := [some (gR 117), some (gI (-4)), none]) 3 d_X12_allThere_2 rfl rfl rfl rfl ?_
  refine gw_iconst 4 d_X12_allThere_3 rfl rfl ?_
  refine gw_istore_n (ls' := [some (gR 117), some (gI (-4)), some (gI 0)]) 5 d_X12_allThere_4 rfl rfl rfl rfl ?_
  exact h
set_option maxRecDepth 100000 in
set_option maxHeartbeats 4000000 in
theorem r_X12_allThere_5 {d : Nat} {QR : Option gw_SV → gw_Mem → Prop} {Γ : gw_Ga} (x1 : Int) (x2 : Int) (m : gw_Mem) (h : ((m 117 6 ≤ x2 → QR (some (gI x1)) m) ∧ (¬ (m 117 6 ≤ x2) → gw_in x2 10 ∧ ((0 ≤ m 134 x2 → gw_in x2 10 ∧ (¬ (m 134 x2 ≤ x1) → gw_in x2 10) ∧ gw_G M_X12_allThere d QR Γ 5 [some (gR 117), some (gI (if m 134 x2 ≤ x1 then x1 else m 134 x2)), some (gI (gw_w (x2 + 1)))] [] m) ∧ (¬ (0 ≤ m 134 x2) → QR (some (gI (-4))) m))))) : gw_G M_X12_allThere d QR Γ 5 [some (gR 117), some (gI x1), some (gI x2)] [] m := by
  refine gw_iload_n 6 d_X12_allThere_5 rfl rfl ?_
  refine gw_aload_n 7 d_X12_allThere_6 rfl rfl ?_
  refine gw_getI 10 d_X12_allThere_7 rfl F_12_120 sh_117 rfl (kz := 6) rfl ?_
  refine gw_icmp_ge 52 13 d_X12_allThere_10 rfl rfl (fun c1 => ?_) (fun c1 => ?_)
  · skip
    refine gw_iload_n 53 d_X12_allThere_52 rfl rfl ?_
    exact gw_ireturn d_X12_allThere_53 (Or.inl rfl) (h.1 c1)
  · skip
    refine gw_aload_n 14 d_X12_allThere_13 rfl rfl ?_
    refine gw_getR 17 d_X12_allThere_14 rfl F_12_58 sh_117 rfl ?_
    refine gw_iload_n 18 d_X12_allThere_17 rfl rfl ?_
    refine gw_iaload 19 d_X12_allThere_18 rfl sh_134 (h.2 c1).1 ?_
    refine gw_if_ge 25 22 d_X12_allThere_19 rfl rfl (fun c2 => ?_) (fun c2 => ?_)
    · skip
      refine gw_aload_n 26 d_X12_allThere_25 rfl rfl ?_
      refine gw_getR 29 d_X12_allThere_26 rfl F_12_58 sh_117 rfl ?_
      refine gw_iload_n 30 d_X12_allThere_29 rfl rfl ?_
      refine gw_iaload 31 d_X12_allThere_30 rfl sh_134 ((h.2 c1).2.1 c2).1 ?_
      refine gw_iload_n 32 d_X12_allThere_31 rfl rfl ?_
      have j3 : gw_G M_X12_allThere d QR Γ 45 [some (gR 117), some (gI x1), some (gI x2)] [gI (if m 134 x2 ≤ x1 then x1 else m 134 x2)] m := by
        refine gw_istore_n (ls' := [some (gR 117), some (gI (if m 134 x2 ≤ x1 then x1 else m 134 x2)), some (gI x2)]) 46 d_X12_allThere_45 rfl rfl rfl rfl ?_
        refine gw_iinc (ls' := [some (gR 117), some (gI (if m 134 x2 ≤ x1 then x1 else m 134 x2)), some (gI (gw_w (x2 + 1)))]) 49 d_X12_allThere_46 rfl rfl rfl rfl rfl ?_
        refine gw_goto 5 d_X12_allThere_49 rfl ?_
        exact ((h.2 c1).2.1 c2).2.2
      refine gw_icmp_le 44 35 d_X12_allThere_32 rfl rfl (fun c4 => ?_) (fun c4 => ?_)
      · skip
        refine gw_iload_n 45 d_X12_allThere_44 rfl rfl ?_
        simpa only [if_pos c4] using j3
      · skip
        refine gw_aload_n 36 d_X12_allThere_35 rfl rfl ?_
        refine gw_getR 39 d_X12_allThere_36 rfl F_12_58 sh_117 rfl ?_
        refine gw_iload_n 40 d_X12_allThere_39 rfl rfl ?_
        refine gw_iaload 41 d_X12_allThere_40 rfl sh_134 (((h.2 c1).2.1 c2).2.1 c4) ?_
        refine gw_goto 45 d_X12_allThere_41 rfl ?_
        simpa only [if_neg c4] using j3
    · skip
      refine gw_bipush 24 d_X12_allThere_22 rfl rfl (by decide) ?_
      exact gw_ireturn d_X12_allThere_24 (Or.inl rfl) ((h.2 c1).2.2 c2)
set_option maxRecDepth 100000 in
set_option maxHeartbeats 4000000 in
theorem r_X12_all_0 {d : Nat} {QR : Option gw_SV → gw_Mem → Prop} {Γ : gw_Ga} (x1 : Int) (m : gw_Mem) (h : gw_CI d M_X12_in [gL x1, gL 0, gL 5] m (fun v1 m2 => ((v1 = 0 → QR (some (gI (-1))) m2) ∧ (¬ (v1 = 0) → gw_CV d M_X12_walks [gR 117] m2 (fun m4 => gw_G M_X12_all d QR Γ 22 [some (gR 117), some (gI x1), some (gI 0), some (gI 0)] [] m4))))) : gw_G M_X12_all d QR Γ 0 [some (gR 117), some (gI x1), none, none] [] m := by
  refine gw_iload_n 1 d_X12_all_0 rfl rfl ?_
  refine gw_i2lR 2 d_X12_all_1 rfl  ?_
  refine gw_lconst 3 d_X12_all_2 rfl (n := 0) rfl (by decide) ?_
  refine gw_ldc2 6 d_X12_all_3 rfl ct_12_266 (n := 5) (gw_rb_inL (gw_rb_in rfl)) (by decide) ?_
  refine gw_cSI (a := [gL x1, gL 0, gL 5]) (rest := []) 9 d_X12_all_6 rfl ml_12_98 v_X12_in rfl rfl rfl h (fun v1 m2 h3 => ?_)
  refine gw_if_ne 14 12 d_X12_all_9 rfl rfl (fun c18 => ?_) (fun c18 => ?_)
  · skip
    refine gw_iconst 13 d_X12_all_12 rfl rfl ?_
    exact gw_ireturn d_X12_all_13 (Or.inl rfl) (h3.1 c18)
  · skip
    refine gw_aload_n 15 d_X12_all_14 rfl rfl ?_
    refine gw_cVV (a := []) (rest := []) 18 d_X12_all_15 rfl ml_12_259 v_X12_walks rfl sh_117 rfl rfl rfl (h3.2 c18) (fun m4 h5 => ?_)
    refine gw_iconst 19 d_X12_all_18 rfl rfl ?_
    refine gw_istore_n (ls' := [some (gR 117), some (gI x1), some (gI 0), none]) 20 d_X12_all_19 rfl rfl rfl rfl ?_
    refine gw_iconst 21 d_X12_all_20 rfl rfl ?_
    refine gw_istore_n (ls' := [some (gR 117), some (gI x1), some (gI 0), some (gI 0)]) 22 d_X12_all_21 rfl rfl rfl rfl ?_
    exact h5
set_option maxRecDepth 100000 in
set_option maxHeartbeats 4000000 in
theorem r_X12_all_22 {d : Nat} {QR : Option gw_SV → gw_Mem → Prop} {Γ : gw_Ga} (x1 : Int) (x2 : Int) (x3 : Int) (m : gw_Mem) (h : ((m 117 6 ≤ x3 → ((x1 = 0 → gw_CI d M_X12_heardAll [gR 117] m (fun v6 m7 => QR (some (gI v6)) m7)) ∧ (x1 = 1 → gw_CI d M_X12_leastOff [gR 117] m (fun v9 m10 => QR (some (gI v9)) m10)) ∧ (x1 = 2 → QR (some (gI (m 117 29))) m) ∧ (x1 = 3 → gw_CI d M_X12_allThere [gR 117] m (fun v12 m13 => QR (some (gI v12)) m13)) ∧ (x1 = 4 → QR (some (gI (m 117 30))) m) ∧ ((x1 < 0 ∨ 4 < x1) → QR (some (gI x2)) m))) ∧ (¬ (m 117 6 ≤ x3) → gw_CI d M_X12_isLost [gR 117, gI x3] m (fun v15 m16 => gw_G M_X12_all d QR Γ 22 [some (gR 117), some (gI x1), some (gI (gw_or x2 (if v15 = 0 then (0 : Int) else gw_shl 1 x3))), some (gI (gw_w (x3 + 1)))] [] m16)))) : gw_G M_X12_all d QR Γ 22 [some (gR 117), some (gI x1), some (gI x2), some (gI x3)] [] m := by
  refine gw_iload_n 23 d_X12_all_22 rfl rfl ?_
  refine gw_aload_n 24 d_X12_all_23 rfl rfl ?_
  refine gw_getI 27 d_X12_all_24 rfl F_12_120 sh_117 rfl (kz := 6) rfl ?_
  refine gw_icmp_ge 54 30 d_X12_all_27 rfl rfl (fun c19 => ?_) (fun c19 => ?_)
  · skip
    refine gw_iload_n 55 d_X12_all_54 rfl rfl ?_
    refine (Decidable.em (x1 = 0)).elim (fun c20 => ?_) (fun c20 => ?_)
    · refine gw_tswIn (k := 0) 88 d_X12_all_55 (by omega) (by omega) rfl rfl ?_
      refine gw_aload_n 89 d_X12_all_88 rfl rfl ?_
      refine gw_cVI (a := []) (rest := []) 92 d_X12_all_89 rfl ml_12_268 v_X12_heardAll rfl sh_117 rfl rfl rfl ((h.1 c19).1 c20) (fun v6 m7 h8 => ?_)
      exact gw_ireturn d_X12_all_92 (Or.inl rfl) h8
    refine (Decidable.em (x1 = 1)).elim (fun c21 => ?_) (fun c21 => ?_)
    · refine gw_tswIn (k := 1) 93 d_X12_all_55 (by omega) (by omega) rfl rfl ?_
      refine gw_aload_n 94 d_X12_all_93 rfl rfl ?_
      refine gw_cVI (a := []) (rest := []) 97 d_X12_all_94 rfl ml_12_271 v_X12_leastOff rfl sh_117 rfl rfl rfl ((h.1 c19).2.1 c21) (fun v9 m10 h11 => ?_)
      exact gw_ireturn d_X12_all_97 (Or.inl rfl) h11
    refine (Decidable.em (x1 = 2)).elim (fun c22 => ?_) (fun c22 => ?_)
    · refine gw_tswIn (k := 2) 98 d_X12_all_55 (by omega) (by omega) rfl rfl ?_
      refine gw_aload_n 99 d_X12_all_98 rfl rfl ?_
      refine gw_getI 102 d_X12_all_99 rfl F_12_236 sh_117 rfl (kz := 29) rfl ?_
      exact gw_ireturn d_X12_all_102 (Or.inl rfl) ((h.1 c19).2.2.1 c22)
    refine (Decidable.em (x1 = 3)).elim (fun c23 => ?_) (fun c23 => ?_)
    · refine gw_tswIn (k := 3) 103 d_X12_all_55 (by omega) (by omega) rfl rfl ?_
      refine gw_aload_n 104 d_X12_all_103 rfl rfl ?_
      refine gw_cVI (a := []) (rest := []) 107 d_X12_all_104 rfl ml_12_274 v_X12_allThere rfl sh_117 rfl rfl rfl ((h.1 c19).2.2.2.1 c23) (fun v12 m13 h14 => ?_)
      exact gw_ireturn d_X12_all_107 (Or.inl rfl) h14
    refine (Decidable.em (x1 = 4)).elim (fun c24 => ?_) (fun c24 => ?_)
    · refine gw_tswIn (k := 4) 108 d_X12_all_55 (by omega) (by omega) rfl rfl ?_
      refine gw_aload_n 109 d_X12_all_108 rfl rfl ?_
      refine gw_getI 112 d_X12_all_109 rfl F_12_246 sh_117 rfl (kz := 30) rfl ?_
      exact gw_ireturn d_X12_all_112 (Or.inl rfl) ((h.1 c19).2.2.2.2.1 c24)
    have c25 : x1 < 0 ∨ 4 < x1 := by omega
    refine gw_tswOut 113 d_X12_all_55 c25 rfl ?_
    refine gw_iload_n 114 d_X12_all_113 rfl rfl ?_
    exact gw_ireturn d_X12_all_114 (Or.inl rfl) ((h.1 c19).2.2.2.2.2 c25)
  · skip
    refine gw_iload_n 31 d_X12_all_30 rfl rfl ?_
    refine gw_aload_n 32 d_X12_all_31 rfl rfl ?_
    refine gw_iload_n 33 d_X12_all_32 rfl rfl ?_
    refine gw_cVI (a := [gI x3]) (rest := [gI x2]) 36 d_X12_all_33 rfl ml_12_196 v_X12_isLost rfl sh_117 rfl rfl rfl (h.2 c19) (fun v15 m16 h17 => ?_)
    have j26 : gw_G M_X12_all d QR Γ 46 [some (gR 117), some (gI x1), some (gI x2), some (gI x3)] [gI (if v15 = 0 then (0 : Int) else gw_shl 1 x3), gI x2] m16 := by
      refine gw_ior 47 d_X12_all_46 rfl  ?_
      refine gw_istore_n (ls' := [some (gR 117), some (gI x1), some (gI (gw_or x2 (if v15 = 0 then (0 : Int) else gw_shl 1 x3))), some (gI x3)]) 48 d_X12_all_47 rfl rfl rfl rfl ?_
      refine gw_iinc (ls' := [some (gR 117), some (gI x1), some (gI (gw_or x2 (if v15 = 0 then (0 : Int) else gw_shl 1 x3))), some (gI (gw_w (x3 + 1)))]) 51 d_X12_all_48 rfl rfl rfl rfl rfl ?_
      refine gw_goto 22 d_X12_all_51 rfl ?_
      exact h17
    refine gw_if_eq 45 39 d_X12_all_36 rfl rfl (fun c27 => ?_) (fun c27 => ?_)
    · skip
      refine gw_iconst 46 d_X12_all_45 rfl rfl ?_
      simpa only [if_pos c27] using j26
    · skip
      refine gw_iconst 40 d_X12_all_39 rfl rfl ?_
      refine gw_iload_n 41 d_X12_all_40 rfl rfl ?_
      refine gw_ishl 42 d_X12_all_41 rfl  ?_
      refine gw_goto 46 d_X12_all_42 rfl ?_
      simpa only [if_neg c27] using j26
set_option maxRecDepth 100000 in
set_option maxHeartbeats 4000000 in
theorem r_X12_best_0 {d : Nat} {QR : Option gw_SV → gw_Mem → Prop} {Γ : gw_Ga} (x1 : Int) (x2 : Int) (m : gw_Mem) (h : gw_CI d M_X12_in [gL x1, gL 0, gL 299] m (fun v1 m2 => ((v1 = 0 → QR (some (gI (-1))) m2) ∧ (¬ (v1 = 0) → gw_CI d M_X12_in [gL x2, gL 0, gL 3] m2 (fun v4 m5 => ((v4 = 0 → QR (some (gI (-1))) m5) ∧ (¬ (v4 = 0) → ((m5 117 6 = 0 → QR (some (gI (-2))) m5) ∧ (¬ (m5 117 6 = 0) → gw_G M_X12_best d QR Γ 69 [some (gR 117), some (gI x1), some (gI x2), some (gI (m5 122 0)), some (gI (m5 122 1)), some (gI (m5 122 2)), some (gI (-4)), some (gI (-1)), some (gI 0), none, none] [] m5))))))))) : gw_G M_X12_best d QR Γ 0 [some (gR 117), some (gI x1), some (gI x2), none, none, none, none, none, none, none, none] [] m := by
  refine gw_iload_n 1 d_X12_best_0 rfl rfl ?_
  refine gw_i2lR 2 d_X12_best_1 rfl  ?_
  refine gw_lconst 3 d_X12_best_2 rfl (n := 0) rfl (by decide) ?_
  refine gw_ldc2 6 d_X12_best_3 rfl ct_12_262 (n := 299) (gw_rb_inL (gw_rb_in rfl)) (by decide) ?_
  refine gw_cSI (a := [gL x1, gL 0, gL 299]) (rest := []) 9 d_X12_best_6 rfl ml_12_98 v_X12_in rfl rfl rfl h (fun v1 m2 h3 => ?_)
  refine gw_if_eq 24 12 d_X12_best_9 rfl rfl (fun c18 => ?_) (fun c18 => ?_)
  · skip
    refine gw_iconst 25 d_X12_best_24 rfl rfl ?_
    exact gw_ireturn d_X12_best_25 (Or.inl rfl) (h3.1 c18)
  · skip
    refine gw_iload_n 13 d_X12_best_12 rfl rfl ?_
    refine gw_i2lR 14 d_X12_best_13 rfl  ?_
    refine gw_lconst 15 d_X12_best_14 rfl (n := 0) rfl (by decide) ?_
    refine gw_ldc2 18 d_X12_best_15 rfl ct_12_106 (n := 3) (gw_rb_inL (gw_rb_in rfl)) (by decide) ?_
    refine gw_cSI (a := [gL x2, gL 0, gL 3]) (rest := []) 21 d_X12_best_18 rfl ml_12_98 v_X12_in rfl rfl rfl (h3.2 c18) (fun v4 m5 h6 => ?_)
    refine gw_if_ne 26 24 d_X12_best_21 rfl rfl (fun c19 => ?_) (fun c19 => ?_)
    · skip
      refine gw_iconst 25 d_X12_best_24 rfl rfl ?_
      exact gw_ireturn d_X12_best_25 (Or.inl rfl) (h6.1 c19)
    · skip
      refine gw_aload_n 27 d_X12_best_26 rfl rfl ?_
      refine gw_getI 30 d_X12_best_27 rfl F_12_120 sh_117 rfl (kz := 6) rfl ?_
      refine gw_if_ne 36 33 d_X12_best_30 rfl rfl (fun c20 => ?_) (fun c20 => ?_)
      · skip
        refine gw_bipush 35 d_X12_best_33 rfl rfl (by decide) ?_
        exact gw_ireturn d_X12_best_35 (Or.inl rfl) ((h6.2 c19).1 c20)
      · skip
        refine gw_aload_n 37 d_X12_best_36 rfl rfl ?_
        refine gw_getR 40 d_X12_best_37 rfl F_12_22 sh_117 rfl ?_
        refine gw_iconst 41 d_X12_best_40 rfl rfl ?_
        refine gw_iaload 42 d_X12_best_41 rfl sh_122 (gw_inN (k := 0) rfl) ?_
        refine gw_istore_n (ls' := [some (gR 117), some (gI x1), some (gI x2), some (gI (m5 122 0)), none, none, none, none, none, none, none]) 43 d_X12_best_42 rfl rfl rfl rfl ?_
        refine gw_aload_n 44 d_X12_best_43 rfl rfl ?_
        refine gw_getR 47 d_X12_best_44 rfl F_12_22 sh_117 rfl ?_
        refine gw_iconst 48 d_X12_best_47 rfl rfl ?_
        refine gw_iaload 49 d_X12_best_48 rfl sh_122 (gw_inN (k := 1) rfl) ?_
        refine gw_istore (ls' := [some (gR 117), some (gI x1), some (gI x2), some (gI (m5 122 0)), some (gI (m5 122 1)), none, none, none, none, none, none]) 51 d_X12_best_49 rfl rfl rfl rfl ?_
        refine gw_aload_n 52 d_X12_best_51 rfl rfl ?_
        refine gw_getR 55 d_X12_best_52 rfl F_12_22 sh_117 rfl ?_
        refine gw_iconst 56 d_X12_best_55 rfl rfl ?_
        refine gw_iaload 57 d_X12_best_56 rfl sh_122 (gw_inN (k := 2) rfl) ?_
        refine gw_istore (ls' := [some (gR 117), some (gI x1), some (gI x2), some (gI (m5 122 0)), some (gI (m5 122 1)), some (gI (m5 122 2)), none, none, none, none, none]) 59 d_X12_best_57 rfl rfl rfl rfl ?_
        refine gw_bipush 61 d_X12_best_59 rfl rfl (by decide) ?_
        refine gw_istore (ls' := [some (gR 117), some (gI x1), some (gI x2), some (gI (m5 122 0)), some (gI (m5 122 1)), some (gI (m5 122 2)), some (gI (-4)), none, none, none, none]) 63 d_X12_best_61 rfl rfl rfl rfl ?_
        refine gw_iconst 64 d_X12_best_63 rfl rfl ?_
        refine gw_istore (ls' := [some (gR 117), some (gI x1), some (gI x2), some (gI (m5 122 0)), some (gI (m5 122 1)), some (gI (m5 122 2)), some (gI (-4)), some (gI (-1)), none, none, none]) 66 d_X12_best_64 rfl rfl rfl rfl ?_
        refine gw_iconst 67 d_X12_best_66 rfl rfl ?_
        refine gw_istore (ls' := [some (gR 117), some (gI x1), some (gI x2), some (gI (m5 122 0)), some (gI (m5 122 1)), some (gI (m5 122 2)), some (gI (-4)), some (gI (-1)), some (gI 0), none, none]) 69 d_X12_best_67 rfl rfl rfl rfl ?_
        exact ((h6.2 c19).2 c20)
set_option maxRecDepth 100000 in
set_option maxHeartbeats 4000000 in
theorem r_X12_best_69 {d : Nat} {QR : Option gw_SV → gw_Mem → Prop} {Γ : gw_Ga} (x1 : Int) (x2 : Int) (x3 : Int) (x4 : Int) (x5 : Int) (x6 : Int) (x7 : Int) (x8 : Int) (y9 : Option gw_SV) (y10 : Option gw_SV) (m : gw_Mem) (h : ((220 ≤ x8 → QR (some (gI (if 0 ≤ x6 then (if x2 = 0 then gw_w (1 + (gw_w (x6.tdiv 55))) else (if x2 = 1 then (gw_w (x6.tdiv 5)).tmod 11 else (if x2 = 2 then x6.tmod 5 else x7))) else (-4 : Int)))) (gw_up (gw_up (gw_up m 122 0 x3) 122 1 x4) 122 2 x5)) ∧ (¬ (220 ≤ x8) → gw_CV d M_X12_walks [gR 117] (gw_up (gw_up (gw_up m 122 0 (gw_w (1 + (gw_w (x8.tdiv 55))))) 122 1 ((gw_w (x8.tdiv 5)).tmod 11)) 122 2 (x8.tmod 5)) (fun m7 => gw_CI d M_X12_allThere [gR 117] m7 (fun v9 m10 => ((v9 < 0 → gw_G M_X12_best d QR Γ 147 [some (gR 117), some (gI x1), some (gI x2), some (gI x3), some (gI x4), some (gI x5), some (gI x6), some (gI x7), some (gI x8), some (gI v9), y10] [] m10) ∧ (¬ (v9 < 0) → ((x1 < v9 → gw_G M_X12_best d QR Γ 147 [some (gR 117), some (gI x1), some (gI x2), some (gI x3), some (gI x4), some (gI x5), some (gI x6), some (gI x7), some (gI x8), some (gI v9), y10] [] m10) ∧ (¬ (x1 < v9) → gw_CI d M_X12_leastOff [gR 117] m10 (fun v12 m13 => ((v12 ≤ x7 → gw_G M_X12_best d QR Γ 147 [some (gR 117), some (gI x1), some (gI x2), some (gI x3), some (gI x4), some (gI x5), some (gI x6), some (gI x7), some (gI x8), some (gI v9), y10] [] m13) ∧ (¬ (v12 ≤ x7) → gw_G M_X12_best d QR Γ 148 [some (gR 117), some (gI x1), some (gI x2), some (gI x3), some (gI x4), some (gI x5), some (gI x6), some (gI x7), some (gI x8), some (gI v9), y10] [gI 1] m13)))))))))))) : gw_G M_X12_best d QR Γ 69 [some (gR 117), some (gI x1), some (gI x2), some (gI x3), some (gI x4), some (gI x5), some (gI x6), some (gI x7), some (gI x8), y9, y10] [] m := by
  refine gw_iload 71 d_X12_best_69 rfl rfl ?_
  refine gw_sipush 74 d_X12_best_71 rfl rfl (by decide) ?_
  refine gw_icmp_ge 186 77 d_X12_best_74 rfl rfl (fun c21 => ?_) (fun c21 => ?_)
  · skip
    refine gw_aload_n 187 d_X12_best_186 rfl rfl ?_
    refine gw_getR 190 d_X12_best_187 rfl F_12_22 sh_117 rfl ?_
    refine gw_iconst 191 d_X12_best_190 rfl rfl ?_
    refine gw_iload_n 192 d_X12_best_191 rfl rfl ?_
    refine gw_iastore 193 d_X12_best_192 rfl sh_122 (gw_inN (k := 0) rfl) ?_
    refine gw_aload_n 194 d_X12_best_193 rfl rfl ?_
    refine gw_getR 197 d_X12_best_194 rfl F_12_22 sh_117 rfl ?_
    refine gw_iconst 198 d_X12_best_197 rfl rfl ?_
    refine gw_iload 200 d_X12_best_198 rfl rfl ?_
    refine gw_iastore 201 d_X12_best_200 rfl sh_122 (gw_inN (k := 1) rfl) ?_
    refine gw_aload_n 202 d_X12_best_201 rfl rfl ?_
    refine gw_getR 205 d_X12_best_202 rfl F_12_22 sh_117 rfl ?_
    refine gw_iconst 206 d_X12_best_205 rfl rfl ?_
    refine gw_iload 208 d_X12_best_206 rfl rfl ?_
    refine gw_iastore 209 d_X12_best_208 rfl sh_122 (gw_inN (k := 2) rfl) ?_
    refine gw_iload 211 d_X12_best_209 rfl rfl ?_
    have j22 : gw_G M_X12_best d QR Γ 262 [some (gR 117), some (gI x1), some (gI x2), some (gI x3), some (gI x4), some (gI x5), some (gI x6), some (gI x7), some (gI x8), y9, y10] [gI (if 0 ≤ x6 then (if x2 = 0 then gw_w (1 + (gw_w (x6.tdiv 55))) else (if x2 = 1 then (gw_w (x6.tdiv 5)).tmod 11 else (if x2 = 2 then x6.tmod 5 else x7))) else (-4 : Int))] (gw_up (gw_up (gw_up m 122 0 x3) 122 1 x4) 122 2 x5) := by
      exact gw_ireturn d_X12_best_262 (Or.inl rfl) (h.1 c21)
    refine gw_if_ge 219 214 d_X12_best_211 rfl rfl (fun c23 => ?_) (fun c23 => ?_)
    · skip
      refine gw_iload_n 220 d_X12_best_219 rfl rfl ?_
      refine gw_if_ne 233 223 d_X12_best_220 rfl rfl (fun c24 => ?_) (fun c24 => ?_)
      · skip
        refine gw_iconst 224 d_X12_best_223 rfl rfl ?_
        refine gw_iload 226 d_X12_best_224 rfl rfl ?_
        refine gw_bipush 228 d_X12_best_226 rfl rfl (by decide) ?_
        refine gw_idiv 229 d_X12_best_228 rfl (by decide) ?_
        refine gw_iadd 230 d_X12_best_229 rfl  ?_
        refine gw_goto 262 d_X12_best_230 rfl ?_
        simpa only [if_pos c23, if_pos c24] using j22
      · skip
        refine gw_iload_n 234 d_X12_best_233 rfl rfl ?_
        refine gw_iconst 235 d_X12_best_234 rfl rfl ?_
        refine gw_icmp_ne 248 238 d_X12_best_235 rfl rfl (fun c25 => ?_) (fun c25 => ?_)
        · skip
          refine gw_iload 240 d_X12_best_238 rfl rfl ?_
          refine gw_iconst 241 d_X12_best_240 rfl rfl ?_
          refine gw_idiv 242 d_X12_best_241 rfl (by decide) ?_
          refine gw_bipush 244 d_X12_best_242 rfl rfl (by decide) ?_
          refine gw_irem 245 d_X12_best_244 rfl (by decide) ?_
          refine gw_goto 262 d_X12_best_245 rfl ?_
          simpa only [if_pos c23, if_neg c24, if_pos c25] using j22
        · skip
          refine gw_iload_n 249 d_X12_best_248 rfl rfl ?_
          refine gw_iconst 250 d_X12_best_249 rfl rfl ?_
          refine gw_icmp_ne 260 253 d_X12_best_250 rfl rfl (fun c26 => ?_) (fun c26 => ?_)
          · skip
            refine gw_iload 255 d_X12_best_253 rfl rfl ?_
            refine gw_iconst 256 d_X12_best_255 rfl rfl ?_
            refine gw_irem 257 d_X12_best_256 rfl (by decide) ?_
            refine gw_goto 262 d_X12_best_257 rfl ?_
            simpa only [if_pos c23, if_neg c24, if_neg c25, if_pos c26] using j22
          · skip
            refine gw_iload 262 d_X12_best_260 rfl rfl ?_
            simpa only [if_pos c23, if_neg c24, if_neg c25, if_neg c26] using j22
    · skip
      refine gw_bipush 216 d_X12_best_214 rfl rfl (by decide) ?_
      refine gw_goto 262 d_X12_best_216 rfl ?_
      simpa only [if_neg c23] using j22
  · skip
    refine gw_aload_n 78 d_X12_best_77 rfl rfl ?_
    refine gw_getR 81 d_X12_best_78 rfl F_12_22 sh_117 rfl ?_
    refine gw_iconst 82 d_X12_best_81 rfl rfl ?_
    refine gw_iconst 83 d_X12_best_82 rfl rfl ?_
    refine gw_iload 85 d_X12_best_83 rfl rfl ?_
    refine gw_bipush 87 d_X12_best_85 rfl rfl (by decide) ?_
    refine gw_idiv 88 d_X12_best_87 rfl (by decide) ?_
    refine gw_iadd 89 d_X12_best_88 rfl  ?_
    refine gw_iastore 90 d_X12_best_89 rfl sh_122 (gw_inN (k := 0) rfl) ?_
    refine gw_aload_n 91 d_X12_best_90 rfl rfl ?_
    refine gw_getR 94 d_X12_best_91 rfl F_12_22 sh_117 rfl ?_
    refine gw_iconst 95 d_X12_best_94 rfl rfl ?_
    refine gw_iload 97 d_X12_best_95 rfl rfl ?_
    refine gw_iconst 98 d_X12_best_97 rfl rfl ?_
    refine gw_idiv 99 d_X12_best_98 rfl (by decide) ?_
    refine gw_bipush 101 d_X12_best_99 rfl rfl (by decide) ?_
    refine gw_irem 102 d_X12_best_101 rfl (by decide) ?_
    refine gw_iastore 103 d_X12_best_102 rfl sh_122 (gw_inN (k := 1) rfl) ?_
    refine gw_aload_n 104 d_X12_best_103 rfl rfl ?_
    refine gw_getR 107 d_X12_best_104 rfl F_12_22 sh_117 rfl ?_
    refine gw_iconst 108 d_X12_best_107 rfl rfl ?_
    refine gw_iload 110 d_X12_best_108 rfl rfl ?_
    refine gw_iconst 111 d_X12_best_110 rfl rfl ?_
    refine gw_irem 112 d_X12_best_111 rfl (by decide) ?_
    refine gw_iastore 113 d_X12_best_112 rfl sh_122 (gw_inN (k := 2) rfl) ?_
    refine gw_aload_n 114 d_X12_best_113 rfl rfl ?_
    refine gw_cVV (a := []) (rest := []) 117 d_X12_best_114 rfl ml_12_259 v_X12_walks rfl sh_117 rfl rfl rfl (h.2 c21) (fun m7 h8 => ?_)
    refine gw_aload_n 118 d_X12_best_117 rfl rfl ?_
    refine gw_cVI (a := []) (rest := []) 121 d_X12_best_118 rfl ml_12_274 v_X12_allThere rfl sh_117 rfl rfl rfl h8 (fun v9 m10 h11 => ?_)
    refine gw_istore (ls' := [some (gR 117), some (gI x1), some (gI x2), some (gI x3), some (gI x4), some (gI x5), some (gI x6), some (gI x7), some (gI x8), some (gI v9), y10]) 123 d_X12_best_121 rfl rfl rfl rfl ?_
    refine gw_iload 125 d_X12_best_123 rfl rfl ?_
    refine gw_if_lt 147 128 d_X12_best_125 rfl rfl (fun c27 => ?_) (fun c27 => ?_)
    · skip
      exact (h11.1 c27)
    · skip
      refine gw_iload 130 d_X12_best_128 rfl rfl ?_
      refine gw_iload_n 131 d_X12_best_130 rfl rfl ?_
      refine gw_icmp_gt 147 134 d_X12_best_131 rfl rfl (fun c28 => ?_) (fun c28 => ?_)
      · skip
        exact ((h11.2 c27).1 c28)
      · skip
        refine gw_aload_n 135 d_X12_best_134 rfl rfl ?_
        refine gw_cVI (a := []) (rest := []) 138 d_X12_best_135 rfl ml_12_271 v_X12_leastOff rfl sh_117 rfl rfl rfl ((h11.2 c27).2 c28) (fun v12 m13 h14 => ?_)
        refine gw_iload 140 d_X12_best_138 rfl rfl ?_
        refine gw_icmp_le 147 143 d_X12_best_140 rfl rfl (fun c29 => ?_) (fun c29 => ?_)
        · skip
          exact (h14.1 c29)
        · skip
          refine gw_iconst 144 d_X12_best_143 rfl rfl ?_
          refine gw_goto 148 d_X12_best_144 rfl ?_
          exact (h14.2 c29)
set_option maxRecDepth 100000 in
set_option maxHeartbeats 4000000 in
theorem r_X12_best_147 {d : Nat} {QR : Option gw_SV → gw_Mem → Prop} {Γ : gw_Ga} (x1 : Int) (x2 : Int) (x3 : Int) (x4 : Int) (x5 : Int) (x6 : Int) (x7 : Int) (x8 : Int) (x9 : Int) (y10 : Option gw_SV) (m : gw_Mem) (h : gw_G M_X12_best d QR Γ 148 [some (gR 117), some (gI x1), some (gI x2), some (gI x3), some (gI x4), some (gI x5), some (gI x6), some (gI x7), some (gI x8), some (gI x9), y10] [gI 0] m) : gw_G M_X12_best d QR Γ 147 [some (gR 117), some (gI x1), some (gI x2), some (gI x3), some (gI x4), some (gI x5), some (gI x6), some (gI x7), some (gI x8), some (gI x9), y10] [] m := by
  refine gw_iconst 148 d_X12_best_147 rfl rfl ?_
  exact h
set_option maxRecDepth 100000 in
set_option maxHeartbeats 4000000 in
theorem r_X12_best_148 {d : Nat} {QR : Option gw_SV → gw_Mem → Prop} {Γ : gw_Ga} (x1 : Int) (x2 : Int) (x3 : Int) (x4 : Int) (x5 : Int) (x6 : Int) (x7 : Int) (x8 : Int) (x9 : Int) (y10 : Option gw_SV) (z0 : Int) (m : gw_Mem) (h : ((z0 = 0 → gw_G M_X12_best d QR Γ 178 [some (gR 117), some (gI x1), some (gI x2), some (gI x3), some (gI x4), some (gI x5), some (gI (if z0 = 0 then x6 else x8)), some (gI x7), some (gI x8), some (gI x9), some (gI z0)] [gI x7] m) ∧ (¬ (z0 = 0) → gw_CI d M_X12_leastOff [gR 117] m (fun v15 m16 => gw_G M_X12_best d QR Γ 178 [some (gR 117), some (gI x1), some (gI x2), some (gI x3), some (gI x4), some (gI x5), some (gI (if z0 = 0 then x6 else x8)), some (gI x7), some (gI x8), some (gI x9), some (gI z0)] [gI v15] m16)))) : gw_G M_X12_best d QR Γ 148 [some (gR 117), some (gI x1), some (gI x2), some (gI x3), some (gI x4), some (gI x5), some (gI x6), some (gI x7), some (gI x8), some (gI x9), y10] [gI z0] m := by
  refine gw_istore (ls' := [some (gR 117), some (gI x1), some (gI x2), some (gI x3), some (gI x4), some (gI x5), some (gI x6), some (gI x7), some (gI x8), some (gI x9), some (gI z0)]) 150 d_X12_best_148 rfl rfl rfl rfl ?_
  refine gw_iload 152 d_X12_best_150 rfl rfl ?_
  have j30 : gw_G M_X12_best d QR Γ 162 [some (gR 117), some (gI x1), some (gI x2), some (gI x3), some (gI x4), some (gI x5), some (gI x6), some (gI x7), some (gI x8), some (gI x9), some (gI z0)] [gI (if z0 = 0 then x6 else x8)] m := by
    refine gw_istore (ls' := [some (gR 117), some (gI x1), some (gI x2), some (gI x3), some (gI x4), some (gI x5), some (gI (if z0 = 0 then x6 else x8)), some (gI x7), some (gI x8), some (gI x9), some (gI z0)]) 164 d_X12_best_162 rfl rfl rfl rfl ?_
    refine gw_iload 166 d_X12_best_164 rfl rfl ?_
    refine gw_if_eq 176 169 d_X12_best_166 rfl rfl (fun c32 => ?_) (fun c32 => ?_)
    · skip
      refine gw_iload 178 d_X12_best_176 rfl rfl ?_
      exact (h.1 c32)
    · skip
      refine gw_aload_n 170 d_X12_best_169 rfl rfl ?_
      refine gw_cVI (a := []) (rest := []) 173 d_X12_best_170 rfl ml_12_271 v_X12_leastOff rfl sh_117 rfl rfl rfl (h.2 c32) (fun v15 m16 h17 => ?_)
      refine gw_goto 178 d_X12_best_173 rfl ?_
      exact h17
  refine gw_if_eq 160 155 d_X12_best_152 rfl rfl (fun c31 => ?_) (fun c31 => ?_)
  · skip
    refine gw_iload 162 d_X12_best_160 rfl rfl ?_
    simpa only [if_pos c31] using j30
  · skip
    refine gw_iload 157 d_X12_best_155 rfl rfl ?_
    refine gw_goto 162 d_X12_best_157 rfl ?_
    simpa only [if_neg c31] using j30
set_option maxRecDepth 100000 in
set_option maxHeartbeats 4000000 in
theorem r_X12_best_178 {d : Nat} {QR : Option gw_SV → gw_Mem → Prop} {Γ : gw_Ga} (x1 : Int) (x2 : Int) (x3 : Int) (x4 : Int) (x5 : Int) (x6 : Int) (x7 : Int) (x8 : Int) (x9 : Int) (x10 : Int) (z0 : Int) (m : gw_Mem) (h : gw_G M_X12_best d QR Γ 69 [some (gR 117), some (gI x1), some (gI x2), some (gI x3), some (gI x4), some (gI x5), some (gI x6), some (gI z0), some (gI (gw_w (x8 + 1))), some (gI x9), some (gI x10)] [] m) : gw_G M_X12_best d QR Γ 178 [some (gR 117), some (gI x1), some (gI x2), some (gI x3), some (gI x4), some (gI x5), some (gI x6), some (gI x7), some (gI x8), some (gI x9), some (gI x10)] [gI z0] m := by
  refine gw_istore (ls' := [some (gR 117), some (gI x1), some (gI x2), some (gI x3), some (gI x4), some (gI x5), some (gI x6), some (gI z0), some (gI x8), some (gI x9), some (gI x10)]) 180 d_X12_best_178 rfl rfl rfl rfl ?_
  refine gw_iinc (ls' := [some (gR 117), some (gI x1), some (gI x2), some (gI x3), some (gI x4), some (gI x5), some (gI x6), some (gI z0), some (gI (gw_w (x8 + 1))), some (gI x9), some (gI x10)]) 183 d_X12_best_180 rfl rfl rfl rfl rfl ?_
  refine gw_goto 69 d_X12_best_183 rfl ?_
  exact h
set_option maxRecDepth 100000 in
set_option maxHeartbeats 4000000 in
theorem r_X12_worth_0 {d : Nat} {QR : Option gw_SV → gw_Mem → Prop} {Γ : gw_Ga} (x1 : Int) (m : gw_Mem) (h : gw_CI d M_X12_isOne [gR 117, gI x1] m (fun v1 m2 => ((v1 = 0 → QR (some (gI (-100001))) m2) ∧ (¬ (v1 = 0) → gw_in x1 10 ∧ gw_in x1 10 ∧ ((m2 123 x1 = 3 → gw_G M_X12_worth d QR Γ 39 [some (gR 117), some (gI x1), some (gI (m2 123 x1)), some (gI (m2 125 x1)), none] [] m2) ∧ (¬ (m2 123 x1 = 3) → ((m2 125 x1 = 0 → QR (some (gI (-100002))) m2) ∧ (¬ (m2 125 x1 = 0) → gw_G M_X12_worth d QR Γ 39 [some (gR 117), some (gI x1), some (gI (m2 123 x1)), some (gI (m2 125 x1)), none] [] m2)))))))) : gw_G M_X12_worth d QR Γ 0 [some (gR 117), some (gI x1), none, none, none] [] m := by
  refine gw_aload_n 1 d_X12_worth_0 rfl rfl ?_
  refine gw_iload_n 2 d_X12_worth_1 rfl rfl ?_
  refine gw_cVI (a := [gI x1]) (rest := []) 5 d_X12_worth_2 rfl ml_12_132 v_X12_isOne rfl sh_117 rfl rfl rfl h (fun v1 m2 h3 => ?_)
  refine gw_if_ne 12 8 d_X12_worth_5 rfl rfl (fun c14 => ?_) (fun c14 => ?_)
  · skip
    refine gw_ldcw 11 d_X12_worth_8 rfl ct_12_277 (n := (-100001)) rfl (by decide) ?_
    exact gw_ireturn d_X12_worth_11 (Or.inl rfl) (h3.1 c14)
  · skip
    refine gw_aload_n 13 d_X12_worth_12 rfl rfl ?_
    refine gw_getR 16 d_X12_worth_13 rfl F_12_25 sh_117 rfl ?_
    refine gw_iload_n 17 d_X12_worth_16 rfl rfl ?_
    refine gw_iaload 18 d_X12_worth_17 rfl sh_123 (h3.2 c14).1 ?_
    refine gw_istore_n (ls' := [some (gR 117), some (gI x1), some (gI (m2 123 x1)), none, none]) 19 d_X12_worth_18 rfl rfl rfl rfl ?_
    refine gw_aload_n 20 d_X12_worth_19 rfl rfl ?_
    refine gw_getR 23 d_X12_worth_20 rfl F_12_31 sh_117 rfl ?_
    refine gw_iload_n 24 d_X12_worth_23 rfl rfl ?_
    refine gw_iaload 25 d_X12_worth_24 rfl sh_125 (h3.2 c14).2.1 ?_
    refine gw_istore_n (ls' := [some (gR 117), some (gI x1), some (gI (m2 123 x1)), some (gI (m2 125 x1)), none]) 26 d_X12_worth_25 rfl rfl rfl rfl ?_
    refine gw_iload_n 27 d_X12_worth_26 rfl rfl ?_
    refine gw_iconst 28 d_X12_worth_27 rfl rfl ?_
    refine gw_icmp_eq 39 31 d_X12_worth_28 rfl rfl (fun c15 => ?_) (fun c15 => ?_)
    · skip
      exact ((h3.2 c14).2.2.1 c15)
    · skip
      refine gw_iload_n 32 d_X12_worth_31 rfl rfl ?_
      refine gw_if_ne 39 35 d_X12_worth_32 rfl rfl (fun c16 => ?_) (fun c16 => ?_)
      · skip
        refine gw_ldcw 38 d_X12_worth_35 rfl ct_12_278 (n := (-100002)) rfl (by decide) ?_
        exact gw_ireturn d_X12_worth_38 (Or.inl rfl) (((h3.2 c14).2.2.2 c15).1 c16)
      · skip
        exact (((h3.2 c14).2.2.2 c15).2 c16)
set_option maxRecDepth 100000 in
set_option maxHeartbeats 4000000 in
theorem r_X12_worth_39 {d : Nat} {QR : Option gw_SV → gw_Mem → Prop} {Γ : gw_Ga} (x1 : Int) (x2 : Int) (x3 : Int) (y4 : Option gw_SV) (m : gw_Mem) (h : gw_CV d M_X12_walks [gR 117] m (fun m4 => gw_CI d M_X12_heardAll [gR 117] m4 (fun v6 m7 => gw_in x1 10 ∧ gw_in x1 10 ∧ gw_CV d M_X12_walks [gR 117] (gw_up (gw_up m7 123 x1 (if x2 = 3 then (0 : Int) else x2)) 125 x1 (if x2 = 3 then x3 else (0 : Int))) (fun m9 => gw_in x1 10 ∧ gw_in x1 10 ∧ gw_CI d M_X12_heardAll [gR 117] (gw_up (gw_up m9 123 x1 x2) 125 x1 x3) (fun v11 m12 => QR (some (gI (gw_w (v6 - v11)))) m12))))) : gw_G M_X12_worth d QR Γ 39 [some (gR 117), some (gI x1), some (gI x2), some (gI x3), y4] [] m := by
  refine gw_aload_n 40 d_X12_worth_39 rfl rfl ?_
  refine gw_cVV (a := []) (rest := []) 43 d_X12_worth_40 rfl ml_12_259 v_X12_walks rfl sh_117 rfl rfl rfl h (fun m4 h5 => ?_)
  refine gw_aload_n 44 d_X12_worth_43 rfl rfl ?_
  refine gw_cVI (a := []) (rest := []) 47 d_X12_worth_44 rfl ml_12_268 v_X12_heardAll rfl sh_117 rfl rfl rfl h5 (fun v6 m7 h8 => ?_)
  refine gw_istore (ls' := [some (gR 117), some (gI x1), some (gI x2), some (gI x3), some (gI v6)]) 49 d_X12_worth_47 rfl rfl rfl rfl ?_
  refine gw_aload_n 50 d_X12_worth_49 rfl rfl ?_
  refine gw_getR 53 d_X12_worth_50 rfl F_12_25 sh_117 rfl ?_
  refine gw_iload_n 54 d_X12_worth_53 rfl rfl ?_
  refine gw_iload_n 55 d_X12_worth_54 rfl rfl ?_
  refine gw_iconst 56 d_X12_worth_55 rfl rfl ?_
  have j17 : gw_G M_X12_worth d QR Γ 64 [some (gR 117), some (gI x1), some (gI x2), some (gI x3), some (gI v6)] [gI (if x2 = 3 then (0 : Int) else x2), gI x1, gR 123] m7 := by
    refine gw_iastore 65 d_X12_worth_64 rfl sh_123 h8.1 ?_
    refine gw_aload_n 66 d_X12_worth_65 rfl rfl ?_
    refine gw_getR 69 d_X12_worth_66 rfl F_12_31 sh_117 rfl ?_
    refine gw_iload_n 70 d_X12_worth_69 rfl rfl ?_
    refine gw_iload_n 71 d_X12_worth_70 rfl rfl ?_
    refine gw_iconst 72 d_X12_worth_71 rfl rfl ?_
    have j19 : gw_G M_X12_worth d QR Γ 80 [some (gR 117), some (gI x1), some (gI x2), some (gI x3), some (gI v6)] [gI (if x2 = 3 then x3 else (0 : Int)), gI x1, gR 125] (gw_up m7 123 x1 (if x2 = 3 then (0 : Int) else x2)) := by
      refine gw_iastore 81 d_X12_worth_80 rfl sh_125 h8.2.1 ?_
      refine gw_aload_n 82 d_X12_worth_81 rfl rfl ?_
      refine gw_cVV (a := []) (rest := []) 85 d_X12_worth_82 rfl ml_12_259 v_X12_walks rfl sh_117 rfl rfl rfl h8.2.2 (fun m9 h10 => ?_)
      refine gw_aload_n 86 d_X12_worth_85 rfl rfl ?_
      refine gw_getR 89 d_X12_worth_86 rfl F_12_25 sh_117 rfl ?_
      refine gw_iload_n 90 d_X12_worth_89 rfl rfl ?_
      refine gw_iload_n 91 d_X12_worth_90 rfl rfl ?_
      refine gw_iastore 92 d_X12_worth_91 rfl sh_123 h10.1 ?_
      refine gw_aload_n 93 d_X12_worth_92 rfl rfl ?_
      refine gw_getR 96 d_X12_worth_93 rfl F_12_31 sh_117 rfl ?_
      refine gw_iload_n 97 d_X12_worth_96 rfl rfl ?_
      refine gw_iload_n 98 d_X12_worth_97 rfl rfl ?_
      refine gw_iastore 99 d_X12_worth_98 rfl sh_125 h10.2.1 ?_
      refine gw_iload 101 d_X12_worth_99 rfl rfl ?_
      refine gw_aload_n 102 d_X12_worth_101 rfl rfl ?_
      refine gw_cVI (a := []) (rest := [gI v6]) 105 d_X12_worth_102 rfl ml_12_268 v_X12_heardAll rfl sh_117 rfl rfl rfl h10.2.2 (fun v11 m12 h13 => ?_)
      refine gw_isub 106 d_X12_worth_105 rfl  ?_
      exact gw_ireturn d_X12_worth_106 (Or.inl rfl) h13
    refine gw_icmp_ne 79 75 d_X12_worth_72 rfl rfl (fun c20 => ?_) (fun c20 => ?_)
    · skip
      refine gw_iload_n 76 d_X12_worth_75 rfl rfl ?_
      refine gw_goto 80 d_X12_worth_76 rfl ?_
      simpa only [if_pos c20] using j19
    · skip
      refine gw_iconst 80 d_X12_worth_79 rfl rfl ?_
      simpa only [if_neg c20] using j19
  refine gw_icmp_ne 63 59 d_X12_worth_56 rfl rfl (fun c18 => ?_) (fun c18 => ?_)
  · skip
    refine gw_iconst 60 d_X12_worth_59 rfl rfl ?_
    refine gw_goto 64 d_X12_worth_60 rfl ?_
    simpa only [if_pos c18] using j17
  · skip
    refine gw_iload_n 64 d_X12_worth_63 rfl rfl ?_
    simpa only [if_neg c18] using j17
set_option maxRecDepth 100000 in
set_option maxHeartbeats 4000000 in
theorem r_X12_chosen_0 {d : Nat} {QR : Option gw_SV → gw_Mem → Prop} {Γ : gw_Ga} (x1 : Int) (x2 : Int) (m : gw_Mem) (h : gw_CI d M_X12_in [gL x1, gL 0, gL 999] m (fun v1 m2 => ((v1 = 0 → QR (some (gI (-1))) m2) ∧ (¬ (v1 = 0) → gw_CI d M_X12_in [gL x2, gL 0, gL 1] m2 (fun v4 m5 => ((v4 = 0 → QR (some (gI (-1))) m5) ∧ (¬ (v4 = 0) → m5 122 0 ≠ 0 ∧ gw_G M_X12_chosen d QR Γ 55 [some (gR 117), some (gI x1), some (gI x2), some (gI (gw_w ((gw_w ((gw_w ((m5 117 0) + (m5 122 0))) - 1)).tdiv (m5 122 0)))), some (gI (-4)), some (gI (-1)), some (gI 0), none, none, none, none] [] m5))))))) : gw_G M_X12_chosen d QR Γ 0 [some (gR 117), some (gI x1), some (gI x2), none, none, none, none, none, none, none, none] [] m := by
  refine gw_iload_n 1 d_X12_chosen_0 rfl rfl ?_
  refine gw_i2lR 2 d_X12_chosen_1 rfl  ?_
  refine gw_lconst 3 d_X12_chosen_2 rfl (n := 0) rfl (by decide) ?_
  refine gw_ldc2 6 d_X12_chosen_3 rfl ct_12_279 (n := 999) (gw_rb_inL (gw_rb_in rfl)) (by decide) ?_
  refine gw_cSI (a := [gL x1, gL 0, gL 999]) (rest := []) 9 d_X12_chosen_6 rfl ml_12_98 v_X12_in rfl rfl rfl h (fun v1 m2 h3 => ?_)
  refine gw_if_eq 22 12 d_X12_chosen_9 rfl rfl (fun c7 => ?_) (fun c7 => ?_)
  · skip
    refine gw_iconst 23 d_X12_chosen_22 rfl rfl ?_
    exact gw_ireturn d_X12_chosen_23 (Or.inl rfl) (h3.1 c7)
  · skip
    refine gw_iload_n 13 d_X12_chosen_12 rfl rfl ?_
    refine gw_i2lR 14 d_X12_chosen_13 rfl  ?_
    refine gw_lconst 15 d_X12_chosen_14 rfl (n := 0) rfl (by decide) ?_
    refine gw_lconst 16 d_X12_chosen_15 rfl (n := 1) rfl (by decide) ?_
    refine gw_cSI (a := [gL x2, gL 0, gL 1]) (rest := []) 19 d_X12_chosen_16 rfl ml_12_98 v_X12_in rfl rfl rfl (h3.2 c7) (fun v4 m5 h6 => ?_)
    refine gw_if_ne 24 22 d_X12_chosen_19 rfl rfl (fun c8 => ?_) (fun c8 => ?_)
    · skip
      refine gw_iconst 23 d_X12_chosen_22 rfl rfl ?_
      exact gw_ireturn d_X12_chosen_23 (Or.inl rfl) (h6.1 c8)
    · skip
      refine gw_aload_n 25 d_X12_chosen_24 rfl rfl ?_
      refine gw_getI 28 d_X12_chosen_25 rfl F_12_88 sh_117 rfl (kz := 0) rfl ?_
      refine gw_aload_n 29 d_X12_chosen_28 rfl rfl ?_
      refine gw_getR 32 d_X12_chosen_29 rfl F_12_22 sh_117 rfl ?_
      refine gw_iconst 33 d_X12_chosen_32 rfl rfl ?_
      refine gw_iaload 34 d_X12_chosen_33 rfl sh_122 (gw_inN (k := 0) rfl) ?_
      refine gw_iadd 35 d_X12_chosen_34 rfl  ?_
      refine gw_iconst 36 d_X12_chosen_35 rfl rfl ?_
      refine gw_isub 37 d_X12_chosen_36 rfl  ?_
      refine gw_aload_n 38 d_X12_chosen_37 rfl rfl ?_
      refine gw_getR 41 d_X12_chosen_38 rfl F_12_22 sh_117 rfl ?_
      refine gw_iconst 42 d_X12_chosen_41 rfl rfl ?_
      refine gw_iaload 43 d_X12_chosen_42 rfl sh_122 (gw_inN (k := 0) rfl) ?_
      refine gw_idiv 44 d_X12_chosen_43 rfl (h6.2 c8).1 ?_
      refine gw_istore_n (ls' := [some (gR 117), some (gI x1), some (gI x2), some (gI (gw_w ((gw_w ((gw_w ((m5 117 0) + (m5 122 0))) - 1)).tdiv (m5 122 0)))), none, none, none, none, none, none, none]) 45 d_X12_chosen_44 rfl rfl rfl rfl ?_
      refine gw_bipush 47 d_X12_chosen_45 rfl rfl (by decide) ?_
      refine gw_istore (ls' := [some (gR 117), some (gI x1), some (gI x2), some (gI (gw_w ((gw_w ((gw_w ((m5 117 0) + (m5 122 0))) - 1)).tdiv (m5 122 0)))), some (gI (-4)), none, none, none, none, none, none]) 49 d_X12_chosen_47 rfl rfl rfl rfl ?_
      refine gw_iconst 50 d_X12_chosen_49 rfl rfl ?_
      refine gw_istore (ls' := [some (gR 117), some (gI x1), some (gI x2), some (gI (gw_w ((gw_w ((gw_w ((m5 117 0) + (m5 122 0))) - 1)).tdiv (m5 122 0)))), some (gI (-4)), some (gI (-1)), none, none, none, none, none]) 52 d_X12_chosen_50 rfl rfl rfl rfl ?_
      refine gw_iconst 53 d_X12_chosen_52 rfl rfl ?_
      refine gw_istore (ls' := [some (gR 117), some (gI x1), some (gI x2), some (gI (gw_w ((gw_w ((gw_w ((m5 117 0) + (m5 122 0))) - 1)).tdiv (m5 122 0)))), some (gI (-4)), some (gI (-1)), some (gI 0), none, none, none, none]) 55 d_X12_chosen_53 rfl rfl rfl rfl ?_
      exact (h6.2 c8).2
set_option maxRecDepth 100000 in
set_option maxHeartbeats 4000000 in
theorem r_X12_chosen_55 {d : Nat} {QR : Option gw_SV → gw_Mem → Prop} {Γ : gw_Ga} (x1 : Int) (x2 : Int) (x3 : Int) (x4 : Int) (x5 : Int) (x6 : Int) (y7 : Option gw_SV) (y8 : Option gw_SV) (y9 : Option gw_SV) (y10 : Option gw_SV) (m : gw_Mem) (h : ((gw_shl 1 (m 118 0) ≤ x6 → QR (some (gI (if x4 < 0 then x4 else (if x2 = 0 then x4 else x5)))) m) ∧ (¬ (gw_shl 1 (m 118 0) ≤ x6) → gw_G M_X12_chosen d QR Γ 77 [some (gR 117), some (gI x1), some (gI x2), some (gI x3), some (gI x4), some (gI x5), some (gI x6), some (gI x3), some (gI 0), some (gI 0), y10] [] m))) : gw_G M_X12_chosen d QR Γ 55 [some (gR 117), some (gI x1), some (gI x2), some (gI x3), some (gI x4), some (gI x5), some (gI x6), y7, y8, y9, y10] [] m := by
  refine gw_iload 57 d_X12_chosen_55 rfl rfl ?_
  refine gw_iconst 58 d_X12_chosen_57 rfl rfl ?_
  refine gw_aload_n 59 d_X12_chosen_58 rfl rfl ?_
  refine gw_getR 62 d_X12_chosen_59 rfl F_12_7 sh_117 rfl ?_
  refine gw_iconst 63 d_X12_chosen_62 rfl rfl ?_
  refine gw_iaload 64 d_X12_chosen_63 rfl sh_118 (gw_inN (k := 0) rfl) ?_
  refine gw_ishl 65 d_X12_chosen_64 rfl  ?_
  refine gw_icmp_ge 228 68 d_X12_chosen_65 rfl rfl (fun c9 => ?_) (fun c9 => ?_)
  · skip
    refine gw_iload 230 d_X12_chosen_228 rfl rfl ?_
    have j10 : gw_G M_X12_chosen d QR Γ 244 [some (gR 117), some (gI x1), some (gI x2), some (gI x3), some (gI x4), some (gI x5), some (gI x6), y7, y8, y9, y10] [gI (if x4 < 0 then x4 else (if x2 = 0 then x4 else x5))] m := by
      exact gw_ireturn d_X12_chosen_244 (Or.inl rfl) (h.1 c9)
    refine gw_if_lt 237 233 d_X12_chosen_230 rfl rfl (fun c11 => ?_) (fun c11 => ?_)
    · skip
      refine gw_iload 239 d_X12_chosen_237 rfl rfl ?_
      refine gw_goto 244 d_X12_chosen_239 rfl ?_
      simpa only [if_pos c11] using j10
    · skip
      refine gw_iload_n 234 d_X12_chosen_233 rfl rfl ?_
      refine gw_if_ne 242 237 d_X12_chosen_234 rfl rfl (fun c12 => ?_) (fun c12 => ?_)
      · skip
        refine gw_iload 239 d_X12_chosen_237 rfl rfl ?_
        refine gw_goto 244 d_X12_chosen_239 rfl ?_
        simpa only [if_neg c11, if_pos c12] using j10
      · skip
        refine gw_iload 244 d_X12_chosen_242 rfl rfl ?_
        simpa only [if_neg c11, if_neg c12] using j10
  · skip
    refine gw_iload_n 69 d_X12_chosen_68 rfl rfl ?_
    refine gw_istore (ls' := [some (gR 117), some (gI x1), some (gI x2), some (gI x3), some (gI x4), some (gI x5), some (gI x6), some (gI x3), y8, y9, y10]) 71 d_X12_chosen_69 rfl rfl rfl rfl ?_
    refine gw_iconst 72 d_X12_chosen_71 rfl rfl ?_
    refine gw_istore (ls' := [some (gR 117), some (gI x1), some (gI x2), some (gI x3), some (gI x4), some (gI x5), some (gI x6), some (gI x3), some (gI 0), y9, y10]) 74 d_X12_chosen_72 rfl rfl rfl rfl ?_
    refine gw_iconst 75 d_X12_chosen_74 rfl rfl ?_
    refine gw_istore (ls' := [some (gR 117), some (gI x1), some (gI x2), some (gI x3), some (gI x4), some (gI x5), some (gI x6), some (gI x3), some (gI 0), some (gI 0), y10]) 77 d_X12_chosen_75 rfl rfl rfl rfl ?_
    exact (h.2 c9)
set_option maxRecDepth 100000 in
set_option maxHeartbeats 4000000 in
theorem r_X12_chosen_77 {d : Nat} {QR : Option gw_SV → gw_Mem → Prop} {Γ : gw_Ga} (x1 : Int) (x2 : Int) (x3 : Int) (x4 : Int) (x5 : Int) (x6 : Int) (x7 : Int) (x8 : Int) (x9 : Int) (y10 : Option gw_SV) (m : gw_Mem) (h : ((m 118 0 ≤ x9 → gw_G M_X12_chosen d QR Γ 55 [some (gR 117), some (gI x1), some (gI x2), some (gI x3), some (gI (if (if x1 < x7 then (0 : Int) else (if x8 ≤ x5 then (0 : Int) else (1 : Int))) = 0 then x4 else x6)), some (gI (if (if x1 < x7 then (0 : Int) else (if x8 ≤ x5 then (0 : Int) else (1 : Int))) = 0 then x5 else x8)), some (gI (gw_w (x6 + 1))), some (gI x7), some (gI x8), some (gI (if x1 < x7 then (0 : Int) else (if x8 ≤ x5 then (0 : Int) else (1 : Int)))), y10] [] m) ∧ (¬ (m 118 0 ≤ x9) → (¬ ((if gw_and (gw_shr x6 x9) 1 = 1 then (1 : Int) else (0 : Int)) = 0) → gw_in x9 32 ∧ (m 119 x9 < m 117 0 → gw_in x9 32)) ∧ (¬ ((if gw_and (gw_shr x6 x9) 1 = 1 then (1 : Int) else (0 : Int)) = 0) → gw_in x9 8) ∧ gw_G M_X12_chosen d QR Γ 77 [some (gR 117), some (gI x1), some (gI x2), some (gI x3), some (gI x4), some (gI x5), some (gI x6), some (gI (gw_w (x7 + (if (if gw_and (gw_shr x6 x9) 1 = 1 then (1 : Int) else (0 : Int)) = 0 then (0 : Int) else (if m 119 x9 < m 117 0 then m 120 x9 else (1000 : Int)))))), some (gI (gw_w (x8 + (if (if gw_and (gw_shr x6 x9) 1 = 1 then (1 : Int) else (0 : Int)) = 0 then (0 : Int) else m 121 x9)))), some (gI (gw_w (x9 + 1))), some (gI (if gw_and (gw_shr x6 x9) 1 = 1 then (1 : Int) else (0 : Int)))] [] m))) : gw_G M_X12_chosen d QR Γ 77 [some (gR 117), some (gI x1), some (gI x2), some (gI x3), some (gI x4), some (gI x5), some (gI x6), some (gI x7), some (gI x8), some (gI x9), y10] [] m := by
  refine gw_iload 79 d_X12_chosen_77 rfl rfl ?_
  refine gw_aload_n 80 d_X12_chosen_79 rfl rfl ?_
  refine gw_getR 83 d_X12_chosen_80 rfl F_12_7 sh_117 rfl ?_
  refine gw_iconst 84 d_X12_chosen_83 rfl rfl ?_
  refine gw_iaload 85 d_X12_chosen_84 rfl sh_118 (gw_inN (k := 0) rfl) ?_
  refine gw_icmp_ge 174 88 d_X12_chosen_85 rfl rfl (fun c13 => ?_) (fun c13 => ?_)
  · skip
    refine gw_iload 176 d_X12_chosen_174 rfl rfl ?_
    refine gw_iload_n 177 d_X12_chosen_176 rfl rfl ?_
    have j14 : gw_G M_X12_chosen d QR Γ 192 [some (gR 117), some (gI x1), some (gI x2), some (gI x3), some (gI x4), some (gI x5), some (gI x6), some (gI x7), some (gI x8), some (gI x9), y10] [gI (if x1 < x7 then (0 : Int) else (if x8 ≤ x5 then (0 : Int) else (1 : Int)))] m := by
      refine gw_istore (ls' := [some (gR 117), some (gI x1), some (gI x2), some (gI x3), some (gI x4), some (gI x5), some (gI x6), some (gI x7), some (gI x8), some (gI (if x1 < x7 then (0 : Int) else (if x8 ≤ x5 then (0 : Int) else (1 : Int)))), y10]) 194 d_X12_chosen_192 rfl rfl rfl rfl ?_
      refine gw_iload 196 d_X12_chosen_194 rfl rfl ?_
      have j16 : gw_G M_X12_chosen d QR Γ 206 [some (gR 117), some (gI x1), some (gI x2), some (gI x3), some (gI x4), some (gI x5), some (gI x6), some (gI x7), some (gI x8), some (gI (if x1 < x7 then (0 : Int) else (if x8 ≤ x5 then (0 : Int) else (1 : Int)))), y10] [gI (if (if x1 < x7 then (0 : Int) else (if x8 ≤ x5 then (0 : Int) else (1 : Int))) = 0 then x4 else x6)] m := by
        refine gw_istore (ls' := [some (gR 117), some (gI x1), some (gI x2), some (gI x3), some (gI (if (if x1 < x7 then (0 : Int) else (if x8 ≤ x5 then (0 : Int) else (1 : Int))) = 0 then x4 else x6)), some (gI x5), some (gI x6), some (gI x7), some (gI x8), some (gI (if x1 < x7 then (0 : Int) else (if x8 ≤ x5 then (0 : Int) else (1 : Int)))), y10]) 208 d_X12_chosen_206 rfl rfl rfl rfl ?_
        refine gw_iload 210 d_X12_chosen_208 rfl rfl ?_
        have j18 : gw_G M_X12_chosen d QR Γ 220 [some (gR 117), some (gI x1), some (gI x2), some (gI x3), some (gI (if (if x1 < x7 then (0 : Int) else (if x8 ≤ x5 then (0 : Int) else (1 : Int))) = 0 then x4 else x6)), some (gI x5), some (gI x6), some (gI x7), some (gI x8), some (gI (if x1 < x7 then (0 : Int) else (if x8 ≤ x5 then (0 : Int) else (1 : Int)))), y10] [gI (if (if x1 < x7 then (0 : Int) else (if x8 ≤ x5 then (0 : Int) else (1 : Int))) = 0 then x5 else x8)] m := by
          refine gw_istore (ls' := [some (gR 117), some (gI x1), some (gI x2), some (gI x3), some (gI (if (if x1 < x7 then (0 : Int) else (if x8 ≤ x5 then (0 : Int) else (1 : Int))) = 0 then x4 else x6)), some (gI (if (if x1 < x7 then (0 : Int) else (if x8 ≤ x5 then (0 : Int) else (1 : Int))) = 0 then x5 else x8)), some (gI x6), some (gI x7), some (gI x8), some (gI (if x1 < x7 then (0 : Int) else (if x8 ≤ x5 then (0 : Int) else (1 : Int)))), y10]) 222 d_X12_chosen_220 rfl rfl rfl rfl ?_
          refine gw_iinc (ls' := [some (gR 117), some (gI x1), some (gI x2), some (gI x3), some (gI (if (if x1 < x7 then (0 : Int) else (if x8 ≤ x5 then (0 : Int) else (1 : Int))) = 0 then x4 else x6)), some (gI (if (if x1 < x7 then (0 : Int) else (if x8 ≤ x5 then (0 : Int) else (1 : Int))) = 0 then x5 else x8)), some (gI (gw_w (x6 + 1))), some (gI x7), some (gI x8), some (gI (if x1 < x7 then (0 : Int) else (if x8 ≤ x5 then (0 : Int) else (1 : Int)))), y10]) 225 d_X12_chosen_222 rfl rfl rfl rfl rfl ?_
          refine gw_goto 55 d_X12_chosen_225 rfl ?_
          exact (h.1 c13)
        refine gw_if_eq 218 213 d_X12_chosen_210 rfl rfl (fun c19 => ?_) (fun c19 => ?_)
        · skip
          refine gw_iload 220 d_X12_chosen_218 rfl rfl ?_
          simpa only [if_pos c19] using j18
        · skip
          refine gw_iload 215 d_X12_chosen_213 rfl rfl ?_
          refine gw_goto 220 d_X12_chosen_215 rfl ?_
          simpa only [if_neg c19] using j18
      refine gw_if_eq 204 199 d_X12_chosen_196 rfl rfl (fun c17 => ?_) (fun c17 => ?_)
      · skip
        refine gw_iload 206 d_X12_chosen_204 rfl rfl ?_
        simpa only [if_pos c17] using j16
      · skip
        refine gw_iload 201 d_X12_chosen_199 rfl rfl ?_
        refine gw_goto 206 d_X12_chosen_201 rfl ?_
        simpa only [if_neg c17] using j16
    refine gw_icmp_gt 191 180 d_X12_chosen_177 rfl rfl (fun c15 => ?_) (fun c15 => ?_)
    · skip
      refine gw_iconst 192 d_X12_chosen_191 rfl rfl ?_
      simpa only [if_pos c15] using j14
    · skip
      refine gw_iload 182 d_X12_chosen_180 rfl rfl ?_
      refine gw_iload 184 d_X12_chosen_182 rfl rfl ?_
      refine gw_icmp_le 191 187 d_X12_chosen_184 rfl rfl (fun c20 => ?_) (fun c20 => ?_)
      · skip
        refine gw_iconst 192 d_X12_chosen_191 rfl rfl ?_
        simpa only [if_neg c15, if_pos c20] using j14
      · skip
        refine gw_iconst 188 d_X12_chosen_187 rfl rfl ?_
        refine gw_goto 192 d_X12_chosen_188 rfl ?_
        simpa only [if_neg c15, if_neg c20] using j14
  · skip
    refine gw_iload 90 d_X12_chosen_88 rfl rfl ?_
    refine gw_iload 92 d_X12_chosen_90 rfl rfl ?_
    refine gw_ishr 93 d_X12_chosen_92 rfl  ?_
    refine gw_iconst 94 d_X12_chosen_93 rfl rfl ?_
    refine gw_iand 95 d_X12_chosen_94 rfl  ?_
    refine gw_iconst 96 d_X12_chosen_95 rfl rfl ?_
    have j21 : gw_G M_X12_chosen d QR Γ 104 [some (gR 117), some (gI x1), some (gI x2), some (gI x3), some (gI x4), some (gI x5), some (gI x6), some (gI x7), some (gI x8), some (gI x9), y10] [gI (if gw_and (gw_shr x6 x9) 1 = 1 then (1 : Int) else (0 : Int))] m := by
      refine gw_istore (ls' := [some (gR 117), some (gI x1), some (gI x2), some (gI x3), some (gI x4), some (gI x5), some (gI x6), some (gI x7), some (gI x8), some (gI x9), some (gI (if gw_and (gw_shr x6 x9) 1 = 1 then (1 : Int) else (0 : Int)))]) 106 d_X12_chosen_104 rfl rfl rfl rfl ?_
      refine gw_iload 108 d_X12_chosen_106 rfl rfl ?_
      refine gw_iload 110 d_X12_chosen_108 rfl rfl ?_
      have j23 : gw_G M_X12_chosen d QR Γ 144 [some (gR 117), some (gI x1), some (gI x2), some (gI x3), some (gI x4), some (gI x5), some (gI x6), some (gI x7), some (gI x8), some (gI x9), some (gI (if gw_and (gw_shr x6 x9) 1 = 1 then (1 : Int) else (0 : Int)))] [gI (if (if gw_and (gw_shr x6 x9) 1 = 1 then (1 : Int) else (0 : Int)) = 0 then (0 : Int) else (if m 119 x9 < m 117 0 then m 120 x9 else (1000 : Int))), gI x7] m := by
        refine gw_iadd 145 d_X12_chosen_144 rfl  ?_
        refine gw_istore (ls' := [some (gR 117), some (gI x1), some (gI x2), some (gI x3), some (gI x4), some (gI x5), some (gI x6), some (gI (gw_w (x7 + (if (if gw_and (gw_shr x6 x9) 1 = 1 then (1 : Int) else (0 : Int)) = 0 then (0 : Int) else (if m 119 x9 < m 117 0 then m 120 x9 else (1000 : Int)))))), some (gI x8), some (gI x9), some (gI (if gw_and (gw_shr x6 x9) 1 = 1 then (1 : Int) else (0 : Int)))]) 147 d_X12_chosen_145 rfl rfl rfl rfl ?_
        refine gw_iload 149 d_X12_chosen_147 rfl rfl ?_
        refine gw_iload 151 d_X12_chosen_149 rfl rfl ?_
        have j25 : gw_G M_X12_chosen d QR Γ 165 [some (gR 117), some (gI x1), some (gI x2), some (gI x3), some (gI x4), some (gI x5), some (gI x6), some (gI (gw_w (x7 + (if (if gw_and (gw_shr x6 x9) 1 = 1 then (1 : Int) else (0 : Int)) = 0 then (0 : Int) else (if m 119 x9 < m 117 0 then m 120 x9 else (1000 : Int)))))), some (gI x8), some (gI x9), some (gI (if gw_and (gw_shr x6 x9) 1 = 1 then (1 : Int) else (0 : Int)))] [gI (if (if gw_and (gw_shr x6 x9) 1 = 1 then (1 : Int) else (0 : Int)) = 0 then (0 : Int) else m 121 x9), gI x8] m := by
          refine gw_iadd 166 d_X12_chosen_165 rfl  ?_
          refine gw_istore (ls' := [some (gR 117), some (gI x1), some (gI x2), some (gI x3), some (gI x4), some (gI x5), some (gI x6), some (gI (gw_w (x7 + (if (if gw_and (gw_shr x6 x9) 1 = 1 then (1 : Int) else (0 : Int)) = 0 then (0 : Int) else (if m 119 x9 < m 117 0 then m 120 x9 else (1000 : Int)))))), some (gI (gw_w (x8 + (if (if gw_and (gw_shr x6 x9) 1 = 1 then (1 : Int) else (0 : Int)) = 0 then (0 : Int) else m 121 x9)))), some (gI x9), some (gI (if gw_and (gw_shr x6 x9) 1 = 1 then (1 : Int) else (0 : Int)))]) 168 d_X12_chosen_166 rfl rfl rfl rfl ?_
          refine gw_iinc (ls' := [some (gR 117), some (gI x1), some (gI x2), some (gI x3), some (gI x4), some (gI x5), some (gI x6), some (gI (gw_w (x7 + (if (if gw_and (gw_shr x6 x9) 1 = 1 then (1 : Int) else (0 : Int)) = 0 then (0 : Int) else (if m 119 x9 < m 117 0 then m 120 x9 else (1000 : Int)))))), some (gI (gw_w (x8 + (if (if gw_and (gw_shr x6 x9) 1 = 1 then (1 : Int) else (0 : Int)) = 0 then (0 : Int) else m 121 x9)))), some (gI (gw_w (x9 + 1))), some (gI (if gw_and (gw_shr x6 x9) 1 = 1 then (1 : Int) else (0 : Int)))]) 171 d_X12_chosen_168 rfl rfl rfl rfl rfl ?_
          refine gw_goto 77 d_X12_chosen_171 rfl ?_
          exact (h.2 c13).2.2
        refine gw_if_eq 164 154 d_X12_chosen_151 rfl rfl (fun c26 => ?_) (fun c26 => ?_)
        · skip
          refine gw_iconst 165 d_X12_chosen_164 rfl rfl ?_
          simpa only [if_pos c26] using j25
        · skip
          refine gw_aload_n 155 d_X12_chosen_154 rfl rfl ?_
          refine gw_getR 158 d_X12_chosen_155 rfl F_12_19 sh_117 rfl ?_
          refine gw_iload 160 d_X12_chosen_158 rfl rfl ?_
          refine gw_iaload 161 d_X12_chosen_160 rfl sh_121 ((h.2 c13).2.1 c26) ?_
          refine gw_goto 165 d_X12_chosen_161 rfl ?_
          simpa only [if_neg c26] using j25
      refine gw_if_ne 117 113 d_X12_chosen_110 rfl rfl (fun c24 => ?_) (fun c24 => ?_)
      · skip
        refine gw_iconst 114 d_X12_chosen_113 rfl rfl ?_
        refine gw_goto 144 d_X12_chosen_114 rfl ?_
        simpa only [if_pos c24] using j23
      · skip
        refine gw_aload_n 118 d_X12_chosen_117 rfl rfl ?_
        refine gw_getR 121 d_X12_chosen_118 rfl F_12_13 sh_117 rfl ?_
        refine gw_iload 123 d_X12_chosen_121 rfl rfl ?_
        refine gw_iaload 124 d_X12_chosen_123 rfl sh_119 ((h.2 c13).1 c24).1 ?_
        refine gw_aload_n 125 d_X12_chosen_124 rfl rfl ?_
        refine gw_getI 128 d_X12_chosen_125 rfl F_12_88 sh_117 rfl (kz := 0) rfl ?_
        refine gw_icmp_lt 137 131 d_X12_chosen_128 rfl rfl (fun c27 => ?_) (fun c27 => ?_)
        · skip
          refine gw_aload_n 138 d_X12_chosen_137 rfl rfl ?_
          refine gw_getR 141 d_X12_chosen_138 rfl F_12_16 sh_117 rfl ?_
          refine gw_iload 143 d_X12_chosen_141 rfl rfl ?_
          refine gw_iaload 144 d_X12_chosen_143 rfl sh_120 (((h.2 c13).1 c24).2 c27) ?_
          simpa only [if_neg c24, if_pos c27] using j23
        · skip
          refine gw_sipush 134 d_X12_chosen_131 rfl rfl (by decide) ?_
          refine gw_goto 144 d_X12_chosen_134 rfl ?_
          simpa only [if_neg c24, if_neg c27] using j23
    refine gw_icmp_ne 103 99 d_X12_chosen_96 rfl rfl (fun c22 => ?_) (fun c22 => ?_)
    · skip
      refine gw_iconst 100 d_X12_chosen_99 rfl rfl ?_
      refine gw_goto 104 d_X12_chosen_100 rfl ?_
      simpa only [if_pos c22] using j21
    · skip
      refine gw_iconst 104 d_X12_chosen_103 rfl rfl ?_
      simpa only [if_neg c22] using j21
set_option maxRecDepth 100000 in
set_option maxHeartbeats 4000000 in
theorem r_X12_costOf_0 {d : Nat} {QR : Option gw_SV → gw_Mem → Prop} {Γ : gw_Ga} (x0 : Int) (x1 : Int) (x2 : Int) (x3 : Int) (x4 : Int) (m : gw_Mem) (h : x1 ≠ 0 ∧ gw_G M_X12_costOf d QR Γ 15 [some (gI x0), some (gI x1), some (gI x2), some (gI x3), some (gI x4), some (gI (gw_w ((gw_w ((gw_w (x0 + x1)) - 1)).tdiv x1))), some (gI 0), some (gI 1), none] [] m) : gw_G M_X12_costOf d QR Γ 0 [some (gI x0), some (gI x1), some (gI x2), some (gI x3), some (gI x4), none, none, none, none] [] m := by
  refine gw_iload_n 1 d_X12_costOf_0 rfl rfl ?_
  refine gw_iload_n 2 d_X12_costOf_1 rfl rfl ?_
  refine gw_iadd 3 d_X12_costOf_2 rfl  ?_
  refine gw_iconst 4 d_X12_costOf_3 rfl rfl ?_
  refine gw_isub 5 d_X12_costOf_4 rfl  ?_
  refine gw_iload_n 6 d_X12_costOf_5 rfl rfl ?_
  refine gw_idiv 7 d_X12_costOf_6 rfl h.1 ?_
  refine gw_istore (ls' := [some (gI x0), some (gI x1), some (gI x2), some (gI x3), some (gI x4), some (gI (gw_w ((gw_w ((gw_w (x0 + x1)) - 1)).tdiv x1))), none, none, none]) 9 d_X12_costOf_7 rfl rfl rfl rfl ?_
  refine gw_iconst 10 d_X12_costOf_9 rfl rfl ?_
  refine gw_istore (ls' := [some (gI x0), some (gI x1), some (gI x2), some (gI x3), some (gI x4), some (gI (gw_w ((gw_w ((gw_w (x0 + x1)) - 1)).tdiv x1))), some (gI 0), none, none]) 12 d_X12_costOf_10 rfl rfl rfl rfl ?_
  refine gw_iconst 13 d_X12_costOf_12 rfl rfl ?_
  refine gw_istore (ls' := [some (gI x0), some (gI x1), some (gI x2), some (gI x3), some (gI x4), some (gI (gw_w ((gw_w ((gw_w (x0 + x1)) - 1)).tdiv x1))), some (gI 0), some (gI 1), none]) 15 d_X12_costOf_13 rfl rfl rfl rfl ?_
  exact h.2
set_option maxRecDepth 100000 in
set_option maxHeartbeats 4000000 in
theorem r_X12_costOf_15 {d : Nat} {QR : Option gw_SV → gw_Mem → Prop} {Γ : gw_Ga} (x0 : Int) (x1 : Int) (x2 : Int) (x3 : Int) (x4 : Int) (x5 : Int) (x6 : Int) (x7 : Int) (y8 : Option gw_SV) (m : gw_Mem) (h : ((x0 < x7 → QR (some (gI (gw_w ((gw_w ((gw_w (100 * x2)) * x5)) + (gw_w ((gw_w (x4 * x3)) * x6)))))) m) ∧ (¬ (x0 < x7) → x1 ≠ 0 ∧ gw_G M_X12_costOf d QR Γ 15 [some (gI x0), some (gI x1), some (gI x2), some (gI x3), some (gI x4), some (gI x5), some (gI (gw_w (x6 + (gw_w ((if gw_w ((gw_w ((gw_w ((gw_w (x7 + x1)) - 1)).tdiv x1)) * x1) ≤ x0 then gw_w ((gw_w ((gw_w ((gw_w (x7 + x1)) - 1)).tdiv x1)) * x1) else x0) - x7))))), some (gI (gw_w (x7 + 1))), some (gI (gw_w ((gw_w ((gw_w ((gw_w (x7 + x1)) - 1)).tdiv x1)) * x1)))] [] m))) : gw_G M_X12_costOf d QR Γ 15 [some (gI x0), some (gI x1), some (gI x2), some (gI x3), some (gI x4), some (gI x5), some (gI x6), some (gI x7), y8] [] m := by
  refine gw_iload 17 d_X12_costOf_15 rfl rfl ?_
  refine gw_iload_n 18 d_X12_costOf_17 rfl rfl ?_
  refine gw_icmp_gt 59 21 d_X12_costOf_18 rfl rfl (fun c1 => ?_) (fun c1 => ?_)
  · skip
    refine gw_bipush 61 d_X12_costOf_59 rfl rfl (by decide) ?_
    refine gw_iload_n 62 d_X12_costOf_61 rfl rfl ?_
    refine gw_imul 63 d_X12_costOf_62 rfl  ?_
    refine gw_iload 65 d_X12_costOf_63 rfl rfl ?_
    refine gw_imul 66 d_X12_costOf_65 rfl  ?_
    refine gw_iload 68 d_X12_costOf_66 rfl rfl ?_
    refine gw_iload_n 69 d_X12_costOf_68 rfl rfl ?_
    refine gw_imul 70 d_X12_costOf_69 rfl  ?_
    refine gw_iload 72 d_X12_costOf_70 rfl rfl ?_
    refine gw_imul 73 d_X12_costOf_72 rfl  ?_
    refine gw_iadd 74 d_X12_costOf_73 rfl  ?_
    exact gw_ireturn d_X12_costOf_74 (Or.inl rfl) (h.1 c1)
  · skip
    refine gw_iload 23 d_X12_costOf_21 rfl rfl ?_
    refine gw_iload_n 24 d_X12_costOf_23 rfl rfl ?_
    refine gw_iadd 25 d_X12_costOf_24 rfl  ?_
    refine gw_iconst 26 d_X12_costOf_25 rfl rfl ?_
    refine gw_isub 27 d_X12_costOf_26 rfl  ?_
    refine gw_iload_n 28 d_X12_costOf_27 rfl rfl ?_
    refine gw_idiv 29 d_X12_costOf_28 rfl (h.2 c1).1 ?_
    refine gw_iload_n 30 d_X12_costOf_29 rfl rfl ?_
    refine gw_imul 31 d_X12_costOf_30 rfl  ?_
    refine gw_istore (ls' := [some (gI x0), some (gI x1), some (gI x2), some (gI x3), some (gI x4), some (gI x5), some (gI x6), some (gI x7), some (gI (gw_w ((gw_w ((gw_w ((gw_w (x7 + x1)) - 1)).tdiv x1)) * x1)))]) 33 d_X12_costOf_31 rfl rfl rfl rfl ?_
    refine gw_iload 35 d_X12_costOf_33 rfl rfl ?_
    refine gw_iload 37 d_X12_costOf_35 rfl rfl ?_
    refine gw_iload_n 38 d_X12_costOf_37 rfl rfl ?_
    have j2 : gw_G M_X12_costOf d QR Γ 47 [some (gI x0), some (gI x1), some (gI x2), some (gI x3), some (gI x4), some (gI x5), some (gI x6), some (gI x7), some (gI (gw_w ((gw_w ((gw_w ((gw_w (x7 + x1)) - 1)).tdiv x1)) * x1)))] [gI (if gw_w ((gw_w ((gw_w ((gw_w (x7 + x1)) - 1)).tdiv x1)) * x1) ≤ x0 then gw_w ((gw_w ((gw_w ((gw_w (x7 + x1)) - 1)).tdiv x1)) * x1) else x0), gI x6] m := by
      refine gw_iload 49 d_X12_costOf_47 rfl rfl ?_
      refine gw_isub 50 d_X12_costOf_49 rfl  ?_
      refine gw_iadd 51 d_X12_costOf_50 rfl  ?_
      refine gw_istore (ls' := [some (gI x0), some (gI x1), some (gI x2), some (gI x3), some (gI x4), some (gI x5), some (gI (gw_w (x6 + (gw_w ((if gw_w ((gw_w ((gw_w ((gw_w (x7 + x1)) - 1)).tdiv x1)) * x1) ≤ x0 then gw_w ((gw_w ((gw_w ((gw_w (x7 + x1)) - 1)).tdiv x1)) * x1) else x0) - x7))))), some (gI x7), some (gI (gw_w ((gw_w ((gw_w ((gw_w (x7 + x1)) - 1)).tdiv x1)) * x1)))]) 53 d_X12_costOf_51 rfl rfl rfl rfl ?_
      refine gw_iinc (ls' := [some (gI x0), some (gI x1), some (gI x2), some (gI x3), some (gI x4), some (gI x5), some (gI (gw_w (x6 + (gw_w ((if gw_w ((gw_w ((gw_w ((gw_w (x7 + x1)) - 1)).tdiv x1)) * x1) ≤ x0 then gw_w ((gw_w ((gw_w ((gw_w (x7 + x1)) - 1)).tdiv x1)) * x1) else x0) - x7))))), some (gI (gw_w (x7 + 1))), some (gI (gw_w ((gw_w ((gw_w ((gw_w (x7 + x1)) - 1)).tdiv x1)) * x1)))]) 56 d_X12_costOf_53 rfl rfl rfl rfl rfl ?_
      refine gw_goto 15 d_X12_costOf_56 rfl ?_
      exact (h.2 c1).2
    refine gw_icmp_le 45 41 d_X12_costOf_38 rfl rfl (fun c3 => ?_) (fun c3 => ?_)
    · skip
      refine gw_iload 47 d_X12_costOf_45 rfl rfl ?_
      simpa only [if_pos c3] using j2
    · skip
      refine gw_iload_n 42 d_X12_costOf_41 rfl rfl ?_
      refine gw_goto 47 d_X12_costOf_42 rfl ?_
      simpa only [if_neg c3] using j2
set_option maxRecDepth 100000 in
set_option maxHeartbeats 4000000 in
theorem r_X12_isCost_0 {d : Nat} {QR : Option gw_SV → gw_Mem → Prop} {Γ : gw_Ga} (x0 : Int) (x1 : Int) (x2 : Int) (m : gw_Mem) (h : gw_CI d M_X12_in [gL x0, gL 0, gL 9] m (fun v1 m2 => ((v1 = 0 → QR (some (gI 0)) m2) ∧ (¬ (v1 = 0) → gw_CI d M_X12_in [gL x1, gL 0, gL 30] m2 (fun v4 m5 => ((v4 = 0 → QR (some (gI 0)) m5) ∧ (¬ (v4 = 0) → gw_CI d M_X12_in [gL x2, gL 0, gL 99] m5 (fun v7 m8 => QR (some (gI (if v7 = 0 then (0 : Int) else (1 : Int)))) m8)))))))) : gw_G M_X12_isCost d QR Γ 0 [some (gI x0), some (gI x1), some (gI x2)] [] m := by
  refine gw_iload_n 1 d_X12_isCost_0 rfl rfl ?_
  refine gw_i2lR 2 d_X12_isCost_1 rfl  ?_
  refine gw_lconst 3 d_X12_isCost_2 rfl (n := 0) rfl (by decide) ?_
  refine gw_ldc2 6 d_X12_isCost_3 rfl ct_12_136 (n := 9) (gw_rb_inL (gw_rb_in rfl)) (by decide) ?_
  refine gw_cSI (a := [gL x0, gL 0, gL 9]) (rest := []) 9 d_X12_isCost_6 rfl ml_12_98 v_X12_in rfl rfl rfl h (fun v1 m2 h3 => ?_)
  refine gw_if_eq 40 12 d_X12_isCost_9 rfl rfl (fun c10 => ?_) (fun c10 => ?_)
  · skip
    refine gw_iconst 41 d_X12_isCost_40 rfl rfl ?_
    exact gw_ireturn d_X12_isCost_41 (Or.inr ⟨rfl, gw_b0⟩) (h3.1 c10)
  · skip
    refine gw_iload_n 13 d_X12_isCost_12 rfl rfl ?_
    refine gw_i2lR 14 d_X12_isCost_13 rfl  ?_
    refine gw_lconst 15 d_X12_isCost_14 rfl (n := 0) rfl (by decide) ?_
    refine gw_ldc2 18 d_X12_isCost_15 rfl ct_12_138 (n := 30) (gw_rb_inL (gw_rb_in rfl)) (by decide) ?_
    refine gw_cSI (a := [gL x1, gL 0, gL 30]) (rest := []) 21 d_X12_isCost_18 rfl ml_12_98 v_X12_in rfl rfl rfl (h3.2 c10) (fun v4 m5 h6 => ?_)
    refine gw_if_eq 40 24 d_X12_isCost_21 rfl rfl (fun c11 => ?_) (fun c11 => ?_)
    · skip
      refine gw_iconst 41 d_X12_isCost_40 rfl rfl ?_
      exact gw_ireturn d_X12_isCost_41 (Or.inr ⟨rfl, gw_b0⟩) (h6.1 c11)
    · skip
      refine gw_iload_n 25 d_X12_isCost_24 rfl rfl ?_
      refine gw_i2lR 26 d_X12_isCost_25 rfl  ?_
      refine gw_lconst 27 d_X12_isCost_26 rfl (n := 0) rfl (by decide) ?_
      refine gw_ldc2 30 d_X12_isCost_27 rfl ct_12_104 (n := 99) (gw_rb_inL (gw_rb_in rfl)) (by decide) ?_
      refine gw_cSI (a := [gL x2, gL 0, gL 99]) (rest := []) 33 d_X12_isCost_30 rfl ml_12_98 v_X12_in rfl rfl rfl (h6.2 c11) (fun v7 m8 h9 => ?_)
      have j12 : gw_G M_X12_isCost d QR Γ 41 [some (gI x0), some (gI x1), some (gI x2)] [gI (if v7 = 0 then (0 : Int) else (1 : Int))] m8 := by
        exact gw_ireturn d_X12_isCost_41 (Or.inr ⟨rfl, (gw_bi gw_b0 gw_b1)⟩) h9
      refine gw_if_eq 40 36 d_X12_isCost_33 rfl rfl (fun c13 => ?_) (fun c13 => ?_)
      · skip
        refine gw_iconst 41 d_X12_isCost_40 rfl rfl ?_
        simpa only [if_pos c13] using j12
      · skip
        refine gw_iconst 37 d_X12_isCost_36 rfl rfl ?_
        refine gw_goto 41 d_X12_isCost_37 rfl ?_
        simpa only [if_neg c13] using j12
set_option maxRecDepth 100000 in
set_option maxHeartbeats 4000000 in
theorem r_X12_counted_0 {d : Nat} {QR : Option gw_SV → gw_Mem → Prop} {Γ : gw_Ga} (x1 : Int) (x2 : Int) (x3 : Int) (x4 : Int) (m : gw_Mem) (h : gw_CI d M_X12_in [gL x1, gL 1, gL 8] m (fun v1 m2 => ((v1 = 0 → QR (some (gI (-1))) m2) ∧ (¬ (v1 = 0) → gw_CI d M_X12_isCost [gI x2, gI x3, gI x4] m2 (fun v4 m5 => ((v4 = 0 → QR (some (gI (-1))) m5) ∧ (¬ (v4 = 0) → gw_CI d M_X12_stopsMet [gR 117] m5 (fun v7 m8 => ((v7 = 0 → QR (some (gI (-2))) m8) ∧ (¬ (v7 = 0) → gw_CI d M_X12_costOf [gI v7, gI x1, gI x2, gI x3, gI x4] m8 (fun v10 m11 => QR (some (gI v10)) m11))))))))))) : gw_G M_X12_counted d QR Γ 0 [some (gR 117), some (gI x1), some (gI x2), some (gI x3), some (gI x4), none] [] m := by
  refine gw_iload_n 1 d_X12_counted_0 rfl rfl ?_
  refine gw_i2lR 2 d_X12_counted_1 rfl  ?_
  refine gw_lconst 3 d_X12_counted_2 rfl (n := 1) rfl (by decide) ?_
  refine gw_ldc2 6 d_X12_counted_3 rfl ct_12_143 (n := 8) (gw_rb_inL (gw_rb_in rfl)) (by decide) ?_
  refine gw_cSI (a := [gL x1, gL 1, gL 8]) (rest := []) 9 d_X12_counted_6 rfl ml_12_98 v_X12_in rfl rfl rfl h (fun v1 m2 h3 => ?_)
  refine gw_if_eq 22 12 d_X12_counted_9 rfl rfl (fun c13 => ?_) (fun c13 => ?_)
  · skip
    refine gw_iconst 23 d_X12_counted_22 rfl rfl ?_
    exact gw_ireturn d_X12_counted_23 (Or.inl rfl) (h3.1 c13)
  · skip
    refine gw_iload_n 13 d_X12_counted_12 rfl rfl ?_
    refine gw_iload_n 14 d_X12_counted_13 rfl rfl ?_
    refine gw_iload 16 d_X12_counted_14 rfl rfl ?_
    refine gw_cSI (a := [gI x2, gI x3, gI x4]) (rest := []) 19 d_X12_counted_16 rfl ml_12_281 v_X12_isCost rfl rfl rfl (h3.2 c13) (fun v4 m5 h6 => ?_)
    refine gw_if_ne 24 22 d_X12_counted_19 rfl rfl (fun c14 => ?_) (fun c14 => ?_)
    · skip
      refine gw_iconst 23 d_X12_counted_22 rfl rfl ?_
      exact gw_ireturn d_X12_counted_23 (Or.inl rfl) (h6.1 c14)
    · skip
      refine gw_aload_n 25 d_X12_counted_24 rfl rfl ?_
      refine gw_cVI (a := []) (rest := []) 28 d_X12_counted_25 rfl ml_12_193 v_X12_stopsMet rfl sh_117 rfl rfl rfl (h6.2 c14) (fun v7 m8 h9 => ?_)
      refine gw_istore (ls' := [some (gR 117), some (gI x1), some (gI x2), some (gI x3), some (gI x4), some (gI v7)]) 30 d_X12_counted_28 rfl rfl rfl rfl ?_
      refine gw_iload 32 d_X12_counted_30 rfl rfl ?_
      refine gw_if_ne 40 35 d_X12_counted_32 rfl rfl (fun c15 => ?_) (fun c15 => ?_)
      · skip
        refine gw_bipush 37 d_X12_counted_35 rfl rfl (by decide) ?_
        refine gw_goto 50 d_X12_counted_37 rfl ?_
        exact gw_ireturn d_X12_counted_50 (Or.inl rfl) (h9.1 c15)
      · skip
        refine gw_iload 42 d_X12_counted_40 rfl rfl ?_
        refine gw_iload_n 43 d_X12_counted_42 rfl rfl ?_
        refine gw_iload_n 44 d_X12_counted_43 rfl rfl ?_
        refine gw_iload_n 45 d_X12_counted_44 rfl rfl ?_
        refine gw_iload 47 d_X12_counted_45 rfl rfl ?_
        refine gw_cSI (a := [gI v7, gI x1, gI x2, gI x3, gI x4]) (rest := []) 50 d_X12_counted_47 rfl ml_12_285 v_X12_costOf rfl rfl rfl (h9.2 c15) (fun v10 m11 h12 => ?_)
        exact gw_ireturn d_X12_counted_50 (Or.inl rfl) h12
set_option maxRecDepth 100000 in
set_option maxHeartbeats 4000000 in
theorem r_X12_often_0 {d : Nat} {QR : Option gw_SV → gw_Mem → Prop} {Γ : gw_Ga} (x1 : Int) (x2 : Int) (x3 : Int) (m : gw_Mem) (h : gw_CI d M_X12_isCost [gI x1, gI x2, gI x3] m (fun v1 m2 => ((v1 = 0 → QR (some (gI (-1))) m2) ∧ (¬ (v1 = 0) → gw_CI d M_X12_stopsMet [gR 117] m2 (fun v4 m5 => gw_G M_X12_often d QR Γ 23 [some (gR 117), some (gI x1), some (gI x2), some (gI x3), some (gI v4), some (gI 1), some (gI 2)] [] m5))))) : gw_G M_X12_often d QR Γ 0 [some (gR 117), some (gI x1), some (gI x2), some (gI x3), none, none, none] [] m := by
  refine gw_iload_n 1 d_X12_often_0 rfl rfl ?_
  refine gw_iload_n 2 d_X12_often_1 rfl rfl ?_
  refine gw_iload_n 3 d_X12_often_2 rfl rfl ?_
  refine gw_cSI (a := [gI x1, gI x2, gI x3]) (rest := []) 6 d_X12_often_3 rfl ml_12_281 v_X12_isCost rfl rfl rfl h (fun v1 m2 h3 => ?_)
  refine gw_if_ne 11 9 d_X12_often_6 rfl rfl (fun c13 => ?_) (fun c13 => ?_)
  · skip
    refine gw_iconst 10 d_X12_often_9 rfl rfl ?_
    exact gw_ireturn d_X12_often_10 (Or.inl rfl) (h3.1 c13)
  · skip
    refine gw_aload_n 12 d_X12_often_11 rfl rfl ?_
    refine gw_cVI (a := []) (rest := []) 15 d_X12_often_12 rfl ml_12_193 v_X12_stopsMet rfl sh_117 rfl rfl rfl (h3.2 c13) (fun v4 m5 h6 => ?_)
    refine gw_istore (ls' := [some (gR 117), some (gI x1), some (gI x2), some (gI x3), some (gI v4), none, none]) 17 d_X12_often_15 rfl rfl rfl rfl ?_
    refine gw_iconst 18 d_X12_often_17 rfl rfl ?_
    refine gw_istore (ls' := [some (gR 117), some (gI x1), some (gI x2), some (gI x3), some (gI v4), some (gI 1), none]) 20 d_X12_often_18 rfl rfl rfl rfl ?_
    refine gw_iconst 21 d_X12_often_20 rfl rfl ?_
    refine gw_istore (ls' := [some (gR 117), some (gI x1), some (gI x2), some (gI x3), some (gI v4), some (gI 1), some (gI 2)]) 23 d_X12_often_21 rfl rfl rfl rfl ?_
    exact h6
set_option maxRecDepth 100000 in
set_option maxHeartbeats 4000000 in
theorem r_X12_often_23 {d : Nat} {QR : Option gw_SV → gw_Mem → Prop} {Γ : gw_Ga} (y0 : Option gw_SV) (x1 : Int) (x2 : Int) (x3 : Int) (x4 : Int) (x5 : Int) (x6 : Int) (m : gw_Mem) (h : ((9 ≤ x6 → QR (some (gI (if x4 = 0 then (-2 : Int) else x5))) m) ∧ (¬ (9 ≤ x6) → gw_CI d M_X12_costOf [gI x4, gI x6, gI x1, gI x2, gI x3] m (fun v7 m8 => gw_CI d M_X12_costOf [gI x4, gI x5, gI x1, gI x2, gI x3] m8 (fun v10 m11 => gw_G M_X12_often d QR Γ 23 [y0, some (gI x1), some (gI x2), some (gI x3), some (gI x4), some (gI (if v10 ≤ v7 then x5 else x6)), some (gI (gw_w (x6 + 1)))] [] m11))))) : gw_G M_X12_often d QR Γ 23 [y0, some (gI x1), some (gI x2), some (gI x3), some (gI x4), some (gI x5), some (gI x6)] [] m := by
  refine gw_iload 25 d_X12_often_23 rfl rfl ?_
  refine gw_bipush 27 d_X12_often_25 rfl rfl (by decide) ?_
  refine gw_icmp_ge 68 30 d_X12_often_27 rfl rfl (fun c14 => ?_) (fun c14 => ?_)
  · skip
    refine gw_iload 70 d_X12_often_68 rfl rfl ?_
    have j15 : gw_G M_X12_often d QR Γ 80 [y0, some (gI x1), some (gI x2), some (gI x3), some (gI x4), some (gI x5), some (gI x6)] [gI (if x4 = 0 then (-2 : Int) else x5)] m := by
      exact gw_ireturn d_X12_often_80 (Or.inl rfl) (h.1 c14)
    refine gw_if_ne 78 73 d_X12_often_70 rfl rfl (fun c16 => ?_) (fun c16 => ?_)
    · skip
      refine gw_bipush 75 d_X12_often_73 rfl rfl (by decide) ?_
      refine gw_goto 80 d_X12_often_75 rfl ?_
      simpa only [if_pos c16] using j15
    · skip
      refine gw_iload 80 d_X12_often_78 rfl rfl ?_
      simpa only [if_neg c16] using j15
  · skip
    refine gw_iload 32 d_X12_often_30 rfl rfl ?_
    refine gw_iload 34 d_X12_often_32 rfl rfl ?_
    refine gw_iload_n 35 d_X12_often_34 rfl rfl ?_
    refine gw_iload_n 36 d_X12_often_35 rfl rfl ?_
    refine gw_iload_n 37 d_X12_often_36 rfl rfl ?_
    refine gw_cSI (a := [gI x4, gI x6, gI x1, gI x2, gI x3]) (rest := []) 40 d_X12_often_37 rfl ml_12_285 v_X12_costOf rfl rfl rfl (h.2 c14) (fun v7 m8 h9 => ?_)
    refine gw_iload 42 d_X12_often_40 rfl rfl ?_
    refine gw_iload 44 d_X12_often_42 rfl rfl ?_
    refine gw_iload_n 45 d_X12_often_44 rfl rfl ?_
    refine gw_iload_n 46 d_X12_often_45 rfl rfl ?_
    refine gw_iload_n 47 d_X12_often_46 rfl rfl ?_
    refine gw_cSI (a := [gI x4, gI x5, gI x1, gI x2, gI x3]) (rest := [gI v7]) 50 d_X12_often_47 rfl ml_12_285 v_X12_costOf rfl rfl rfl h9 (fun v10 m11 h12 => ?_)
    have j17 : gw_G M_X12_often d QR Γ 60 [y0, some (gI x1), some (gI x2), some (gI x3), some (gI x4), some (gI x5), some (gI x6)] [gI (if v10 ≤ v7 then x5 else x6)] m11 := by
      refine gw_istore (ls' := [y0, some (gI x1), some (gI x2), some (gI x3), some (gI x4), some (gI (if v10 ≤ v7 then x5 else x6)), some (gI x6)]) 62 d_X12_often_60 rfl rfl rfl rfl ?_
      refine gw_iinc (ls' := [y0, some (gI x1), some (gI x2), some (gI x3), some (gI x4), some (gI (if v10 ≤ v7 then x5 else x6)), some (gI (gw_w (x6 + 1)))]) 65 d_X12_often_62 rfl rfl rfl rfl rfl ?_
      refine gw_goto 23 d_X12_often_65 rfl ?_
      exact h12
    refine gw_icmp_ge 58 53 d_X12_often_50 rfl rfl (fun c18 => ?_) (fun c18 => ?_)
    · skip
      refine gw_iload 60 d_X12_often_58 rfl rfl ?_
      simpa only [if_pos c18] using j17
    · skip
      refine gw_iload 55 d_X12_often_53 rfl rfl ?_
      refine gw_goto 60 d_X12_often_55 rfl ?_
      simpa only [if_neg c18] using j17
set_option maxRecDepth 100000 in
set_option maxHeartbeats 4000000 in
theorem r_X12_square_0 {d : Nat} {QR : Option gw_SV → gw_Mem → Prop} {Γ : gw_Ga} (x1 : Int) (x2 : Int) (m : gw_Mem) (h : gw_CI d M_X12_in [gL x1, gL 0, gL 143] m (fun v1 m2 => ((v1 = 0 → QR (some (gI (-1))) m2) ∧ (¬ (v1 = 0) → gw_CI d M_X12_in [gL x2, gL 0, gL 2] m2 (fun v4 m5 => ((v4 = 0 → QR (some (gI (-1))) m5) ∧ (¬ (v4 = 0) → gw_in x1 144 ∧ gw_in x1 144 ∧ QR (some (gI (m5 126 x1))) (gw_up m5 126 x1 x2)))))))) : gw_G M_X12_square d QR Γ 0 [some (gR 117), some (gI x1), some (gI x2), none] [] m := by
  refine gw_iload_n 1 d_X12_square_0 rfl rfl ?_
  refine gw_i2lR 2 d_X12_square_1 rfl  ?_
  refine gw_lconst 3 d_X12_square_2 rfl (n := 0) rfl (by decide) ?_
  refine gw_ldc2 6 d_X12_square_3 rfl ct_12_289 (n := 143) (gw_rb_inL (gw_rb_in rfl)) (by decide) ?_
  refine gw_cSI (a := [gL x1, gL 0, gL 143]) (rest := []) 9 d_X12_square_6 rfl ml_12_98 v_X12_in rfl rfl rfl h (fun v1 m2 h3 => ?_)
  refine gw_if_eq 24 12 d_X12_square_9 rfl rfl (fun c7 => ?_) (fun c7 => ?_)
  · skip
    refine gw_iconst 25 d_X12_square_24 rfl rfl ?_
    exact gw_ireturn d_X12_square_25 (Or.inl rfl) (h3.1 c7)
  · skip
    refine gw_iload_n 13 d_X12_square_12 rfl rfl ?_
    refine gw_i2lR 14 d_X12_square_13 rfl  ?_
    refine gw_lconst 15 d_X12_square_14 rfl (n := 0) rfl (by decide) ?_
    refine gw_ldc2 18 d_X12_square_15 rfl ct_12_92 (n := 2) (gw_rb_inL (gw_rb_in rfl)) (by decide) ?_
    refine gw_cSI (a := [gL x2, gL 0, gL 2]) (rest := []) 21 d_X12_square_18 rfl ml_12_98 v_X12_in rfl rfl rfl (h3.2 c7) (fun v4 m5 h6 => ?_)
    refine gw_if_ne 26 24 d_X12_square_21 rfl rfl (fun c8 => ?_) (fun c8 => ?_)
    · skip
      refine gw_iconst 25 d_X12_square_24 rfl rfl ?_
      exact gw_ireturn d_X12_square_25 (Or.inl rfl) (h6.1 c8)
    · skip
      refine gw_aload_n 27 d_X12_square_26 rfl rfl ?_
      refine gw_getR 30 d_X12_square_27 rfl F_12_34 sh_117 rfl ?_
      refine gw_iload_n 31 d_X12_square_30 rfl rfl ?_
      refine gw_iaload 32 d_X12_square_31 rfl sh_126 (h6.2 c8).1 ?_
      refine gw_istore_n (ls' := [some (gR 117), some (gI x1), some (gI x2), some (gI (m5 126 x1))]) 33 d_X12_square_32 rfl rfl rfl rfl ?_
      refine gw_aload_n 34 d_X12_square_33 rfl rfl ?_
      refine gw_getR 37 d_X12_square_34 rfl F_12_34 sh_117 rfl ?_
      refine gw_iload_n 38 d_X12_square_37 rfl rfl ?_
      refine gw_iload_n 39 d_X12_square_38 rfl rfl ?_
      refine gw_iastore 40 d_X12_square_39 rfl sh_126 (h6.2 c8).2.1 ?_
      refine gw_iload_n 41 d_X12_square_40 rfl rfl ?_
      exact gw_ireturn d_X12_square_41 (Or.inl rfl) (h6.2 c8).2.2
set_option maxRecDepth 100000 in
set_option maxHeartbeats 4000000 in
theorem r_X12_size_0 {d : Nat} {QR : Option gw_SV → gw_Mem → Prop} {Γ : gw_Ga} (x0 : Int) (m : gw_Mem) (h : QR (some (gI (if 0 ≤ x0 then x0 else gw_w (-x0)))) m) : gw_G M_X12_size d QR Γ 0 [some (gI x0)] [] m := by
  refine gw_iload_n 1 d_X12_size_0 rfl rfl ?_
  have j1 : gw_G M_X12_size d QR Γ 10 [some (gI x0)] [gI (if 0 ≤ x0 then x0 else gw_w (-x0))] m := by
    exact gw_ireturn d_X12_size_10 (Or.inl rfl) h
  refine gw_if_ge 9 4 d_X12_size_1 rfl rfl (fun c2 => ?_) (fun c2 => ?_)
  · skip
    refine gw_iload_n 10 d_X12_size_9 rfl rfl ?_
    simpa only [if_pos c2] using j1
  · skip
    refine gw_iload_n 5 d_X12_size_4 rfl rfl ?_
    refine gw_ineg 6 d_X12_size_5 rfl  ?_
    refine gw_goto 10 d_X12_size_6 rfl ?_
    simpa only [if_neg c2] using j1
set_option maxRecDepth 100000 in
set_option maxHeartbeats 4000000 in
theorem r_X12_sign_0 {d : Nat} {QR : Option gw_SV → gw_Mem → Prop} {Γ : gw_Ga} (x0 : Int) (m : gw_Mem) (h : QR (some (gI (if 0 ≤ x0 then (if x0 ≤ 0 then (0 : Int) else (1 : Int)) else (-1 : Int)))) m) : gw_G M_X12_sign d QR Γ 0 [some (gI x0)] [] m := by
  refine gw_iload_n 1 d_X12_sign_0 rfl rfl ?_
  have j1 : gw_G M_X12_sign d QR Γ 17 [some (gI x0)] [gI (if 0 ≤ x0 then (if x0 ≤ 0 then (0 : Int) else (1 : Int)) else (-1 : Int))] m := by
    exact gw_ireturn d_X12_sign_17 (Or.inl rfl) h
  refine gw_if_ge 8 4 d_X12_sign_1 rfl rfl (fun c2 => ?_) (fun c2 => ?_)
  · skip
    refine gw_iload_n 9 d_X12_sign_8 rfl rfl ?_
    refine gw_if_le 16 12 d_X12_sign_9 rfl rfl (fun c3 => ?_) (fun c3 => ?_)
    · skip
      refine gw_iconst 17 d_X12_sign_16 rfl rfl ?_
      simpa only [if_pos c2, if_pos c3] using j1
    · skip
      refine gw_iconst 13 d_X12_sign_12 rfl rfl ?_
      refine gw_goto 17 d_X12_sign_13 rfl ?_
      simpa only [if_pos c2, if_neg c3] using j1
  · skip
    refine gw_iconst 5 d_X12_sign_4 rfl rfl ?_
    refine gw_goto 17 d_X12_sign_5 rfl ?_
    simpa only [if_neg c2] using j1
set_option maxRecDepth 100000 in
set_option maxHeartbeats 4000000 in
theorem r_X12_farthest_0 {d : Nat} {QR : Option gw_SV → gw_Mem → Prop} {Γ : gw_Ga} (x1 : Int) (m : gw_Mem) (h : gw_in x1 144 ∧ ((m 126 x1 = 1 → QR (some (gI (-4))) m) ∧ (¬ (m 126 x1 = 1) → gw_G M_X12_farthest d QR Γ 17 [some (gR 117), some (gI x1), some (gI 0), some (gI 0), none, none, none, none, none, none] [] m))) : gw_G M_X12_farthest d QR Γ 0 [some (gR 117), some (gI x1), none, none, none, none, none, none, none, none] [] m := by
  refine gw_aload_n 1 d_X12_farthest_0 rfl rfl ?_
  refine gw_getR 4 d_X12_farthest_1 rfl F_12_34 sh_117 rfl ?_
  refine gw_iload_n 5 d_X12_farthest_4 rfl rfl ?_
  refine gw_iaload 6 d_X12_farthest_5 rfl sh_126 h.1 ?_
  refine gw_iconst 7 d_X12_farthest_6 rfl rfl ?_
  refine gw_icmp_ne 13 10 d_X12_farthest_7 rfl rfl (fun c25 => ?_) (fun c25 => ?_)
  · skip
    refine gw_bipush 12 d_X12_farthest_10 rfl rfl (by decide) ?_
    exact gw_ireturn d_X12_farthest_12 (Or.inl rfl) (h.2.1 c25)
  · skip
    refine gw_iconst 14 d_X12_farthest_13 rfl rfl ?_
    refine gw_istore_n (ls' := [some (gR 117), some (gI x1), some (gI 0), none, none, none, none, none, none, none]) 15 d_X12_farthest_14 rfl rfl rfl rfl ?_
    refine gw_iconst 16 d_X12_farthest_15 rfl rfl ?_
    refine gw_istore_n (ls' := [some (gR 117), some (gI x1), some (gI 0), some (gI 0), none, none, none, none, none, none]) 17 d_X12_farthest_16 rfl rfl rfl rfl ?_
    exact (h.2.2 c25)
set_option maxRecDepth 100000 in
set_option maxHeartbeats 4000000 in
theorem r_X12_farthest_17 {d : Nat} {QR : Option gw_SV → gw_Mem → Prop} {Γ : gw_Ga} (x1 : Int) (x2 : Int) (x3 : Int) (y4 : Option gw_SV) (y5 : Option gw_SV) (y6 : Option gw_SV) (y7 : Option gw_SV) (y8 : Option gw_SV) (y9 : Option gw_SV) (m : gw_Mem) (h : ((144 ≤ x3 → QR (some (gI x2)) m) ∧ (¬ (144 ≤ x3) → gw_CI d M_X12_size [gI (gw_w ((x3.tmod 12) - (x1.tmod 12)))] m (fun v1 m2 => gw_CI d M_X12_size [gI (gw_w ((gw_w (x3.tdiv 12)) - (gw_w (x1.tdiv 12))))] m2 (fun v4 m5 => ((v1 ≤ v4 → gw_CI d M_X12_size [gI (gw_w ((gw_w (x3.tdiv 12)) - (gw_w (x1.tdiv 12))))] m5 (fun v7 m8 => gw_G M_X12_farthest d QR Γ 72 [some (gR 117), some (gI x1), some (gI x2), some (gI x3), some (gI (gw_w ((x3.tmod 12) - (x1.tmod 12)))), some (gI (gw_w ((gw_w (x3.tdiv 12)) - (gw_w (x1.tdiv 12))))), y6, y7, y8, y9] [gI v7] m8)) ∧ (¬ (v1 ≤ v4) → gw_CI d M_X12_size [gI (gw_w ((x3.tmod 12) - (x1.tmod 12)))] m5 (fun v10 m11 => gw_G M_X12_farthest d QR Γ 72 [some (gR 117), some (gI x1), some (gI x2), some (gI x3), some (gI (gw_w ((x3.tmod 12) - (x1.tmod 12)))), some (gI (gw_w ((gw_w (x3.tdiv 12)) - (gw_w (x1.tdiv 12))))), y6, y7, y8, y9] [gI v10] m11)))))))) : gw_G M_X12_farthest d QR Γ 17 [some (gR 117), some (gI x1), some (gI x2), some (gI x3), y4, y5, y6, y7, y8, y9] [] m := by
  refine gw_iload_n 18 d_X12_farthest_17 rfl rfl ?_
  refine gw_sipush 21 d_X12_farthest_18 rfl rfl (by decide) ?_
  refine gw_icmp_ge 220 24 d_X12_farthest_21 rfl rfl (fun c26 => ?_) (fun c26 => ?_)
  · skip
    refine gw_iload_n 221 d_X12_farthest_220 rfl rfl ?_
    exact gw_ireturn d_X12_farthest_221 (Or.inl rfl) (h.1 c26)
  · skip
    refine gw_iload_n 25 d_X12_farthest_24 rfl rfl ?_
    refine gw_bipush 27 d_X12_farthest_25 rfl rfl (by decide) ?_
    refine gw_irem 28 d_X12_farthest_27 rfl (by decide) ?_
    refine gw_iload_n 29 d_X12_farthest_28 rfl rfl ?_
    refine gw_bipush 31 d_X12_farthest_29 rfl rfl (by decide) ?_
    refine gw_irem 32 d_X12_farthest_31 rfl (by decide) ?_
    refine gw_isub 33 d_X12_farthest_32 rfl  ?_
    refine gw_istore (ls' := [some (gR 117), some (gI x1), some (gI x2), some (gI x3), some (gI (gw_w ((x3.tmod 12) - (x1.tmod 12)))), y5, y6, y7, y8, y9]) 35 d_X12_farthest_33 rfl rfl rfl rfl ?_
    refine gw_iload_n 36 d_X12_farthest_35 rfl rfl ?_
    refine gw_bipush 38 d_X12_farthest_36 rfl rfl (by decide) ?_
    refine gw_idiv 39 d_X12_farthest_38 rfl (by decide) ?_
    refine gw_iload_n 40 d_X12_farthest_39 rfl rfl ?_
    refine gw_bipush 42 d_X12_farthest_40 rfl rfl (by decide) ?_
    refine gw_idiv 43 d_X12_farthest_42 rfl (by decide) ?_
    refine gw_isub 44 d_X12_farthest_43 rfl  ?_
    refine gw_istore (ls' := [some (gR 117), some (gI x1), some (gI x2), some (gI x3), some (gI (gw_w ((x3.tmod 12) - (x1.tmod 12)))), some (gI (gw_w ((gw_w (x3.tdiv 12)) - (gw_w (x1.tdiv 12))))), y6, y7, y8, y9]) 46 d_X12_farthest_44 rfl rfl rfl rfl ?_
    refine gw_iload 48 d_X12_farthest_46 rfl rfl ?_
    refine gw_cSI (a := [gI (gw_w ((x3.tmod 12) - (x1.tmod 12)))]) (rest := []) 51 d_X12_farthest_48 rfl ml_12_291 v_X12_size rfl rfl rfl (h.2 c26) (fun v1 m2 h3 => ?_)
    refine gw_iload 53 d_X12_farthest_51 rfl rfl ?_
    refine gw_cSI (a := [gI (gw_w ((gw_w (x3.tdiv 12)) - (gw_w (x1.tdiv 12))))]) (rest := [gI v1]) 56 d_X12_farthest_53 rfl ml_12_291 v_X12_size rfl rfl rfl h3 (fun v4 m5 h6 => ?_)
    refine gw_icmp_le 67 59 d_X12_farthest_56 rfl rfl (fun c27 => ?_) (fun c27 => ?_)
    · skip
      refine gw_iload 69 d_X12_farthest_67 rfl rfl ?_
      refine gw_cSI (a := [gI (gw_w ((gw_w (x3.tdiv 12)) - (gw_w (x1.tdiv 12))))]) (rest := []) 72 d_X12_farthest_69 rfl ml_12_291 v_X12_size rfl rfl rfl (h6.1 c27) (fun v7 m8 h9 => ?_)
      exact h9
    · skip
      refine gw_iload 61 d_X12_farthest_59 rfl rfl ?_
      refine gw_cSI (a := [gI (gw_w ((x3.tmod 12) - (x1.tmod 12)))]) (rest := []) 64 d_X12_farthest_61 rfl ml_12_291 v_X12_size rfl rfl rfl (h6.2 c27) (fun v10 m11 h12 => ?_)
      refine gw_goto 72 d_X12_farthest_64 rfl ?_
      exact h12
set_option maxRecDepth 100000 in
set_option maxHeartbeats 4000000 in
theorem r_X12_farthest_72 {d : Nat} {QR : Option gw_SV → gw_Mem → Prop} {Γ : gw_Ga} (x1 : Int) (x2 : Int) (x3 : Int) (x4 : Int) (x5 : Int) (y6 : Option gw_SV) (y7 : Option gw_SV) (y8 : Option gw_SV) (y9 : Option gw_SV) (z0 : Int) (m : gw_Mem) (h : gw_in x3 144 ∧ ((m 126 x3 = 2 → ((x4 = 0 → gw_G M_X12_farthest d QR Γ 107 [some (gR 117), some (gI x1), some (gI x2), some (gI x3), some (gI x4), some (gI x5), some (gI z0), y7, y8, y9] [] m) ∧ (¬ (x4 = 0) → ((x5 = 0 → gw_G M_X12_farthest d QR Γ 107 [some (gR 117), some (gI x1), some (gI x2), some (gI x3), some (gI x4), some (gI x5), some (gI z0), y7, y8, y9] [] m) ∧ (¬ (x5 = 0) → gw_CI d M_X12_size [gI x4] m (fun v13 m14 => gw_CI d M_X12_size [gI x5] m14 (fun v16 m17 => ((v13 = v16 → gw_G M_X12_farthest d QR Γ 107 [some (gR 117), some (gI x1), some (gI x2), some (gI x3), some (gI x4), some (gI x5), some (gI z0), y7, y8, y9] [] m17) ∧ (¬ (v13 = v16) → gw_G M_X12_farthest d QR Γ 112 [some (gR 117), some (gI x1), some (gI x2), some (gI x3), some (gI x4), some (gI x5), some (gI z0), y7, y8, y9] [gI 0] m17))))))))) ∧ (¬ (m 126 x3 = 2) → gw_G M_X12_farthest d QR Γ 214 [some (gR 117), some (gI x1), some (gI x2), some (gI x3), some (gI x4), some (gI x5), some (gI z0), y7, y8, y9] [] m))) : gw_G M_X12_farthest d QR Γ 72 [some (gR 117), some (gI x1), some (gI x2), some (gI x3), some (gI x4), some (gI x5), y6, y7, y8, y9] [gI z0] m := by
  refine gw_istore (ls' := [some (gR 117), some (gI x1), some (gI x2), some (gI x3), some (gI x4), some (gI x5), some (gI z0), y7, y8, y9]) 74 d_X12_farthest_72 rfl rfl rfl rfl ?_
  refine gw_aload_n 75 d_X12_farthest_74 rfl rfl ?_
  refine gw_getR 78 d_X12_farthest_75 rfl F_12_34 sh_117 rfl ?_
  refine gw_iload_n 79 d_X12_farthest_78 rfl rfl ?_
  refine gw_iaload 80 d_X12_farthest_79 rfl sh_126 h.1 ?_
  refine gw_iconst 81 d_X12_farthest_80 rfl rfl ?_
  refine gw_icmp_ne 214 84 d_X12_farthest_81 rfl rfl (fun c28 => ?_) (fun c28 => ?_)
  · skip
    refine gw_iload 86 d_X12_farthest_84 rfl rfl ?_
    refine gw_if_eq 107 89 d_X12_farthest_86 rfl rfl (fun c29 => ?_) (fun c29 => ?_)
    · skip
      exact ((h.2.1 c28).1 c29)
    · skip
      refine gw_iload 91 d_X12_farthest_89 rfl rfl ?_
      refine gw_if_eq 107 94 d_X12_farthest_91 rfl rfl (fun c30 => ?_) (fun c30 => ?_)
      · skip
        exact (((h.2.1 c28).2 c29).1 c30)
      · skip
        refine gw_iload 96 d_X12_farthest_94 rfl rfl ?_
        refine gw_cSI (a := [gI x4]) (rest := []) 99 d_X12_farthest_96 rfl ml_12_291 v_X12_size rfl rfl rfl (((h.2.1 c28).2 c29).2 c30) (fun v13 m14 h15 => ?_)
        refine gw_iload 101 d_X12_farthest_99 rfl rfl ?_
        refine gw_cSI (a := [gI x5]) (rest := [gI v13]) 104 d_X12_farthest_101 rfl ml_12_291 v_X12_size rfl rfl rfl h15 (fun v16 m17 h18 => ?_)
        refine gw_icmp_ne 111 107 d_X12_farthest_104 rfl rfl (fun c31 => ?_) (fun c31 => ?_)
        · skip
          exact (h18.1 c31)
        · skip
          refine gw_iconst 112 d_X12_farthest_111 rfl rfl ?_
          exact (h18.2 c31)
  · skip
    exact (h.2.2 c28)
set_option maxRecDepth 100000 in
set_option maxHeartbeats 4000000 in
theorem r_X12_farthest_107 {d : Nat} {QR : Option gw_SV → gw_Mem → Prop} {Γ : gw_Ga} (x1 : Int) (x2 : Int) (x3 : Int) (x4 : Int) (x5 : Int) (x6 : Int) (y7 : Option gw_SV) (y8 : Option gw_SV) (y9 : Option gw_SV) (m : gw_Mem) (h : gw_G M_X12_farthest d QR Γ 112 [some (gR 117), some (gI x1), some (gI x2), some (gI x3), some (gI x4), some (gI x5), some (gI x6), y7, y8, y9] [gI 1] m) : gw_G M_X12_farthest d QR Γ 107 [some (gR 117), some (gI x1), some (gI x2), some (gI x3), some (gI x4), some (gI x5), some (gI x6), y7, y8, y9] [] m := by
  refine gw_iconst 108 d_X12_farthest_107 rfl rfl ?_
  refine gw_goto 112 d_X12_farthest_108 rfl ?_
  exact h
set_option maxRecDepth 100000 in
set_option maxHeartbeats 4000000 in
theorem r_X12_farthest_112 {d : Nat} {QR : Option gw_SV → gw_Mem → Prop} {Γ : gw_Ga} (x1 : Int) (x2 : Int) (x3 : Int) (x4 : Int) (x5 : Int) (x6 : Int) (y7 : Option gw_SV) (y8 : Option gw_SV) (y9 : Option gw_SV) (z0 : Int) (m : gw_Mem) (h : gw_G M_X12_farthest d QR Γ 135 [some (gR 117), some (gI x1), some (gI x2), some (gI x3), some (gI x4), some (gI x5), some (gI x6), some (gI z0), some (gI (if m 122 4 < x6 then (0 : Int) else (1 : Int))), some (gI 1)] [] m) : gw_G M_X12_farthest d QR Γ 112 [some (gR 117), some (gI x1), some (gI x2), some (gI x3), some (gI x4), some (gI x5), some (gI x6), y7, y8, y9] [gI z0] m := by
  refine gw_istore (ls' := [some (gR 117), some (gI x1), some (gI x2), some (gI x3), some (gI x4), some (gI x5), some (gI x6), some (gI z0), y8, y9]) 114 d_X12_farthest_112 rfl rfl rfl rfl ?_
  refine gw_iload 116 d_X12_farthest_114 rfl rfl ?_
  refine gw_aload_n 117 d_X12_farthest_116 rfl rfl ?_
  refine gw_getR 120 d_X12_farthest_117 rfl F_12_22 sh_117 rfl ?_
  refine gw_iconst 121 d_X12_farthest_120 rfl rfl ?_
  refine gw_iaload 122 d_X12_farthest_121 rfl sh_122 (gw_inN (k := 4) rfl) ?_
  have j32 : gw_G M_X12_farthest d QR Γ 130 [some (gR 117), some (gI x1), some (gI x2), some (gI x3), some (gI x4), some (gI x5), some (gI x6), some (gI z0), y8, y9] [gI (if m 122 4 < x6 then (0 : Int) else (1 : Int))] m := by
    refine gw_istore (ls' := [some (gR 117), some (gI x1), some (gI x2), some (gI x3), some (gI x4), some (gI x5), some (gI x6), some (gI z0), some (gI (if m 122 4 < x6 then (0 : Int) else (1 : Int))), y9]) 132 d_X12_farthest_130 rfl rfl rfl rfl ?_
    refine gw_iconst 133 d_X12_farthest_132 rfl rfl ?_
    refine gw_istore (ls' := [some (gR 117), some (gI x1), some (gI x2), some (gI x3), some (gI x4), some (gI x5), some (gI x6), some (gI z0), some (gI (if m 122 4 < x6 then (0 : Int) else (1 : Int))), some (gI 1)]) 135 d_X12_farthest_133 rfl rfl rfl rfl ?_
    exact h
  refine gw_icmp_gt 129 125 d_X12_farthest_122 rfl rfl (fun c33 => ?_) (fun c33 => ?_)
  · skip
    refine gw_iconst 130 d_X12_farthest_129 rfl rfl ?_
    simpa only [if_pos c33] using j32
  · skip
    refine gw_iconst 126 d_X12_farthest_125 rfl rfl ?_
    refine gw_goto 130 d_X12_farthest_126 rfl ?_
    simpa only [if_neg c33] using j32
set_option maxRecDepth 100000 in
set_option maxHeartbeats 4000000 in
theorem r_X12_farthest_135 {d : Nat} {QR : Option gw_SV → gw_Mem → Prop} {Γ : gw_Ga} (x1 : Int) (x2 : Int) (x3 : Int) (x4 : Int) (x5 : Int) (x6 : Int) (x7 : Int) (x8 : Int) (x9 : Int) (m : gw_Mem) (h : ((x6 ≤ x9 → gw_G M_X12_farthest d QR Γ 193 [some (gR 117), some (gI x1), some (gI x2), some (gI x3), some (gI x4), some (gI x5), some (gI x6), some (gI x7), some (gI x8), some (gI x9)] [] m) ∧ (¬ (x6 ≤ x9) → ((x7 = 0 → gw_G M_X12_farthest d QR Γ 193 [some (gR 117), some (gI x1), some (gI x2), some (gI x3), some (gI x4), some (gI x5), some (gI x6), some (gI x7), some (gI x8), some (gI x9)] [] m) ∧ (¬ (x7 = 0) → ((x8 = 0 → gw_G M_X12_farthest d QR Γ 185 [some (gR 117), some (gI x1), some (gI x2), some (gI x3), some (gI x4), some (gI x5), some (gI x6), some (gI x7), some (gI x8), some (gI x9)] [gI 0] m) ∧ (¬ (x8 = 0) → gw_CI d M_X12_sign [gI x4] m (fun v19 m20 => gw_CI d M_X12_sign [gI x5] m20 (fun v22 m23 => gw_in (gw_w (x1 + (gw_w (x9 * (gw_w (v19 + (gw_w (12 * v22)))))))) 144 ∧ gw_G M_X12_farthest d QR Γ 185 [some (gR 117), some (gI x1), some (gI x2), some (gI x3), some (gI x4), some (gI x5), some (gI x6), some (gI x7), some (gI x8), some (gI x9)] [gI (if m23 126 (gw_w (x1 + (gw_w (x9 * (gw_w (v19 + (gw_w (12 * v22)))))))) = 1 then (0 : Int) else (1 : Int))] m23))))))))) : gw_G M_X12_farthest d QR Γ 135 [some (gR 117), some (gI x1), some (gI x2), some (gI x3), some (gI x4), some (gI x5), some (gI x6), some (gI x7), some (gI x8), some (gI x9)] [] m := by
  refine gw_iload 137 d_X12_farthest_135 rfl rfl ?_
  refine gw_iload 139 d_X12_farthest_137 rfl rfl ?_
  refine gw_icmp_ge 193 142 d_X12_farthest_139 rfl rfl (fun c34 => ?_) (fun c34 => ?_)
  · skip
    exact (h.1 c34)
  · skip
    refine gw_iload 144 d_X12_farthest_142 rfl rfl ?_
    refine gw_if_eq 193 147 d_X12_farthest_144 rfl rfl (fun c35 => ?_) (fun c35 => ?_)
    · skip
      exact ((h.2 c34).1 c35)
    · skip
      refine gw_iload 149 d_X12_farthest_147 rfl rfl ?_
      refine gw_if_eq 184 152 d_X12_farthest_149 rfl rfl (fun c36 => ?_) (fun c36 => ?_)
      · skip
        refine gw_iconst 185 d_X12_farthest_184 rfl rfl ?_
        exact (((h.2 c34).2 c35).1 c36)
      · skip
        refine gw_aload_n 153 d_X12_farthest_152 rfl rfl ?_
        refine gw_getR 156 d_X12_farthest_153 rfl F_12_34 sh_117 rfl ?_
        refine gw_iload_n 157 d_X12_farthest_156 rfl rfl ?_
        refine gw_iload 159 d_X12_farthest_157 rfl rfl ?_
        refine gw_iload 161 d_X12_farthest_159 rfl rfl ?_
        refine gw_cSI (a := [gI x4]) (rest := [gI x9, gI x1, gR 126]) 164 d_X12_farthest_161 rfl ml_12_294 v_X12_sign rfl rfl rfl (((h.2 c34).2 c35).2 c36) (fun v19 m20 h21 => ?_)
        refine gw_bipush 166 d_X12_farthest_164 rfl rfl (by decide) ?_
        refine gw_iload 168 d_X12_farthest_166 rfl rfl ?_
        refine gw_cSI (a := [gI x5]) (rest := [gI 12, gI v19, gI x9, gI x1, gR 126]) 171 d_X12_farthest_168 rfl ml_12_294 v_X12_sign rfl rfl rfl h21 (fun v22 m23 h24 => ?_)
        refine gw_imul 172 d_X12_farthest_171 rfl  ?_
        refine gw_iadd 173 d_X12_farthest_172 rfl  ?_
        refine gw_imul 174 d_X12_farthest_173 rfl  ?_
        refine gw_iadd 175 d_X12_farthest_174 rfl  ?_
        refine gw_iaload 176 d_X12_farthest_175 rfl sh_126 h24.1 ?_
        refine gw_iconst 177 d_X12_farthest_176 rfl rfl ?_
        have j37 : gw_G M_X12_farthest d QR Γ 185 [some (gR 117), some (gI x1), some (gI x2), some (gI x3), some (gI x4), some (gI x5), some (gI x6), some (gI x7), some (gI x8), some (gI x9)] [gI (if m23 126 (gw_w (x1 + (gw_w (x9 * (gw_w (v19 + (gw_w (12 * v22)))))))) = 1 then (0 : Int) else (1 : Int))] m23 := by
          exact h24.2
        refine gw_icmp_eq 184 180 d_X12_farthest_177 rfl rfl (fun c38 => ?_) (fun c38 => ?_)
        · skip
          refine gw_iconst 185 d_X12_farthest_184 rfl rfl ?_
          simpa only [if_pos c38] using j37
        · skip
          refine gw_iconst 181 d_X12_farthest_180 rfl rfl ?_
          refine gw_goto 185 d_X12_farthest_181 rfl ?_
          simpa only [if_neg c38] using j37
set_option maxRecDepth 100000 in
set_option maxHeartbeats 4000000 in
theorem r_X12_farthest_185 {d : Nat} {QR : Option gw_SV → gw_Mem → Prop} {Γ : gw_Ga} (x1 : Int) (x2 : Int) (x3 : Int) (x4 : Int) (x5 : Int) (x6 : Int) (x7 : Int) (x8 : Int) (x9 : Int) (z0 : Int) (m : gw_Mem) (h : gw_G M_X12_farthest d QR Γ 135 [some (gR 117), some (gI x1), some (gI x2), some (gI x3), some (gI x4), some (gI x5), some (gI x6), some (gI x7), some (gI z0), some (gI (gw_w (x9 + 1)))] [] m) : gw_G M_X12_farthest d QR Γ 185 [some (gR 117), some (gI x1), some (gI x2), some (gI x3), some (gI x4), some (gI x5), some (gI x6), some (gI x7), some (gI x8), some (gI x9)] [gI z0] m := by
  refine gw_istore (ls' := [some (gR 117), some (gI x1), some (gI x2), some (gI x3), some (gI x4), some (gI x5), some (gI x6), some (gI x7), some (gI z0), some (gI x9)]) 187 d_X12_farthest_185 rfl rfl rfl rfl ?_
  refine gw_iinc (ls' := [some (gR 117), some (gI x1), some (gI x2), some (gI x3), some (gI x4), some (gI x5), some (gI x6), some (gI x7), some (gI z0), some (gI (gw_w (x9 + 1)))]) 190 d_X12_farthest_187 rfl rfl rfl rfl rfl ?_
  refine gw_goto 135 d_X12_farthest_190 rfl ?_
  exact h
set_option maxRecDepth 100000 in
set_option maxHeartbeats 4000000 in
theorem r_X12_farthest_193 {d : Nat} {QR : Option gw_SV → gw_Mem → Prop} {Γ : gw_Ga} (x1 : Int) (x2 : Int) (x3 : Int) (x4 : Int) (x5 : Int) (x6 : Int) (x7 : Int) (x8 : Int) (x9 : Int) (m : gw_Mem) (h : ((x8 = 0 → QR (some (gI (-4))) m) ∧ (¬ (x8 = 0) → gw_G M_X12_farthest d QR Γ 214 [some (gR 117), some (gI x1), some (gI (if x6 ≤ x2 then x2 else x6)), some (gI x3), some (gI x4), some (gI x5), some (gI x6), some (gI x7), some (gI x8), some (gI x9)] [] m))) : gw_G M_X12_farthest d QR Γ 193 [some (gR 117), some (gI x1), some (gI x2), some (gI x3), some (gI x4), some (gI x5), some (gI x6), some (gI x7), some (gI x8), some (gI x9)] [] m := by
  refine gw_iload 195 d_X12_farthest_193 rfl rfl ?_
  refine gw_if_ne 201 198 d_X12_farthest_195 rfl rfl (fun c39 => ?_) (fun c39 => ?_)
  · skip
    refine gw_bipush 200 d_X12_farthest_198 rfl rfl (by decide) ?_
    exact gw_ireturn d_X12_farthest_200 (Or.inl rfl) (h.1 c39)
  · skip
    refine gw_iload 203 d_X12_farthest_201 rfl rfl ?_
    refine gw_iload_n 204 d_X12_farthest_203 rfl rfl ?_
    have j40 : gw_G M_X12_farthest d QR Γ 213 [some (gR 117), some (gI x1), some (gI x2), some (gI x3), some (gI x4), some (gI x5), some (gI x6), some (gI x7), some (gI x8), some (gI x9)] [gI (if x6 ≤ x2 then x2 else x6)] m := by
      refine gw_istore_n (ls' := [some (gR 117), some (gI x1), some (gI (if x6 ≤ x2 then x2 else x6)), some (gI x3), some (gI x4), some (gI x5), some (gI x6), some (gI x7), some (gI x8), some (gI x9)]) 214 d_X12_farthest_213 rfl rfl rfl rfl ?_
      exact (h.2 c39)
    refine gw_icmp_le 212 207 d_X12_farthest_204 rfl rfl (fun c41 => ?_) (fun c41 => ?_)
    · skip
      refine gw_iload_n 213 d_X12_farthest_212 rfl rfl ?_
      simpa only [if_pos c41] using j40
    · skip
      refine gw_iload 209 d_X12_farthest_207 rfl rfl ?_
      refine gw_goto 213 d_X12_farthest_209 rfl ?_
      simpa only [if_neg c41] using j40
set_option maxRecDepth 100000 in
set_option maxHeartbeats 4000000 in
theorem r_X12_farthest_214 {d : Nat} {QR : Option gw_SV → gw_Mem → Prop} {Γ : gw_Ga} (x1 : Int) (x2 : Int) (x3 : Int) (x4 : Int) (x5 : Int) (x6 : Int) (y7 : Option gw_SV) (y8 : Option gw_SV) (y9 : Option gw_SV) (m : gw_Mem) (h : gw_G M_X12_farthest d QR Γ 17 [some (gR 117), some (gI x1), some (gI x2), some (gI (gw_w (x3 + 1))), some (gI x4), some (gI x5), some (gI x6), y7, y8, y9] [] m) : gw_G M_X12_farthest d QR Γ 214 [some (gR 117), some (gI x1), some (gI x2), some (gI x3), some (gI x4), some (gI x5), some (gI x6), y7, y8, y9] [] m := by
  refine gw_iinc (ls' := [some (gR 117), some (gI x1), some (gI x2), some (gI (gw_w (x3 + 1))), some (gI x4), some (gI x5), some (gI x6), y7, y8, y9]) 217 d_X12_farthest_214 rfl rfl rfl rfl rfl ?_
  refine gw_goto 17 d_X12_farthest_217 rfl ?_
  exact h
set_option maxRecDepth 100000 in
set_option maxHeartbeats 4000000 in
theorem r_X12_stand_0 {d : Nat} {QR : Option gw_SV → gw_Mem → Prop} {Γ : gw_Ga} (x1 : Int) (m : gw_Mem) (h : gw_CI d M_X12_in [gL x1, gL 0, gL 2] m (fun v1 m2 => ((v1 = 0 → QR (some (gI (-1))) m2) ∧ (¬ (v1 = 0) → gw_G M_X12_stand d QR Γ 26 [some (gR 117), some (gI x1), some (gI 0), some (gI (-4)), some (gI (-4)), some (gI 0), none, none] [] m2)))) : gw_G M_X12_stand d QR Γ 0 [some (gR 117), some (gI x1), none, none, none, none, none, none] [] m := by
  refine gw_iload_n 1 d_X12_stand_0 rfl rfl ?_
  refine gw_i2lR 2 d_X12_stand_1 rfl  ?_
  refine gw_lconst 3 d_X12_stand_2 rfl (n := 0) rfl (by decide) ?_
  refine gw_ldc2 6 d_X12_stand_3 rfl ct_12_92 (n := 2) (gw_rb_inL (gw_rb_in rfl)) (by decide) ?_
  refine gw_cSI (a := [gL x1, gL 0, gL 2]) (rest := []) 9 d_X12_stand_6 rfl ml_12_98 v_X12_in rfl rfl rfl h (fun v1 m2 h3 => ?_)
  refine gw_if_ne 14 12 d_X12_stand_9 rfl rfl (fun c7 => ?_) (fun c7 => ?_)
  · skip
    refine gw_iconst 13 d_X12_stand_12 rfl rfl ?_
    exact gw_ireturn d_X12_stand_13 (Or.inl rfl) (h3.1 c7)
  · skip
    refine gw_iconst 15 d_X12_stand_14 rfl rfl ?_
    refine gw_istore_n (ls' := [some (gR 117), some (gI x1), some (gI 0), none, none, none, none, none]) 16 d_X12_stand_15 rfl rfl rfl rfl ?_
    refine gw_bipush 18 d_X12_stand_16 rfl rfl (by decide) ?_
    refine gw_istore_n (ls' := [some (gR 117), some (gI x1), some (gI 0), some (gI (-4)), none, none, none, none]) 19 d_X12_stand_18 rfl rfl rfl rfl ?_
    refine gw_bipush 21 d_X12_stand_19 rfl rfl (by decide) ?_
    refine gw_istore (ls' := [some (gR 117), some (gI x1), some (gI 0), some (gI (-4)), some (gI (-4)), none, none, none]) 23 d_X12_stand_21 rfl rfl rfl rfl ?_
    refine gw_iconst 24 d_X12_stand_23 rfl rfl ?_
    refine gw_istore (ls' := [some (gR 117), some (gI x1), some (gI 0), some (gI (-4)), some (gI (-4)), some (gI 0), none, none]) 26 d_X12_stand_24 rfl rfl rfl rfl ?_
    exact (h3.2 c7)
set_option maxRecDepth 100000 in
set_option maxHeartbeats 4000000 in
theorem r_X12_stand_26 {d : Nat} {QR : Option gw_SV → gw_Mem → Prop} {Γ : gw_Ga} (x1 : Int) (x2 : Int) (x3 : Int) (x4 : Int) (x5 : Int) (y6 : Option gw_SV) (y7 : Option gw_SV) (m : gw_Mem) (h : ((144 ≤ x5 → QR (some (gI (if x1 = 0 then x2 else (if x1 = 1 then x3 else x4)))) m) ∧ (¬ (144 ≤ x5) → gw_CI d M_X12_farthest [gR 117, gI x5] m (fun v4 m5 => gw_G M_X12_stand d QR Γ 26 [some (gR 117), some (gI x1), some (gI (gw_w (x2 + (if v4 < 0 then (0 : Int) else (1 : Int))))), some (gI (if (if v4 < 0 then (0 : Int) else (if x3 < 0 then (1 : Int) else (if x4 ≤ v4 then (0 : Int) else (1 : Int)))) = 0 then x3 else x5)), some (gI (if (if v4 < 0 then (0 : Int) else (if x3 < 0 then (1 : Int) else (if x4 ≤ v4 then (0 : Int) else (1 : Int)))) = 0 then x4 else v4)), some (gI (gw_w (x5 + 1))), some (gI v4), some (gI (if v4 < 0 then (0 : Int) else (if x3 < 0 then (1 : Int) else (if x4 ≤ v4 then (0 : Int) else (1 : Int)))))] [] m5)))) : gw_G M_X12_stand d QR Γ 26 [some (gR 117), some (gI x1), some (gI x2), some (gI x3), some (gI x4), some (gI x5), y6, y7] [] m := by
  refine gw_iload 28 d_X12_stand_26 rfl rfl ?_
  refine gw_sipush 31 d_X12_stand_28 rfl rfl (by decide) ?_
  refine gw_icmp_ge 110 34 d_X12_stand_31 rfl rfl (fun c8 => ?_) (fun c8 => ?_)
  · skip
    refine gw_iload_n 111 d_X12_stand_110 rfl rfl ?_
    have j9 : gw_G M_X12_stand d QR Γ 129 [some (gR 117), some (gI x1), some (gI x2), some (gI x3), some (gI x4), some (gI x5), y6, y7] [gI (if x1 = 0 then x2 else (if x1 = 1 then x3 else x4))] m := by
      exact gw_ireturn d_X12_stand_129 (Or.inl rfl) (h.1 c8)
    refine gw_if_ne 118 114 d_X12_stand_111 rfl rfl (fun c10 => ?_) (fun c10 => ?_)
    · skip
      refine gw_iload_n 115 d_X12_stand_114 rfl rfl ?_
      refine gw_goto 129 d_X12_stand_115 rfl ?_
      simpa only [if_pos c10] using j9
    · skip
      refine gw_iload_n 119 d_X12_stand_118 rfl rfl ?_
      refine gw_iconst 120 d_X12_stand_119 rfl rfl ?_
      refine gw_icmp_ne 127 123 d_X12_stand_120 rfl rfl (fun c11 => ?_) (fun c11 => ?_)
      · skip
        refine gw_iload_n 124 d_X12_stand_123 rfl rfl ?_
        refine gw_goto 129 d_X12_stand_124 rfl ?_
        simpa only [if_neg c10, if_pos c11] using j9
      · skip
        refine gw_iload 129 d_X12_stand_127 rfl rfl ?_
        simpa only [if_neg c10, if_neg c11] using j9
  · skip
    refine gw_aload_n 35 d_X12_stand_34 rfl rfl ?_
    refine gw_iload 37 d_X12_stand_35 rfl rfl ?_
    refine gw_cVI (a := [gI x5]) (rest := []) 40 d_X12_stand_37 rfl ml_12_297 v_X12_farthest rfl sh_117 rfl rfl rfl (h.2 c8) (fun v4 m5 h6 => ?_)
    refine gw_istore (ls' := [some (gR 117), some (gI x1), some (gI x2), some (gI x3), some (gI x4), some (gI x5), some (gI v4), y7]) 42 d_X12_stand_40 rfl rfl rfl rfl ?_
    refine gw_iload_n 43 d_X12_stand_42 rfl rfl ?_
    refine gw_iload 45 d_X12_stand_43 rfl rfl ?_
    have j12 : gw_G M_X12_stand d QR Γ 53 [some (gR 117), some (gI x1), some (gI x2), some (gI x3), some (gI x4), some (gI x5), some (gI v4), y7] [gI (if v4 < 0 then (0 : Int) else (1 : Int)), gI x2] m5 := by
      refine gw_iadd 54 d_X12_stand_53 rfl  ?_
      refine gw_istore_n (ls' := [some (gR 117), some (gI x1), some (gI (gw_w (x2 + (if v4 < 0 then (0 : Int) else (1 : Int))))), some (gI x3), some (gI x4), some (gI x5), some (gI v4), y7]) 55 d_X12_stand_54 rfl rfl rfl rfl ?_
      refine gw_iload 57 d_X12_stand_55 rfl rfl ?_
      have j14 : gw_G M_X12_stand d QR Γ 76 [some (gR 117), some (gI x1), some (gI (gw_w (x2 + (if v4 < 0 then (0 : Int) else (1 : Int))))), some (gI x3), some (gI x4), some (gI x5), some (gI v4), y7] [gI (if v4 < 0 then (0 : Int) else (if x3 < 0 then (1 : Int) else (if x4 ≤ v4 then (0 : Int) else (1 : Int))))] m5 := by
        refine gw_istore (ls' := [some (gR 117), some (gI x1), some (gI (gw_w (x2 + (if v4 < 0 then (0 : Int) else (1 : Int))))), some (gI x3), some (gI x4), some (gI x5), some (gI v4), some (gI (if v4 < 0 then (0 : Int) else (if x3 < 0 then (1 : Int) else (if x4 ≤ v4 then (0 : Int) else (1 : Int)))))]) 78 d_X12_stand_76 rfl rfl rfl rfl ?_
        refine gw_iload 80 d_X12_stand_78 rfl rfl ?_
        have j16 : gw_G M_X12_stand d QR Γ 89 [some (gR 117), some (gI x1), some (gI (gw_w (x2 + (if v4 < 0 then (0 : Int) else (1 : Int))))), some (gI x3), some (gI x4), some (gI x5), some (gI v4), some (gI (if v4 < 0 then (0 : Int) else (if x3 < 0 then (1 : Int) else (if x4 ≤ v4 then (0 : Int) else (1 : Int)))))] [gI (if (if v4 < 0 then (0 : Int) else (if x3 < 0 then (1 : Int) else (if x4 ≤ v4 then (0 : Int) else (1 : Int)))) = 0 then x3 else x5)] m5 := by
          refine gw_istore_n (ls' := [some (gR 117), some (gI x1), some (gI (gw_w (x2 + (if v4 < 0 then (0 : Int) else (1 : Int))))), some (gI (if (if v4 < 0 then (0 : Int) else (if x3 < 0 then (1 : Int) else (if x4 ≤ v4 then (0 : Int) else (1 : Int)))) = 0 then x3 else x5)), some (gI x4), some (gI x5), some (gI v4), some (gI (if v4 < 0 then (0 : Int) else (if x3 < 0 then (1 : Int) else (if x4 ≤ v4 then (0 : Int) else (1 : Int)))))]) 90 d_X12_stand_89 rfl rfl rfl rfl ?_
          refine gw_iload 92 d_X12_stand_90 rfl rfl ?_
          have j18 : gw_G M_X12_stand d QR Γ 102 [some (gR 117), some (gI x1), some (gI (gw_w (x2 + (if v4 < 0 then (0 : Int) else (1 : Int))))), some (gI (if (if v4 < 0 then (0 : Int) else (if x3 < 0 then (1 : Int) else (if x4 ≤ v4 then (0 : Int) else (1 : Int)))) = 0 then x3 else x5)), some (gI x4), some (gI x5), some (gI v4), some (gI (if v4 < 0 then (0 : Int) else (if x3 < 0 then (1 : Int) else (if x4 ≤ v4 then (0 : Int) else (1 : Int)))))] [gI (if (if v4 < 0 then (0 : Int) else (if x3 < 0 then (1 : Int) else (if x4 ≤ v4 then (0 : Int) else (1 : Int)))) = 0 then x4 else v4)] m5 := by
            refine gw_istore (ls' := [some (gR 117), some (gI x1), some (gI (gw_w (x2 + (if v4 < 0 then (0 : Int) else (1 : Int))))), some (gI (if (if v4 < 0 then (0 : Int) else (if x3 < 0 then (1 : Int) else (if x4 ≤ v4 then (0 : Int) else (1 : Int)))) = 0 then x3 else x5)), some (gI (if (if v4 < 0 then (0 : Int) else (if x3 < 0 then (1 : Int) else (if x4 ≤ v4 then (0 : Int) else (1 : Int)))) = 0 then x4 else v4)), some (gI x5), some (gI v4), some (gI (if v4 < 0 then (0 : Int) else (if x3 < 0 then (1 : Int) else (if x4 ≤ v4 then (0 : Int) else (1 : Int)))))]) 104 d_X12_stand_102 rfl rfl rfl rfl ?_
            refine gw_iinc (ls' := [some (gR 117), some (gI x1), some (gI (gw_w (x2 + (if v4 < 0 then (0 : Int) else (1 : Int))))), some (gI (if (if v4 < 0 then (0 : Int) else (if x3 < 0 then (1 : Int) else (if x4 ≤ v4 then (0 : Int) else (1 : Int)))) = 0 then x3 else x5)), some (gI (if (if v4 < 0 then (0 : Int) else (if x3 < 0 then (1 : Int) else (if x4 ≤ v4 then (0 : Int) else (1 : Int)))) = 0 then x4 else v4)), some (gI (gw_w (x5 + 1))), some (gI v4), some (gI (if v4 < 0 then (0 : Int) else (if x3 < 0 then (1 : Int) else (if x4 ≤ v4 then (0 : Int) else (1 : Int)))))]) 107 d_X12_stand_104 rfl rfl rfl rfl rfl ?_
            refine gw_goto 26 d_X12_stand_107 rfl ?_
            exact h6
          refine gw_if_eq 100 95 d_X12_stand_92 rfl rfl (fun c19 => ?_) (fun c19 => ?_)
          · skip
            refine gw_iload 102 d_X12_stand_100 rfl rfl ?_
            simpa only [if_pos c19] using j18
          · skip
            refine gw_iload 97 d_X12_stand_95 rfl rfl ?_
            refine gw_goto 102 d_X12_stand_97 rfl ?_
            simpa only [if_neg c19] using j18
        refine gw_if_eq 88 83 d_X12_stand_80 rfl rfl (fun c17 => ?_) (fun c17 => ?_)
        · skip
          refine gw_iload_n 89 d_X12_stand_88 rfl rfl ?_
          simpa only [if_pos c17] using j16
        · skip
          refine gw_iload 85 d_X12_stand_83 rfl rfl ?_
          refine gw_goto 89 d_X12_stand_85 rfl ?_
          simpa only [if_neg c17] using j16
      refine gw_if_lt 75 60 d_X12_stand_57 rfl rfl (fun c15 => ?_) (fun c15 => ?_)
      · skip
        refine gw_iconst 76 d_X12_stand_75 rfl rfl ?_
        simpa only [if_pos c15] using j14
      · skip
        refine gw_iload_n 61 d_X12_stand_60 rfl rfl ?_
        refine gw_if_lt 71 64 d_X12_stand_61 rfl rfl (fun c20 => ?_) (fun c20 => ?_)
        · skip
          refine gw_iconst 72 d_X12_stand_71 rfl rfl ?_
          refine gw_goto 76 d_X12_stand_72 rfl ?_
          simpa only [if_neg c15, if_pos c20] using j14
        · skip
          refine gw_iload 66 d_X12_stand_64 rfl rfl ?_
          refine gw_iload 68 d_X12_stand_66 rfl rfl ?_
          refine gw_icmp_ge 75 71 d_X12_stand_68 rfl rfl (fun c21 => ?_) (fun c21 => ?_)
          · skip
            refine gw_iconst 76 d_X12_stand_75 rfl rfl ?_
            simpa only [if_neg c15, if_neg c20, if_pos c21] using j14
          · skip
            refine gw_iconst 72 d_X12_stand_71 rfl rfl ?_
            refine gw_goto 76 d_X12_stand_72 rfl ?_
            simpa only [if_neg c15, if_neg c20, if_neg c21] using j14
    refine gw_if_lt 52 48 d_X12_stand_45 rfl rfl (fun c13 => ?_) (fun c13 => ?_)
    · skip
      refine gw_iconst 53 d_X12_stand_52 rfl rfl ?_
      simpa only [if_pos c13] using j12
    · skip
      refine gw_iconst 49 d_X12_stand_48 rfl rfl ?_
      refine gw_goto 53 d_X12_stand_49 rfl ?_
      simpa only [if_neg c13] using j12
set_option maxRecDepth 100000 in
set_option maxHeartbeats 4000000 in
theorem r_X12_meet_0 {d : Nat} {QR : Option gw_SV → gw_Mem → Prop} {Γ : gw_Ga} (x0 : Int) (x1 : Int) (x2 : Int) (x3 : Int) (m : gw_Mem) (h : gw_G M_X12_meet d QR Γ 6 [some (gI x0), some (gI x1), some (gI x2), some (gI x3), some (gI 0), some (gI 0)] [] m) : gw_G M_X12_meet d QR Γ 0 [some (gI x0), some (gI x1), some (gI x2), some (gI x3), none, none] [] m := by
  refine gw_iconst 1 d_X12_meet_0 rfl rfl ?_
  refine gw_istore (ls' := [some (gI x0), some (gI x1), some (gI x2), some (gI x3), some (gI 0), none]) 3 d_X12_meet_1 rfl rfl rfl rfl ?_
  refine gw_iconst 4 d_X12_meet_3 rfl rfl ?_
  refine gw_istore (ls' := [some (gI x0), some (gI x1), some (gI x2), some (gI x3), some (gI 0), some (gI 0)]) 6 d_X12_meet_4 rfl rfl rfl rfl ?_
  exact h
set_option maxRecDepth 100000 in
set_option maxHeartbeats 4000000 in
theorem r_X12_meet_6 {d : Nat} {QR : Option gw_SV → gw_Mem → Prop} {Γ : gw_Ga} (x0 : Int) (x1 : Int) (x2 : Int) (x3 : Int) (x4 : Int) (x5 : Int) (m : gw_Mem) (h : ((x2 ≤ x5 → QR (some (gI (if gw_and (gw_shr x1 (gw_w ((gw_w ((gw_w (x4 + x3)) - x2)) - 1))) 1 = 1 then (1 : Int) else (0 : Int)))) m) ∧ (¬ (x2 ≤ x5) → gw_G M_X12_meet d QR Γ 6 [some (gI x0), some (gI x1), some (gI x2), some (gI x3), some (gI (gw_w (x4 + (gw_w ((gw_w (x0 - 1)) - x5))))), some (gI (gw_w (x5 + 1)))] [] m))) : gw_G M_X12_meet d QR Γ 6 [some (gI x0), some (gI x1), some (gI x2), some (gI x3), some (gI x4), some (gI x5)] [] m := by
  refine gw_iload 8 d_X12_meet_6 rfl rfl ?_
  refine gw_iload_n 9 d_X12_meet_8 rfl rfl ?_
  refine gw_icmp_ge 29 12 d_X12_meet_9 rfl rfl (fun c1 => ?_) (fun c1 => ?_)
  · skip
    refine gw_iload_n 30 d_X12_meet_29 rfl rfl ?_
    refine gw_iload 32 d_X12_meet_30 rfl rfl ?_
    refine gw_iload_n 33 d_X12_meet_32 rfl rfl ?_
    refine gw_iadd 34 d_X12_meet_33 rfl  ?_
    refine gw_iload_n 35 d_X12_meet_34 rfl rfl ?_
    refine gw_isub 36 d_X12_meet_35 rfl  ?_
    refine gw_iconst 37 d_X12_meet_36 rfl rfl ?_
    refine gw_isub 38 d_X12_meet_37 rfl  ?_
    refine gw_ishr 39 d_X12_meet_38 rfl  ?_
    refine gw_iconst 40 d_X12_meet_39 rfl rfl ?_
    refine gw_iand 41 d_X12_meet_40 rfl  ?_
    refine gw_iconst 42 d_X12_meet_41 rfl rfl ?_
    have j2 : gw_G M_X12_meet d QR Γ 50 [some (gI x0), some (gI x1), some (gI x2), some (gI x3), some (gI x4), some (gI x5)] [gI (if gw_and (gw_shr x1 (gw_w ((gw_w ((gw_w (x4 + x3)) - x2)) - 1))) 1 = 1 then (1 : Int) else (0 : Int))] m := by
      exact gw_ireturn d_X12_meet_50 (Or.inr ⟨rfl, (gw_bi gw_b1 gw_b0)⟩) (h.1 c1)
    refine gw_icmp_ne 49 45 d_X12_meet_42 rfl rfl (fun c3 => ?_) (fun c3 => ?_)
    · skip
      refine gw_iconst 46 d_X12_meet_45 rfl rfl ?_
      refine gw_goto 50 d_X12_meet_46 rfl ?_
      simpa only [if_pos c3] using j2
    · skip
      refine gw_iconst 50 d_X12_meet_49 rfl rfl ?_
      simpa only [if_neg c3] using j2
  · skip
    refine gw_iload 14 d_X12_meet_12 rfl rfl ?_
    refine gw_iload_n 15 d_X12_meet_14 rfl rfl ?_
    refine gw_iconst 16 d_X12_meet_15 rfl rfl ?_
    refine gw_isub 17 d_X12_meet_16 rfl  ?_
    refine gw_iload 19 d_X12_meet_17 rfl rfl ?_
    refine gw_isub 20 d_X12_meet_19 rfl  ?_
    refine gw_iadd 21 d_X12_meet_20 rfl  ?_
    refine gw_istore (ls' := [some (gI x0), some (gI x1), some (gI x2), some (gI x3), some (gI (gw_w (x4 + (gw_w ((gw_w (x0 - 1)) - x5))))), some (gI x5)]) 23 d_X12_meet_21 rfl rfl rfl rfl ?_
    refine gw_iinc (ls' := [some (gI x0), some (gI x1), some (gI x2), some (gI x3), some (gI (gw_w (x4 + (gw_w ((gw_w (x0 - 1)) - x5))))), some (gI (gw_w (x5 + 1)))]) 26 d_X12_meet_23 rfl rfl rfl rfl rfl ?_
    refine gw_goto 6 d_X12_meet_26 rfl ?_
    exact (h.2 c1)
set_option maxRecDepth 100000 in
set_option maxHeartbeats 4000000 in
theorem r_X12_paints_0 {d : Nat} {QR : Option gw_SV → gw_Mem → Prop} {Γ : gw_Ga} (x1 : Int) (x2 : Int) (x3 : Int) (m : gw_Mem) (h : gw_G M_X12_paints d QR Γ 10 [some (gR 117), some (gI x1), some (gI x2), some (gI x3), some (gI 0), none, none] [] (gw_up m 136 0 (-1))) : gw_G M_X12_paints d QR Γ 0 [some (gR 117), some (gI x1), some (gI x2), some (gI x3), none, none, none] [] m := by
  refine gw_iconst 1 d_X12_paints_0 rfl rfl ?_
  refine gw_istore (ls' := [some (gR 117), some (gI x1), some (gI x2), some (gI x3), some (gI 0), none, none]) 3 d_X12_paints_1 rfl rfl rfl rfl ?_
  refine gw_aload_n 4 d_X12_paints_3 rfl rfl ?_
  refine gw_getR 7 d_X12_paints_4 rfl F_12_64 sh_117 rfl ?_
  refine gw_iconst 8 d_X12_paints_7 rfl rfl ?_
  refine gw_iconst 9 d_X12_paints_8 rfl rfl ?_
  refine gw_iastore 10 d_X12_paints_9 rfl sh_136 (gw_inN (k := 0) rfl) ?_
  exact h
set_option maxRecDepth 100000 in
set_option maxHeartbeats 4000000 in
theorem r_X12_paints_10 {d : Nat} {QR : Option gw_SV → gw_Mem → Prop} {Γ : gw_Ga} (x1 : Int) (x2 : Int) (x3 : Int) (x4 : Int) (y5 : Option gw_SV) (y6 : Option gw_SV) (m : gw_Mem) (h : ((x4 < 0 → gw_G M_X12_paints d QR Γ 149 [some (gR 117), some (gI x1), some (gI x2), some (gI x3), some (gI x4), y5, y6] [] m) ∧ (¬ (x4 < 0) → ((x1 ≤ x4 → gw_G M_X12_paints d QR Γ 149 [some (gR 117), some (gI x1), some (gI x2), some (gI x3), some (gI x4), y5, y6] [] m) ∧ (¬ (x1 ≤ x4) → gw_in x4 8 ∧ gw_in x4 8 ∧ gw_in x4 8 ∧ gw_G M_X12_paints d QR Γ 53 [some (gR 117), some (gI x1), some (gI x2), some (gI x3), some (gI x4), some (gI (if x3 ≤ (gw_up m 136 x4 (gw_w ((m 136 x4) + 1))) 136 x4 then (0 : Int) else (1 : Int))), some (gI 0)] [] (gw_up m 136 x4 (gw_w ((m 136 x4) + 1)))))))) : gw_G M_X12_paints d QR Γ 10 [some (gR 117), some (gI x1), some (gI x2), some (gI x3), some (gI x4), y5, y6] [] m := by
  refine gw_iload 12 d_X12_paints_10 rfl rfl ?_
  refine gw_if_lt 149 15 d_X12_paints_12 rfl rfl (fun c4 => ?_) (fun c4 => ?_)
  · skip
    exact (h.1 c4)
  · skip
    refine gw_iload 17 d_X12_paints_15 rfl rfl ?_
    refine gw_iload_n 18 d_X12_paints_17 rfl rfl ?_
    refine gw_icmp_ge 149 21 d_X12_paints_18 rfl rfl (fun c5 => ?_) (fun c5 => ?_)
    · skip
      exact ((h.2 c4).1 c5)
    · skip
      refine gw_aload_n 22 d_X12_paints_21 rfl rfl ?_
      refine gw_getR 25 d_X12_paints_22 rfl F_12_64 sh_117 rfl ?_
      refine gw_iload 27 d_X12_paints_25 rfl rfl ?_
      refine gw_dup2 28 d_X12_paints_27 rfl rfl rfl ?_
      refine gw_iaload 29 d_X12_paints_28 rfl sh_136 ((h.2 c4).2 c5).1 ?_
      refine gw_iconst 30 d_X12_paints_29 rfl rfl ?_
      refine gw_iadd 31 d_X12_paints_30 rfl  ?_
      refine gw_iastore 32 d_X12_paints_31 rfl sh_136 ((h.2 c4).2 c5).2.1 ?_
      refine gw_aload_n 33 d_X12_paints_32 rfl rfl ?_
      refine gw_getR 36 d_X12_paints_33 rfl F_12_64 sh_117 rfl ?_
      refine gw_iload 38 d_X12_paints_36 rfl rfl ?_
      refine gw_iaload 39 d_X12_paints_38 rfl sh_136 ((h.2 c4).2 c5).2.2.1 ?_
      refine gw_iload_n 40 d_X12_paints_39 rfl rfl ?_
      have j6 : gw_G M_X12_paints d QR Γ 48 [some (gR 117), some (gI x1), some (gI x2), some (gI x3), some (gI x4), y5, y6] [gI (if x3 ≤ (gw_up m 136 x4 (gw_w ((m 136 x4) + 1))) 136 x4 then (0 : Int) else (1 : Int))] (gw_up m 136 x4 (gw_w ((m 136 x4) + 1))) := by
        refine gw_istore (ls' := [some (gR 117), some (gI x1), some (gI x2), some (gI x3), some (gI x4), some (gI (if x3 ≤ (gw_up m 136 x4 (gw_w ((m 136 x4) + 1))) 136 x4 then (0 : Int) else (1 : Int))), y6]) 50 d_X12_paints_48 rfl rfl rfl rfl ?_
        refine gw_iconst 51 d_X12_paints_50 rfl rfl ?_
        refine gw_istore (ls' := [some (gR 117), some (gI x1), some (gI x2), some (gI x3), some (gI x4), some (gI (if x3 ≤ (gw_up m 136 x4 (gw_w ((m 136 x4) + 1))) 136 x4 then (0 : Int) else (1 : Int))), some (gI 0)]) 53 d_X12_paints_51 rfl rfl rfl rfl ?_
        exact ((h.2 c4).2 c5).2.2.2
      refine gw_icmp_ge 47 43 d_X12_paints_40 rfl rfl (fun c7 => ?_) (fun c7 => ?_)
      · skip
        refine gw_iconst 48 d_X12_paints_47 rfl rfl ?_
        simpa only [if_pos c7] using j6
      · skip
        refine gw_iconst 44 d_X12_paints_43 rfl rfl ?_
        refine gw_goto 48 d_X12_paints_44 rfl ?_
        simpa only [if_neg c7] using j6
set_option maxRecDepth 100000 in
set_option maxHeartbeats 4000000 in
theorem r_X12_paints_53 {d : Nat} {QR : Option gw_SV → gw_Mem → Prop} {Γ : gw_Ga} (x1 : Int) (x2 : Int) (x3 : Int) (x4 : Int) (x5 : Int) (x6 : Int) (m : gw_Mem) (h : ((x4 ≤ x6 → gw_G M_X12_paints d QR Γ 107 [some (gR 117), some (gI x1), some (gI x2), some (gI x3), some (gI x4), some (gI x5), some (gI x6)] [] m) ∧ (¬ (x4 ≤ x6) → ((x5 = 0 → gw_G M_X12_paints d QR Γ 107 [some (gR 117), some (gI x1), some (gI x2), some (gI x3), some (gI x4), some (gI x5), some (gI x6)] [] m) ∧ (¬ (x5 = 0) → gw_CI d M_X12_meet [gI x1, gI x2, gI x6, gI x4] m (fun v1 m2 => (¬ (v1 = 0) → gw_in x6 8 ∧ gw_in x4 8) ∧ gw_G M_X12_paints d QR Γ 53 [some (gR 117), some (gI x1), some (gI x2), some (gI x3), some (gI x4), some (gI (if v1 = 0 then (1 : Int) else (if m2 136 x6 = m2 136 x4 then (0 : Int) else (1 : Int)))), some (gI (gw_w (x6 + 1)))] [] m2)))))) : gw_G M_X12_paints d QR Γ 53 [some (gR 117), some (gI x1), some (gI x2), some (gI x3), some (gI x4), some (gI x5), some (gI x6)] [] m := by
  refine gw_iload 55 d_X12_paints_53 rfl rfl ?_
  refine gw_iload 57 d_X12_paints_55 rfl rfl ?_
  refine gw_icmp_ge 107 60 d_X12_paints_57 rfl rfl (fun c8 => ?_) (fun c8 => ?_)
  · skip
    exact (h.1 c8)
  · skip
    refine gw_iload 62 d_X12_paints_60 rfl rfl ?_
    refine gw_if_eq 107 65 d_X12_paints_62 rfl rfl (fun c9 => ?_) (fun c9 => ?_)
    · skip
      exact ((h.2 c8).1 c9)
    · skip
      refine gw_iload_n 66 d_X12_paints_65 rfl rfl ?_
      refine gw_iload_n 67 d_X12_paints_66 rfl rfl ?_
      refine gw_iload 69 d_X12_paints_67 rfl rfl ?_
      refine gw_iload 71 d_X12_paints_69 rfl rfl ?_
      refine gw_cSI (a := [gI x1, gI x2, gI x6, gI x4]) (rest := []) 74 d_X12_paints_71 rfl ml_12_300 v_X12_meet rfl rfl rfl ((h.2 c8).2 c9) (fun v1 m2 h3 => ?_)
      have j10 : gw_G M_X12_paints d QR Γ 99 [some (gR 117), some (gI x1), some (gI x2), some (gI x3), some (gI x4), some (gI x5), some (gI x6)] [gI (if v1 = 0 then (1 : Int) else (if m2 136 x6 = m2 136 x4 then (0 : Int) else (1 : Int)))] m2 := by
        refine gw_istore (ls' := [some (gR 117), some (gI x1), some (gI x2), some (gI x3), some (gI x4), some (gI (if v1 = 0 then (1 : Int) else (if m2 136 x6 = m2 136 x4 then (0 : Int) else (1 : Int)))), some (gI x6)]) 101 d_X12_paints_99 rfl rfl rfl rfl ?_
        refine gw_iinc (ls' := [some (gR 117), some (gI x1), some (gI x2), some (gI x3), some (gI x4), some (gI (if v1 = 0 then (1 : Int) else (if m2 136 x6 = m2 136 x4 then (0 : Int) else (1 : Int)))), some (gI (gw_w (x6 + 1)))]) 104 d_X12_paints_101 rfl rfl rfl rfl rfl ?_
        refine gw_goto 53 d_X12_paints_104 rfl ?_
        exact h3.2
      refine gw_if_eq 94 77 d_X12_paints_74 rfl rfl (fun c11 => ?_) (fun c11 => ?_)
      · skip
        refine gw_iconst 95 d_X12_paints_94 rfl rfl ?_
        refine gw_goto 99 d_X12_paints_95 rfl ?_
        simpa only [if_pos c11] using j10
      · skip
        refine gw_aload_n 78 d_X12_paints_77 rfl rfl ?_
        refine gw_getR 81 d_X12_paints_78 rfl F_12_64 sh_117 rfl ?_
        refine gw_iload 83 d_X12_paints_81 rfl rfl ?_
        refine gw_iaload 84 d_X12_paints_83 rfl sh_136 (h3.1 c11).1 ?_
        refine gw_aload_n 85 d_X12_paints_84 rfl rfl ?_
        refine gw_getR 88 d_X12_paints_85 rfl F_12_64 sh_117 rfl ?_
        refine gw_iload 90 d_X12_paints_88 rfl rfl ?_
        refine gw_iaload 91 d_X12_paints_90 rfl sh_136 (h3.1 c11).2 ?_
        refine gw_icmp_eq 98 94 d_X12_paints_91 rfl rfl (fun c12 => ?_) (fun c12 => ?_)
        · skip
          refine gw_iconst 99 d_X12_paints_98 rfl rfl ?_
          simpa only [if_neg c11, if_pos c12] using j10
        · skip
          refine gw_iconst 95 d_X12_paints_94 rfl rfl ?_
          refine gw_goto 99 d_X12_paints_95 rfl ?_
          simpa only [if_neg c11, if_neg c12] using j10
set_option maxRecDepth 100000 in
set_option maxHeartbeats 4000000 in
theorem r_X12_paints_107 {d : Nat} {QR : Option gw_SV → gw_Mem → Prop} {Γ : gw_Ga} (x1 : Int) (x2 : Int) (x3 : Int) (x4 : Int) (x5 : Int) (x6 : Int) (m : gw_Mem) (h : ((x5 = 0 → gw_in x4 8 ∧ gw_G M_X12_paints d QR Γ 146 [some (gR 117), some (gI x1), some (gI x2), some (gI x3), some (gI (if m 136 x4 < x3 then x4 else gw_w (x4 + (-1)))), some (gI x5), some (gI x6)] [] m) ∧ (¬ (x5 = 0) → ((x1 ≤ gw_w (x4 + 1) → gw_G M_X12_paints d QR Γ 146 [some (gR 117), some (gI x1), some (gI x2), some (gI x3), some (gI (gw_w (x4 + 1))), some (gI x5), some (gI x6)] [] m) ∧ (¬ (x1 ≤ gw_w (x4 + 1)) → gw_in (gw_w (x4 + 1)) 8 ∧ gw_G M_X12_paints d QR Γ 146 [some (gR 117), some (gI x1), some (gI x2), some (gI x3), some (gI (gw_w (x4 + 1))), some (gI x5), some (gI x6)] [] (gw_up m 136 (gw_w (x4 + 1)) (-1))))))) : gw_G M_X12_paints d QR Γ 107 [some (gR 117), some (gI x1), some (gI x2), some (gI x3), some (gI x4), some (gI x5), some (gI x6)] [] m := by
  refine gw_iload 109 d_X12_paints_107 rfl rfl ?_
  refine gw_if_eq 132 112 d_X12_paints_109 rfl rfl (fun c13 => ?_) (fun c13 => ?_)
  · skip
    refine gw_aload_n 133 d_X12_paints_132 rfl rfl ?_
    refine gw_getR 136 d_X12_paints_133 rfl F_12_64 sh_117 rfl ?_
    refine gw_iload 138 d_X12_paints_136 rfl rfl ?_
    refine gw_iaload 139 d_X12_paints_138 rfl sh_136 (h.1 c13).1 ?_
    refine gw_iload_n 140 d_X12_paints_139 rfl rfl ?_
    have j14 : gw_G M_X12_paints d QR Γ 146 [some (gR 117), some (gI x1), some (gI x2), some (gI x3), some (gI (if m 136 x4 < x3 then x4 else gw_w (x4 + (-1)))), some (gI x5), some (gI x6)] [] m := by
      exact (h.1 c13).2
    refine gw_icmp_lt 146 143 d_X12_paints_140 rfl rfl (fun c15 => ?_) (fun c15 => ?_)
    · skip
      simpa only [if_pos c15] using j14
    · skip
      refine gw_iinc (ls' := [some (gR 117), some (gI x1), some (gI x2), some (gI x3), some (gI (gw_w (x4 + (-1)))), some (gI x5), some (gI x6)]) 146 d_X12_paints_143 rfl rfl rfl rfl rfl ?_
      simpa only [if_neg c15] using j14
  · skip
    refine gw_iinc (ls' := [some (gR 117), some (gI x1), some (gI x2), some (gI x3), some (gI (gw_w (x4 + 1))), some (gI x5), some (gI x6)]) 115 d_X12_paints_112 rfl rfl rfl rfl rfl ?_
    refine gw_iload 117 d_X12_paints_115 rfl rfl ?_
    refine gw_iload_n 118 d_X12_paints_117 rfl rfl ?_
    refine gw_icmp_ge 146 121 d_X12_paints_118 rfl rfl (fun c16 => ?_) (fun c16 => ?_)
    · skip
      exact ((h.2 c13).1 c16)
    · skip
      refine gw_aload_n 122 d_X12_paints_121 rfl rfl ?_
      refine gw_getR 125 d_X12_paints_122 rfl F_12_64 sh_117 rfl ?_
      refine gw_iload 127 d_X12_paints_125 rfl rfl ?_
      refine gw_iconst 128 d_X12_paints_127 rfl rfl ?_
      refine gw_iastore 129 d_X12_paints_128 rfl sh_136 ((h.2 c13).2 c16).1 ?_
      refine gw_goto 146 d_X12_paints_129 rfl ?_
      exact ((h.2 c13).2 c16).2
set_option maxRecDepth 100000 in
set_option maxHeartbeats 4000000 in
theorem r_X12_paints_146 {d : Nat} {QR : Option gw_SV → gw_Mem → Prop} {Γ : gw_Ga} (x1 : Int) (x2 : Int) (x3 : Int) (x4 : Int) (x5 : Int) (x6 : Int) (m : gw_Mem) (h : gw_G M_X12_paints d QR Γ 10 [some (gR 117), some (gI x1), some (gI x2), some (gI x3), some (gI x4), some (gI x5), some (gI x6)] [] m) : gw_G M_X12_paints d QR Γ 146 [some (gR 117), some (gI x1), some (gI x2), some (gI x3), some (gI x4), some (gI x5), some (gI x6)] [] m := by
  refine gw_goto 10 d_X12_paints_146 rfl ?_
  exact h
set_option maxRecDepth 100000 in
set_option maxHeartbeats 4000000 in
theorem r_X12_paints_149 {d : Nat} {QR : Option gw_SV → gw_Mem → Prop} {Γ : gw_Ga} (y0 : Option gw_SV) (x1 : Int) (x2 : Int) (x3 : Int) (x4 : Int) (y5 : Option gw_SV) (y6 : Option gw_SV) (m : gw_Mem) (h : QR (some (gI (if x4 = x1 then (1 : Int) else (0 : Int)))) m) : gw_G M_X12_paints d QR Γ 149 [y0, some (gI x1), some (gI x2), some (gI x3), some (gI x4), y5, y6] [] m := by
  refine gw_iload 151 d_X12_paints_149 rfl rfl ?_
  refine gw_iload_n 152 d_X12_paints_151 rfl rfl ?_
  have j17 : gw_G M_X12_paints d QR Γ 160 [y0, some (gI x1), some (gI x2), some (gI x3), some (gI x4), y5, y6] [gI (if x4 = x1 then (1 : Int) else (0 : Int))] m := by
    exact gw_ireturn d_X12_paints_160 (Or.inr ⟨rfl, (gw_bi gw_b1 gw_b0)⟩) h
  refine gw_icmp_ne 159 155 d_X12_paints_152 rfl rfl (fun c18 => ?_) (fun c18 => ?_)
  · skip
    refine gw_iconst 156 d_X12_paints_155 rfl rfl ?_
    refine gw_goto 160 d_X12_paints_156 rfl ?_
    simpa only [if_pos c18] using j17
  · skip
    refine gw_iconst 160 d_X12_paints_159 rfl rfl ?_
    simpa only [if_neg c18] using j17
set_option maxRecDepth 100000 in
set_option maxHeartbeats 4000000 in
theorem r_X12_colours_0 {d : Nat} {QR : Option gw_SV → gw_Mem → Prop} {Γ : gw_Ga} (x1 : Int) (x2 : Int) (x3 : Int) (m : gw_Mem) (h : gw_CI d M_X12_in [gL x1, gL 1, gL 8] m (fun v1 m2 => ((v1 = 0 → QR (some (gI (-1))) m2) ∧ (¬ (v1 = 0) → gw_CI d M_X12_in [gL x2, gL 0, gL (gw_w ((gw_shl 1 (gw_w ((gw_w (x1 * (gw_w (x1 - 1)))).tdiv 2))) - 1))] m2 (fun v4 m5 => ((v4 = 0 → QR (some (gI (-1))) m5) ∧ (¬ (v4 = 0) → gw_CI d M_X12_in [gL x3, gL (-1), gL (gw_w (x1 - 1))] m5 (fun v7 m8 => ((v7 = 0 → QR (some (gI (-1))) m8) ∧ (¬ (v7 = 0) → gw_G M_X12_colours d QR Γ 53 [some (gR 117), some (gI x1), some (gI x2), some (gI x3), some (gI 1)] [] m8)))))))))) : gw_G M_X12_colours d QR Γ 0 [some (gR 117), some (gI x1), some (gI x2), some (gI x3), none] [] m := by
  refine gw_iload_n 1 d_X12_colours_0 rfl rfl ?_
  refine gw_i2lR 2 d_X12_colours_1 rfl  ?_
  refine gw_lconst 3 d_X12_colours_2 rfl (n := 1) rfl (by decide) ?_
  refine gw_ldc2 6 d_X12_colours_3 rfl ct_12_143 (n := 8) (gw_rb_inL (gw_rb_in rfl)) (by decide) ?_
  refine gw_cSI (a := [gL x1, gL 1, gL 8]) (rest := []) 9 d_X12_colours_6 rfl ml_12_98 v_X12_in rfl rfl rfl h (fun v1 m2 h3 => ?_)
  refine gw_if_eq 48 12 d_X12_colours_9 rfl rfl (fun c13 => ?_) (fun c13 => ?_)
  · skip
    refine gw_iconst 49 d_X12_colours_48 rfl rfl ?_
    exact gw_ireturn d_X12_colours_49 (Or.inl rfl) (h3.1 c13)
  · skip
    refine gw_iload_n 13 d_X12_colours_12 rfl rfl ?_
    refine gw_i2lR 14 d_X12_colours_13 rfl  ?_
    refine gw_lconst 15 d_X12_colours_14 rfl (n := 0) rfl (by decide) ?_
    refine gw_iconst 16 d_X12_colours_15 rfl rfl ?_
    refine gw_iload_n 17 d_X12_colours_16 rfl rfl ?_
    refine gw_iload_n 18 d_X12_colours_17 rfl rfl ?_
    refine gw_iconst 19 d_X12_colours_18 rfl rfl ?_
    refine gw_isub 20 d_X12_colours_19 rfl  ?_
    refine gw_imul 21 d_X12_colours_20 rfl  ?_
    refine gw_iconst 22 d_X12_colours_21 rfl rfl ?_
    refine gw_idiv 23 d_X12_colours_22 rfl (by decide) ?_
    refine gw_ishl 24 d_X12_colours_23 rfl  ?_
    refine gw_iconst 25 d_X12_colours_24 rfl rfl ?_
    refine gw_isub 26 d_X12_colours_25 rfl  ?_
    refine gw_i2lR 27 d_X12_colours_26 rfl  ?_
    refine gw_cSI (a := [gL x2, gL 0, gL (gw_w ((gw_shl 1 (gw_w ((gw_w (x1 * (gw_w (x1 - 1)))).tdiv 2))) - 1))]) (rest := []) 30 d_X12_colours_27 rfl ml_12_98 v_X12_in rfl rfl rfl (h3.2 c13) (fun v4 m5 h6 => ?_)
    refine gw_if_eq 48 33 d_X12_colours_30 rfl rfl (fun c14 => ?_) (fun c14 => ?_)
    · skip
      refine gw_iconst 49 d_X12_colours_48 rfl rfl ?_
      exact gw_ireturn d_X12_colours_49 (Or.inl rfl) (h6.1 c14)
    · skip
      refine gw_iload_n 34 d_X12_colours_33 rfl rfl ?_
      refine gw_i2lR 35 d_X12_colours_34 rfl  ?_
      refine gw_ldc2 38 d_X12_colours_35 rfl ct_12_304 (n := (-1)) (gw_rb_inL (gw_rb_in rfl)) (by decide) ?_
      refine gw_iload_n 39 d_X12_colours_38 rfl rfl ?_
      refine gw_iconst 40 d_X12_colours_39 rfl rfl ?_
      refine gw_isub 41 d_X12_colours_40 rfl  ?_
      refine gw_i2lR 42 d_X12_colours_41 rfl  ?_
      refine gw_cSI (a := [gL x3, gL (-1), gL (gw_w (x1 - 1))]) (rest := []) 45 d_X12_colours_42 rfl ml_12_98 v_X12_in rfl rfl rfl (h6.2 c14) (fun v7 m8 h9 => ?_)
      refine gw_if_ne 50 48 d_X12_colours_45 rfl rfl (fun c15 => ?_) (fun c15 => ?_)
      · skip
        refine gw_iconst 49 d_X12_colours_48 rfl rfl ?_
        exact gw_ireturn d_X12_colours_49 (Or.inl rfl) (h9.1 c15)
      · skip
        refine gw_iconst 51 d_X12_colours_50 rfl rfl ?_
        refine gw_istore (ls' := [some (gR 117), some (gI x1), some (gI x2), some (gI x3), some (gI 1)]) 53 d_X12_colours_51 rfl rfl rfl rfl ?_
        exact (h9.2 c15)
set_option maxRecDepth 100000 in
set_option maxHeartbeats 4000000 in
theorem r_X12_colours_53 {d : Nat} {QR : Option gw_SV → gw_Mem → Prop} {Γ : gw_Ga} (x1 : Int) (x2 : Int) (x3 : Int) (x4 : Int) (m : gw_Mem) (h : gw_CI d M_X12_paints [gR 117, gI x1, gI x2, gI x4] m (fun v10 m11 => ((v10 = 0 → gw_G M_X12_colours d QR Γ 53 [some (gR 117), some (gI x1), some (gI x2), some (gI x3), some (gI (gw_w (x4 + 1)))] [] m11) ∧ (¬ (v10 = 0) → (0 ≤ x3 → gw_in x3 8) ∧ QR (some (gI (if 0 ≤ x3 then m11 136 x3 else x4))) m11)))) : gw_G M_X12_colours d QR Γ 53 [some (gR 117), some (gI x1), some (gI x2), some (gI x3), some (gI x4)] [] m := by
  refine gw_aload_n 54 d_X12_colours_53 rfl rfl ?_
  refine gw_iload_n 55 d_X12_colours_54 rfl rfl ?_
  refine gw_iload_n 56 d_X12_colours_55 rfl rfl ?_
  refine gw_iload 58 d_X12_colours_56 rfl rfl ?_
  refine gw_cVI (a := [gI x1, gI x2, gI x4]) (rest := []) 61 d_X12_colours_58 rfl ml_12_306 v_X12_paints rfl sh_117 rfl rfl rfl h (fun v10 m11 h12 => ?_)
  refine gw_if_ne 70 64 d_X12_colours_61 rfl rfl (fun c16 => ?_) (fun c16 => ?_)
  · skip
    refine gw_iinc (ls' := [some (gR 117), some (gI x1), some (gI x2), some (gI x3), some (gI (gw_w (x4 + 1)))]) 67 d_X12_colours_64 rfl rfl rfl rfl rfl ?_
    refine gw_goto 53 d_X12_colours_67 rfl ?_
    exact (h12.1 c16)
  · skip
    refine gw_iload_n 71 d_X12_colours_70 rfl rfl ?_
    have j17 : gw_G M_X12_colours d QR Γ 85 [some (gR 117), some (gI x1), some (gI x2), some (gI x3), some (gI x4)] [gI (if 0 ≤ x3 then m11 136 x3 else x4)] m11 := by
      exact gw_ireturn d_X12_colours_85 (Or.inl rfl) (h12.2 c16).2
    refine gw_if_ge 79 74 d_X12_colours_71 rfl rfl (fun c18 => ?_) (fun c18 => ?_)
    · skip
      refine gw_aload_n 80 d_X12_colours_79 rfl rfl ?_
      refine gw_getR 83 d_X12_colours_80 rfl F_12_64 sh_117 rfl ?_
      refine gw_iload_n 84 d_X12_colours_83 rfl rfl ?_
      refine gw_iaload 85 d_X12_colours_84 rfl sh_136 ((h12.2 c16).1 c18) ?_
      simpa only [if_pos c18] using j17
    · skip
      refine gw_iload 76 d_X12_colours_74 rfl rfl ?_
      refine gw_goto 85 d_X12_colours_76 rfl ?_
      simpa only [if_neg c18] using j17
set_option maxRecDepth 100000 in
set_option maxHeartbeats 4000000 in
theorem r_X12_lay_0 {d : Nat} {QR : Option gw_SV → gw_Mem → Prop} {Γ : gw_Ga} (b1 nb1 : Nat) (hsb1 : gw_SH[b1]? = some (1, nb1, [])) (hnb1 : gw_rb (nb1 : Int) = true) (x2 : Int) (m : gw_Mem) (h : gw_G M_X12_lay d QR Γ 2 [some (gR 117), some (gR b1), some (gI x2), some (gI 0)] [] m) : gw_G M_X12_lay d QR Γ 0 [some (gR 117), some (gR b1), some (gI x2), none] [] m := by
  refine gw_iconst 1 d_X12_lay_0 rfl rfl ?_
  refine gw_istore_n (ls' := [some (gR 117), some (gR b1), some (gI x2), some (gI 0)]) 2 d_X12_lay_1 rfl rfl rfl rfl ?_
  exact h
set_option maxRecDepth 100000 in
set_option maxHeartbeats 4000000 in
theorem r_X12_lay_2 {d : Nat} {QR : Option gw_SV → gw_Mem → Prop} {Γ : gw_Ga} (b1 nb1 : Nat) (hsb1 : gw_SH[b1]? = some (1, nb1, [])) (hnb1 : gw_rb (nb1 : Int) = true) (x2 : Int) (x3 : Int) (m : gw_Mem) (h : ((nb1 ≤ x3 → QR (some (gI (gw_w (x2 + nb1)))) m) ∧ (¬ (nb1 ≤ x3) → gw_in x3 nb1 ∧ gw_in (gw_w (x2 + x3)) 270 ∧ gw_G M_X12_lay d QR Γ 2 [some (gR 117), some (gR b1), some (gI x2), some (gI (gw_w (x3 + 1)))] [] (gw_up m 137 (gw_w (x2 + x3)) (m b1 x3))))) : gw_G M_X12_lay d QR Γ 2 [some (gR 117), some (gR b1), some (gI x2), some (gI x3)] [] m := by
  refine gw_iload_n 3 d_X12_lay_2 rfl rfl ?_
  refine gw_aload_n 4 d_X12_lay_3 rfl rfl ?_
  refine gw_alen 5 d_X12_lay_4 rfl hsb1 rfl (z := nb1) rfl hnb1 ?_
  refine gw_icmp_ge 25 8 d_X12_lay_5 rfl rfl (fun c1 => ?_) (fun c1 => ?_)
  · skip
    refine gw_iload_n 26 d_X12_lay_25 rfl rfl ?_
    refine gw_aload_n 27 d_X12_lay_26 rfl rfl ?_
    refine gw_alen 28 d_X12_lay_27 rfl hsb1 rfl (z := nb1) rfl hnb1 ?_
    refine gw_iadd 29 d_X12_lay_28 rfl  ?_
    exact gw_ireturn d_X12_lay_29 (Or.inl rfl) (h.1 c1)
  · skip
    refine gw_aload_n 9 d_X12_lay_8 rfl rfl ?_
    refine gw_getR 12 d_X12_lay_9 rfl F_12_67 sh_117 rfl ?_
    refine gw_iload_n 13 d_X12_lay_12 rfl rfl ?_
    refine gw_iload_n 14 d_X12_lay_13 rfl rfl ?_
    refine gw_iadd 15 d_X12_lay_14 rfl  ?_
    refine gw_aload_n 16 d_X12_lay_15 rfl rfl ?_
    refine gw_iload_n 17 d_X12_lay_16 rfl rfl ?_
    refine gw_iaload 18 d_X12_lay_17 rfl hsb1 (h.2 c1).1 ?_
    refine gw_iastore 19 d_X12_lay_18 rfl sh_137 (h.2 c1).2.1 ?_
    refine gw_iinc (ls' := [some (gR 117), some (gR b1), some (gI x2), some (gI (gw_w (x3 + 1)))]) 22 d_X12_lay_19 rfl rfl rfl rfl rfl ?_
    refine gw_goto 2 d_X12_lay_22 rfl ?_
    exact (h.2 c1).2.2
set_option maxRecDepth 100000 in
set_option maxHeartbeats 4000000 in
theorem r_X12_gives_0 {d : Nat} {QR : Option gw_SV → gw_Mem → Prop} {Γ : gw_Ga} (x1 : Int) (b2 nb2 : Nat) (hsb2 : gw_SH[b2]? = some (1, nb2, [])) (hnb2 : gw_rb (nb2 : Int) = true) (m : gw_Mem) (h : gw_G M_X12_gives d QR Γ 2 [some (gR 117), some (gI x1), some (gR b2), some (gI 0)] [] m) : gw_G M_X12_gives d QR Γ 0 [some (gR 117), some (gI x1), some (gR b2), none] [] m := by
  refine gw_iconst 1 d_X12_gives_0 rfl rfl ?_
  refine gw_istore_n (ls' := [some (gR 117), some (gI x1), some (gR b2), some (gI 0)]) 2 d_X12_gives_1 rfl rfl rfl rfl ?_
  exact h
set_option maxRecDepth 100000 in
set_option maxHeartbeats 4000000 in
theorem r_X12_gives_2 {d : Nat} {QR : Option gw_SV → gw_Mem → Prop} {Γ : gw_Ga} (x1 : Int) (b2 nb2 : Nat) (hsb2 : gw_SH[b2]? = some (1, nb2, [])) (hnb2 : gw_rb (nb2 : Int) = true) (x3 : Int) (m : gw_Mem) (h : ((nb2 ≤ x3 → QR (some (gI (gw_w (x1 + nb2)))) m) ∧ (¬ (nb2 ≤ x3) → gw_in (gw_w (x1 + x3)) 270 ∧ gw_in x3 nb2 ∧ gw_G M_X12_gives d QR Γ 2 [some (gR 117), some (gI x1), some (gR b2), some (gI (gw_w (x3 + 1)))] [] (gw_up m b2 x3 (m 137 (gw_w (x1 + x3))))))) : gw_G M_X12_gives d QR Γ 2 [some (gR 117), some (gI x1), some (gR b2), some (gI x3)] [] m := by
  refine gw_iload_n 3 d_X12_gives_2 rfl rfl ?_
  refine gw_aload_n 4 d_X12_gives_3 rfl rfl ?_
  refine gw_alen 5 d_X12_gives_4 rfl hsb2 rfl (z := nb2) rfl hnb2 ?_
  refine gw_icmp_ge 25 8 d_X12_gives_5 rfl rfl (fun c1 => ?_) (fun c1 => ?_)
  · skip
    refine gw_iload_n 26 d_X12_gives_25 rfl rfl ?_
    refine gw_aload_n 27 d_X12_gives_26 rfl rfl ?_
    refine gw_alen 28 d_X12_gives_27 rfl hsb2 rfl (z := nb2) rfl hnb2 ?_
    refine gw_iadd 29 d_X12_gives_28 rfl  ?_
    exact gw_ireturn d_X12_gives_29 (Or.inl rfl) (h.1 c1)
  · skip
    refine gw_aload_n 9 d_X12_gives_8 rfl rfl ?_
    refine gw_iload_n 10 d_X12_gives_9 rfl rfl ?_
    refine gw_aload_n 11 d_X12_gives_10 rfl rfl ?_
    refine gw_getR 14 d_X12_gives_11 rfl F_12_67 sh_117 rfl ?_
    refine gw_iload_n 15 d_X12_gives_14 rfl rfl ?_
    refine gw_iload_n 16 d_X12_gives_15 rfl rfl ?_
    refine gw_iadd 17 d_X12_gives_16 rfl  ?_
    refine gw_iaload 18 d_X12_gives_17 rfl sh_137 (h.2 c1).1 ?_
    refine gw_iastore 19 d_X12_gives_18 rfl hsb2 (h.2 c1).2.1 ?_
    refine gw_iinc (ls' := [some (gR 117), some (gI x1), some (gR b2), some (gI (gw_w (x3 + 1)))]) 22 d_X12_gives_19 rfl rfl rfl rfl rfl ?_
    refine gw_goto 2 d_X12_gives_22 rfl ?_
    exact (h.2 c1).2.2
set_option maxRecDepth 100000 in
set_option maxHeartbeats 4000000 in
theorem r_X12_image_0 {d : Nat} {QR : Option gw_SV → gw_Mem → Prop} {Γ : gw_Ga} (m : gw_Mem) (h : gw_CI d M_X12_lay [gR 117, gR 118, gI 0] m (fun v1 m2 => gw_CI d M_X12_lay [gR 117, gR 119, gI v1] m2 (fun v4 m5 => gw_CI d M_X12_lay [gR 117, gR 120, gI v4] m5 (fun v7 m8 => gw_CI d M_X12_lay [gR 117, gR 121, gI v7] m8 (fun v10 m11 => gw_CI d M_X12_lay [gR 117, gR 122, gI v10] m11 (fun v13 m14 => gw_CI d M_X12_lay [gR 117, gR 123, gI v13] m14 (fun v16 m17 => gw_CI d M_X12_lay [gR 117, gR 124, gI v16] m17 (fun v19 m20 => gw_CI d M_X12_lay [gR 117, gR 125, gI v19] m20 (fun v22 m23 => gw_CI d M_X12_lay [gR 117, gR 126, gI v22] m23 (fun v25 m26 => gw_in v25 270 ∧ gw_in (gw_w (v25 + 1)) 270 ∧ QR (some (gI 1)) (gw_up (gw_up (gw_up m26 137 v25 (m26 117 0)) 137 (gw_w (v25 + 1)) ((gw_up m26 137 v25 (m26 117 0)) 117 6)) 117 34 1))))))))))) : gw_G M_X12_image d QR Γ 0 [some (gR 117), none] [] m := by
  refine gw_aload_n 1 d_X12_image_0 rfl rfl ?_
  refine gw_aload_n 2 d_X12_image_1 rfl rfl ?_
  refine gw_getR 5 d_X12_image_2 rfl F_12_7 sh_117 rfl ?_
  refine gw_iconst 6 d_X12_image_5 rfl rfl ?_
  refine gw_cVI (a := [gR 118, gI 0]) (rest := []) 9 d_X12_image_6 rfl ml_12_309 v_X12_lay rfl sh_117 rfl rfl rfl h (fun v1 m2 h3 => ?_)
  refine gw_istore_n (ls' := [some (gR 117), some (gI v1)]) 10 d_X12_image_9 rfl rfl rfl rfl ?_
  refine gw_aload_n 11 d_X12_image_10 rfl rfl ?_
  refine gw_aload_n 12 d_X12_image_11 rfl rfl ?_
  refine gw_getR 15 d_X12_image_12 rfl F_12_13 sh_117 rfl ?_
  refine gw_iload_n 16 d_X12_image_15 rfl rfl ?_
  refine gw_cVI (a := [gR 119, gI v1]) (rest := []) 19 d_X12_image_16 rfl ml_12_309 v_X12_lay rfl sh_117 rfl rfl rfl h3 (fun v4 m5 h6 => ?_)
  refine gw_istore_n (ls' := [some (gR 117), some (gI v4)]) 20 d_X12_image_19 rfl rfl rfl rfl ?_
  refine gw_aload_n 21 d_X12_image_20 rfl rfl ?_
  refine gw_aload_n 22 d_X12_image_21 rfl rfl ?_
  refine gw_getR 25 d_X12_image_22 rfl F_12_16 sh_117 rfl ?_
  refine gw_iload_n 26 d_X12_image_25 rfl rfl ?_
  refine gw_cVI (a := [gR 120, gI v4]) (rest := []) 29 d_X12_image_26 rfl ml_12_309 v_X12_lay rfl sh_117 rfl rfl rfl h6 (fun v7 m8 h9 => ?_)
  refine gw_istore_n (ls' := [some (gR 117), some (gI v7)]) 30 d_X12_image_29 rfl rfl rfl rfl ?_
  refine gw_aload_n 31 d_X12_image_30 rfl rfl ?_
  refine gw_aload_n 32 d_X12_image_31 rfl rfl ?_
  refine gw_getR 35 d_X12_image_32 rfl F_12_19 sh_117 rfl ?_
  refine gw_iload_n 36 d_X12_image_35 rfl rfl ?_
  refine gw_cVI (a := [gR 121, gI v7]) (rest := []) 39 d_X12_image_36 rfl ml_12_309 v_X12_lay rfl sh_117 rfl rfl rfl h9 (fun v10 m11 h12 => ?_)
  refine gw_istore_n (ls' := [some (gR 117), some (gI v10)]) 40 d_X12_image_39 rfl rfl rfl rfl ?_
  refine gw_aload_n 41 d_X12_image_40 rfl rfl ?_
  refine gw_aload_n 42 d_X12_image_41 rfl rfl ?_
  refine gw_getR 45 d_X12_image_42 rfl F_12_22 sh_117 rfl ?_
  refine gw_iload_n 46 d_X12_image_45 rfl rfl ?_
  refine gw_cVI (a := [gR 122, gI v10]) (rest := []) 49 d_X12_image_46 rfl ml_12_309 v_X12_lay rfl sh_117 rfl rfl rfl h12 (fun v13 m14 h15 => ?_)
  refine gw_istore_n (ls' := [some (gR 117), some (gI v13)]) 50 d_X12_image_49 rfl rfl rfl rfl ?_
  refine gw_aload_n 51 d_X12_image_50 rfl rfl ?_
  refine gw_aload_n 52 d_X12_image_51 rfl rfl ?_
  refine gw_getR 55 d_X12_image_52 rfl F_12_25 sh_117 rfl ?_
  refine gw_iload_n 56 d_X12_image_55 rfl rfl ?_
  refine gw_cVI (a := [gR 123, gI v13]) (rest := []) 59 d_X12_image_56 rfl ml_12_309 v_X12_lay rfl sh_117 rfl rfl rfl h15 (fun v16 m17 h18 => ?_)
  refine gw_istore_n (ls' := [some (gR 117), some (gI v16)]) 60 d_X12_image_59 rfl rfl rfl rfl ?_
  refine gw_aload_n 61 d_X12_image_60 rfl rfl ?_
  refine gw_aload_n 62 d_X12_image_61 rfl rfl ?_
  refine gw_getR 65 d_X12_image_62 rfl F_12_28 sh_117 rfl ?_
  refine gw_iload_n 66 d_X12_image_65 rfl rfl ?_
  refine gw_cVI (a := [gR 124, gI v16]) (rest := []) 69 d_X12_image_66 rfl ml_12_309 v_X12_lay rfl sh_117 rfl rfl rfl h18 (fun v19 m20 h21 => ?_)
  refine gw_istore_n (ls' := [some (gR 117), some (gI v19)]) 70 d_X12_image_69 rfl rfl rfl rfl ?_
  refine gw_aload_n 71 d_X12_image_70 rfl rfl ?_
  refine gw_aload_n 72 d_X12_image_71 rfl rfl ?_
  refine gw_getR 75 d_X12_image_72 rfl F_12_31 sh_117 rfl ?_
  refine gw_iload_n 76 d_X12_image_75 rfl rfl ?_
  refine gw_cVI (a := [gR 125, gI v19]) (rest := []) 79 d_X12_image_76 rfl ml_12_309 v_X12_lay rfl sh_117 rfl rfl rfl h21 (fun v22 m23 h24 => ?_)
  refine gw_istore_n (ls' := [some (gR 117), some (gI v22)]) 80 d_X12_image_79 rfl rfl rfl rfl ?_
  refine gw_aload_n 81 d_X12_image_80 rfl rfl ?_
  refine gw_aload_n 82 d_X12_image_81 rfl rfl ?_
  refine gw_getR 85 d_X12_image_82 rfl F_12_34 sh_117 rfl ?_
  refine gw_iload_n 86 d_X12_image_85 rfl rfl ?_
  refine gw_cVI (a := [gR 126, gI v22]) (rest := []) 89 d_X12_image_86 rfl ml_12_309 v_X12_lay rfl sh_117 rfl rfl rfl h24 (fun v25 m26 h27 => ?_)
  refine gw_istore_n (ls' := [some (gR 117), some (gI v25)]) 90 d_X12_image_89 rfl rfl rfl rfl ?_
  refine gw_aload_n 91 d_X12_image_90 rfl rfl ?_
  refine gw_getR 94 d_X12_image_91 rfl F_12_67 sh_117 rfl ?_
  refine gw_iload_n 95 d_X12_image_94 rfl rfl ?_
  refine gw_aload_n 96 d_X12_image_95 rfl rfl ?_
  refine gw_getI 99 d_X12_image_96 rfl F_12_88 sh_117 rfl (kz := 0) rfl ?_
  refine gw_iastore 100 d_X12_image_99 rfl sh_137 h27.1 ?_
  refine gw_aload_n 101 d_X12_image_100 rfl rfl ?_
  refine gw_getR 104 d_X12_image_101 rfl F_12_67 sh_117 rfl ?_
  refine gw_iload_n 105 d_X12_image_104 rfl rfl ?_
  refine gw_iconst 106 d_X12_image_105 rfl rfl ?_
  refine gw_iadd 107 d_X12_image_106 rfl  ?_
  refine gw_aload_n 108 d_X12_image_107 rfl rfl ?_
  refine gw_getI 111 d_X12_image_108 rfl F_12_120 sh_117 rfl (kz := 6) rfl ?_
  refine gw_iastore 112 d_X12_image_111 rfl sh_137 h27.2.1 ?_
  refine gw_aload_n 113 d_X12_image_112 rfl rfl ?_
  refine gw_iconst 114 d_X12_image_113 rfl rfl ?_
  refine gw_putI 117 d_X12_image_114 rfl P_12_313 (Or.inr ⟨rfl, gw_b1⟩) sh_117 rfl (kz := 34) rfl ?_
  refine gw_iconst 118 d_X12_image_117 rfl rfl ?_
  exact gw_ireturn d_X12_image_118 (Or.inl rfl) h27.2.2
set_option maxRecDepth 100000 in
set_option maxHeartbeats 4000000 in
theorem r_X12_restore_0 {d : Nat} {QR : Option gw_SV → gw_Mem → Prop} {Γ : gw_Ga} (m : gw_Mem) (h : ((m 117 34 = 0 → QR (some (gI (-4))) m) ∧ (¬ (m 117 34 = 0) → gw_CI d M_X12_gives [gR 117, gI 0, gR 118] m (fun v1 m2 => gw_CI d M_X12_gives [gR 117, gI v1, gR 119] m2 (fun v4 m5 => gw_CI d M_X12_gives [gR 117, gI v4, gR 120] m5 (fun v7 m8 => gw_CI d M_X12_gives [gR 117, gI v7, gR 121] m8 (fun v10 m11 => gw_CI d M_X12_gives [gR 117, gI v10, gR 122] m11 (fun v13 m14 => gw_CI d M_X12_gives [gR 117, gI v13, gR 123] m14 (fun v16 m17 => gw_CI d M_X12_gives [gR 117, gI v16, gR 124] m17 (fun v19 m20 => gw_CI d M_X12_gives [gR 117, gI v19, gR 125] m20 (fun v22 m23 => gw_CI d M_X12_gives [gR 117, gI v22, gR 126] m23 (fun v25 m26 => gw_in v25 270 ∧ gw_in (gw_w (v25 + 1)) 270 ∧ QR (some (gI 1)) (gw_up (gw_up m26 117 0 (m26 137 v25)) 117 6 ((gw_up m26 117 0 (m26 137 v25)) 137 (gw_w (v25 + 1)))))))))))))))) : gw_G M_X12_restore d QR Γ 0 [some (gR 117), none] [] m := by
  refine gw_aload_n 1 d_X12_restore_0 rfl rfl ?_
  refine gw_getI 4 d_X12_restore_1 rfl F_12_313 sh_117 rfl (kz := 34) rfl ?_
  refine gw_if_ne 10 7 d_X12_restore_4 rfl rfl (fun c28 => ?_) (fun c28 => ?_)
  · skip
    refine gw_bipush 9 d_X12_restore_7 rfl rfl (by decide) ?_
    exact gw_ireturn d_X12_restore_9 (Or.inl rfl) (h.1 c28)
  · skip
    refine gw_aload_n 11 d_X12_restore_10 rfl rfl ?_
    refine gw_iconst 12 d_X12_restore_11 rfl rfl ?_
    refine gw_aload_n 13 d_X12_restore_12 rfl rfl ?_
    refine gw_getR 16 d_X12_restore_13 rfl F_12_7 sh_117 rfl ?_
    refine gw_cVI (a := [gI 0, gR 118]) (rest := []) 19 d_X12_restore_16 rfl ml_12_316 v_X12_gives rfl sh_117 rfl rfl rfl (h.2 c28) (fun v1 m2 h3 => ?_)
    refine gw_istore_n (ls' := [some (gR 117), some (gI v1)]) 20 d_X12_restore_19 rfl rfl rfl rfl ?_
    refine gw_aload_n 21 d_X12_restore_20 rfl rfl ?_
    refine gw_iload_n 22 d_X12_restore_21 rfl rfl ?_
    refine gw_aload_n 23 d_X12_restore_22 rfl rfl ?_
    refine gw_getR 26 d_X12_restore_23 rfl F_12_13 sh_117 rfl ?_
    refine gw_cVI (a := [gI v1, gR 119]) (rest := []) 29 d_X12_restore_26 rfl ml_12_316 v_X12_gives rfl sh_117 rfl rfl rfl h3 (fun v4 m5 h6 => ?_)
    refine gw_istore_n (ls' := [some (gR 117), some (gI v4)]) 30 d_X12_restore_29 rfl rfl rfl rfl ?_
    refine gw_aload_n 31 d_X12_restore_30 rfl rfl ?_
    refine gw_iload_n 32 d_X12_restore_31 rfl rfl ?_
    refine gw_aload_n 33 d_X12_restore_32 rfl rfl ?_
    refine gw_getR 36 d_X12_restore_33 rfl F_12_16 sh_117 rfl ?_
    refine gw_cVI (a := [gI v4, gR 120]) (rest := []) 39 d_X12_restore_36 rfl ml_12_316 v_X12_gives rfl sh_117 rfl rfl rfl h6 (fun v7 m8 h9 => ?_)
    refine gw_istore_n (ls' := [some (gR 117), some (gI v7)]) 40 d_X12_restore_39 rfl rfl rfl rfl ?_
    refine gw_aload_n 41 d_X12_restore_40 rfl rfl ?_
    refine gw_iload_n 42 d_X12_restore_41 rfl rfl ?_
    refine gw_aload_n 43 d_X12_restore_42 rfl rfl ?_
    refine gw_getR 46 d_X12_restore_43 rfl F_12_19 sh_117 rfl ?_
    refine gw_cVI (a := [gI v7, gR 121]) (rest := []) 49 d_X12_restore_46 rfl ml_12_316 v_X12_gives rfl sh_117 rfl rfl rfl h9 (fun v10 m11 h12 => ?_)
    refine gw_istore_n (ls' := [some (gR 117), some (gI v10)]) 50 d_X12_restore_49 rfl rfl rfl rfl ?_
    refine gw_aload_n 51 d_X12_restore_50 rfl rfl ?_
    refine gw_iload_n 52 d_X12_restore_51 rfl rfl ?_
    refine gw_aload_n 53 d_X12_restore_52 rfl rfl ?_
    refine gw_getR 56 d_X12_restore_53 rfl F_12_22 sh_117 rfl ?_
    refine gw_cVI (a := [gI v10, gR 122]) (rest := []) 59 d_X12_restore_56 rfl ml_12_316 v_X12_gives rfl sh_117 rfl rfl rfl h12 (fun v13 m14 h15 => ?_)
    refine gw_istore_n (ls' := [some (gR 117), some (gI v13)]) 60 d_X12_restore_59 rfl rfl rfl rfl ?_
    refine gw_aload_n 61 d_X12_restore_60 rfl rfl ?_
    refine gw_iload_n 62 d_X12_restore_61 rfl rfl ?_
    refine gw_aload_n 63 d_X12_restore_62 rfl rfl ?_
    refine gw_getR 66 d_X12_restore_63 rfl F_12_25 sh_117 rfl ?_
    refine gw_cVI (a := [gI v13, gR 123]) (rest := []) 69 d_X12_restore_66 rfl ml_12_316 v_X12_gives rfl sh_117 rfl rfl rfl h15 (fun v16 m17 h18 => ?_)
    refine gw_istore_n (ls' := [some (gR 117), some (gI v16)]) 70 d_X12_restore_69 rfl rfl rfl rfl ?_
    refine gw_aload_n 71 d_X12_restore_70 rfl rfl ?_
    refine gw_iload_n 72 d_X12_restore_71 rfl rfl ?_
    refine gw_aload_n 73 d_X12_restore_72 rfl rfl ?_
    refine gw_getR 76 d_X12_restore_73 rfl F_12_28 sh_117 rfl ?_
    refine gw_cVI (a := [gI v16, gR 124]) (rest := []) 79 d_X12_restore_76 rfl ml_12_316 v_X12_gives rfl sh_117 rfl rfl rfl h18 (fun v19 m20 h21 => ?_)
    refine gw_istore_n (ls' := [some (gR 117), some (gI v19)]) 80 d_X12_restore_79 rfl rfl rfl rfl ?_
    refine gw_aload_n 81 d_X12_restore_80 rfl rfl ?_
    refine gw_iload_n 82 d_X12_restore_81 rfl rfl ?_
    refine gw_aload_n 83 d_X12_restore_82 rfl rfl ?_
    refine gw_getR 86 d_X12_restore_83 rfl F_12_31 sh_117 rfl ?_
    refine gw_cVI (a := [gI v19, gR 125]) (rest := []) 89 d_X12_restore_86 rfl ml_12_316 v_X12_gives rfl sh_117 rfl rfl rfl h21 (fun v22 m23 h24 => ?_)
    refine gw_istore_n (ls' := [some (gR 117), some (gI v22)]) 90 d_X12_restore_89 rfl rfl rfl rfl ?_
    refine gw_aload_n 91 d_X12_restore_90 rfl rfl ?_
    refine gw_iload_n 92 d_X12_restore_91 rfl rfl ?_
    refine gw_aload_n 93 d_X12_restore_92 rfl rfl ?_
    refine gw_getR 96 d_X12_restore_93 rfl F_12_34 sh_117 rfl ?_
    refine gw_cVI (a := [gI v22, gR 126]) (rest := []) 99 d_X12_restore_96 rfl ml_12_316 v_X12_gives rfl sh_117 rfl rfl rfl h24 (fun v25 m26 h27 => ?_)
    refine gw_istore_n (ls' := [some (gR 117), some (gI v25)]) 100 d_X12_restore_99 rfl rfl rfl rfl ?_
    refine gw_aload_n 101 d_X12_restore_100 rfl rfl ?_
    refine gw_aload_n 102 d_X12_restore_101 rfl rfl ?_
    refine gw_getR 105 d_X12_restore_102 rfl F_12_67 sh_117 rfl ?_
    refine gw_iload_n 106 d_X12_restore_105 rfl rfl ?_
    refine gw_iaload 107 d_X12_restore_106 rfl sh_137 h27.1 ?_
    refine gw_putI 110 d_X12_restore_107 rfl P_12_88 (Or.inl rfl) sh_117 rfl (kz := 0) rfl ?_
    refine gw_aload_n 111 d_X12_restore_110 rfl rfl ?_
    refine gw_aload_n 112 d_X12_restore_111 rfl rfl ?_
    refine gw_getR 115 d_X12_restore_112 rfl F_12_67 sh_117 rfl ?_
    refine gw_iload_n 116 d_X12_restore_115 rfl rfl ?_
    refine gw_iconst 117 d_X12_restore_116 rfl rfl ?_
    refine gw_iadd 118 d_X12_restore_117 rfl  ?_
    refine gw_iaload 119 d_X12_restore_118 rfl sh_137 h27.2.1 ?_
    refine gw_putI 122 d_X12_restore_119 rfl P_12_120 (Or.inl rfl) sh_117 rfl (kz := 6) rfl ?_
    refine gw_iconst 123 d_X12_restore_122 rfl rfl ?_
    exact gw_ireturn d_X12_restore_123 (Or.inl rfl) h27.2.2
set_option maxRecDepth 100000 in
set_option maxHeartbeats 4000000 in
theorem r_X12_isSheet_0 {d : Nat} {QR : Option gw_SV → gw_Mem → Prop} {Γ : gw_Ga} (x0 : Int) (m : gw_Mem) (h : gw_CI d M_X12_in [gL x0, gL 0, gL 3] m (fun v1 m2 => gw_b v1 ∧ QR (some (gI v1)) m2)) : gw_G M_X12_isSheet d QR Γ 0 [some (gI x0)] [] m := by
  refine gw_iload_n 1 d_X12_isSheet_0 rfl rfl ?_
  refine gw_i2lR 2 d_X12_isSheet_1 rfl  ?_
  refine gw_lconst 3 d_X12_isSheet_2 rfl (n := 0) rfl (by decide) ?_
  refine gw_ldc2 6 d_X12_isSheet_3 rfl ct_12_106 (n := 3) (gw_rb_inL (gw_rb_in rfl)) (by decide) ?_
  refine gw_cSI (a := [gL x0, gL 0, gL 3]) (rest := []) 9 d_X12_isSheet_6 rfl ml_12_98 v_X12_in rfl rfl rfl h (fun v1 m2 h3 => ?_)
  exact gw_ireturn d_X12_isSheet_9 (Or.inr ⟨rfl, h3.1⟩) h3.2
set_option maxRecDepth 100000 in
set_option maxHeartbeats 4000000 in
theorem r_X12_isLane_0 {d : Nat} {QR : Option gw_SV → gw_Mem → Prop} {Γ : gw_Ga} (x0 : Int) (m : gw_Mem) (h : gw_CI d M_X12_in [gL x0, gL 0, gL 2] m (fun v1 m2 => gw_b v1 ∧ QR (some (gI v1)) m2)) : gw_G M_X12_isLane d QR Γ 0 [some (gI x0)] [] m := by
  refine gw_iload_n 1 d_X12_isLane_0 rfl rfl ?_
  refine gw_i2lR 2 d_X12_isLane_1 rfl  ?_
  refine gw_lconst 3 d_X12_isLane_2 rfl (n := 0) rfl (by decide) ?_
  refine gw_ldc2 6 d_X12_isLane_3 rfl ct_12_92 (n := 2) (gw_rb_inL (gw_rb_in rfl)) (by decide) ?_
  refine gw_cSI (a := [gL x0, gL 0, gL 2]) (rest := []) 9 d_X12_isLane_6 rfl ml_12_98 v_X12_in rfl rfl rfl h (fun v1 m2 h3 => ?_)
  exact gw_ireturn d_X12_isLane_9 (Or.inr ⟨rfl, h3.1⟩) h3.2
set_option maxRecDepth 100000 in
set_option maxHeartbeats 4000000 in
theorem r_X12_finds_0 {d : Nat} {QR : Option gw_SV → gw_Mem → Prop} {Γ : gw_Ga} (x1 : Int) (x2 : Int) (x3 : Int) (x4 : Int) (m : gw_Mem) (h : gw_in x1 4 ∧ ((0 ≤ m 138 x1 → gw_in x1 4 ∧ ((m 138 x1 = x2 → (¬ (x3 < 0) → gw_in x1 4) ∧ QR (some (gI (if x3 < 0 then (-13 : Int) else (if gw_cmp (gw_wl (x3 + x4)) (m 139 x1) ≤ 0 then (0 : Int) else (-13 : Int))))) m) ∧ (¬ (m 138 x1 = x2) → QR (some (gI (-12))) m))) ∧ (¬ (0 ≤ m 138 x1) → QR (some (gI (-11))) m))) : gw_G M_X12_finds d QR Γ 0 [some (gR 117), some (gI x1), some (gI x2), some (gI x3), some (gI x4)] [] m := by
  refine gw_aload_n 1 d_X12_finds_0 rfl rfl ?_
  refine gw_getR 4 d_X12_finds_1 rfl F_12_70 sh_117 rfl ?_
  refine gw_iload_n 5 d_X12_finds_4 rfl rfl ?_
  refine gw_iaload 6 d_X12_finds_5 rfl sh_138 h.1 ?_
  refine gw_if_ge 12 9 d_X12_finds_6 rfl rfl (fun c1 => ?_) (fun c1 => ?_)
  · skip
    refine gw_aload_n 13 d_X12_finds_12 rfl rfl ?_
    refine gw_getR 16 d_X12_finds_13 rfl F_12_70 sh_117 rfl ?_
    refine gw_iload_n 17 d_X12_finds_16 rfl rfl ?_
    refine gw_iaload 18 d_X12_finds_17 rfl sh_138 (h.2.1 c1).1 ?_
    refine gw_iload_n 19 d_X12_finds_18 rfl rfl ?_
    refine gw_icmp_eq 25 22 d_X12_finds_19 rfl rfl (fun c2 => ?_) (fun c2 => ?_)
    · skip
      refine gw_iload_n 26 d_X12_finds_25 rfl rfl ?_
      have j3 : gw_G M_X12_finds d QR Γ 52 [some (gR 117), some (gI x1), some (gI x2), some (gI x3), some (gI x4)] [gI (if x3 < 0 then (-13 : Int) else (if gw_cmp (gw_wl (x3 + x4)) (m 139 x1) ≤ 0 then (0 : Int) else (-13 : Int)))] m := by
        exact gw_ireturn d_X12_finds_52 (Or.inl rfl) ((h.2.1 c1).2.1 c2).2
      refine gw_if_lt 46 29 d_X12_finds_26 rfl rfl (fun c4 => ?_) (fun c4 => ?_)
      · skip
        refine gw_bipush 48 d_X12_finds_46 rfl rfl (by decide) ?_
        refine gw_goto 52 d_X12_finds_48 rfl ?_
        simpa only [if_pos c4] using j3
      · skip
        refine gw_iload_n 30 d_X12_finds_29 rfl rfl ?_
        refine gw_i2lR 31 d_X12_finds_30 rfl  ?_
        refine gw_iload 33 d_X12_finds_31 rfl rfl ?_
        refine gw_i2lR 34 d_X12_finds_33 rfl  ?_
        refine gw_ladd 35 d_X12_finds_34 rfl  ?_
        refine gw_aload_n 36 d_X12_finds_35 rfl rfl ?_
        refine gw_getR 39 d_X12_finds_36 rfl F_12_73 sh_117 rfl ?_
        refine gw_iload_n 40 d_X12_finds_39 rfl rfl ?_
        refine gw_iaload 41 d_X12_finds_40 rfl sh_139 (((h.2.1 c1).2.1 c2).1 c4) ?_
        refine gw_i2lR 42 d_X12_finds_41 rfl  ?_
        refine gw_lcmpR 43 d_X12_finds_42 rfl  ?_
        refine gw_if_le 51 46 d_X12_finds_43 rfl rfl (fun c5 => ?_) (fun c5 => ?_)
        · skip
          refine gw_iconst 52 d_X12_finds_51 rfl rfl ?_
          simpa only [if_neg c4, if_pos c5] using j3
        · skip
          refine gw_bipush 48 d_X12_finds_46 rfl rfl (by decide) ?_
          refine gw_goto 52 d_X12_finds_48 rfl ?_
          simpa only [if_neg c4, if_neg c5] using j3
    · skip
      refine gw_bipush 24 d_X12_finds_22 rfl rfl (by decide) ?_
      exact gw_ireturn d_X12_finds_24 (Or.inl rfl) ((h.2.1 c1).2.2 c2)
  · skip
    refine gw_bipush 11 d_X12_finds_9 rfl rfl (by decide) ?_
    exact gw_ireturn d_X12_finds_11 (Or.inl rfl) (h.2.2 c1)
set_option maxRecDepth 100000 in
set_option maxHeartbeats 4000000 in
theorem r_X12_turns_0 {d : Nat} {QR : Option gw_SV → gw_Mem → Prop} {Γ : gw_Ga} (x1 : Int) (m : gw_Mem) (h : gw_G M_X12_turns d QR Γ 4 [some (gR 117), some (gI x1), some (gI (gw_w (x1 - 2))), none, none, none, none] [] m) : gw_G M_X12_turns d QR Γ 0 [some (gR 117), some (gI x1), none, none, none, none, none] [] m := by
  refine gw_iload_n 1 d_X12_turns_0 rfl rfl ?_
  refine gw_iconst 2 d_X12_turns_1 rfl rfl ?_
  refine gw_isub 3 d_X12_turns_2 rfl  ?_
  refine gw_istore_n (ls' := [some (gR 117), some (gI x1), some (gI (gw_w (x1 - 2))), none, none, none, none]) 4 d_X12_turns_3 rfl rfl rfl rfl ?_
  exact h
set_option maxRecDepth 100000 in
set_option maxHeartbeats 4000000 in
theorem r_X12_turns_4 {d : Nat} {QR : Option gw_SV → gw_Mem → Prop} {Γ : gw_Ga} (x1 : Int) (x2 : Int) (y3 : Option gw_SV) (y4 : Option gw_SV) (y5 : Option gw_SV) (y6 : Option gw_SV) (m : gw_Mem) (h : ((x2 < 0 → gw_G M_X12_turns d QR Γ 31 [some (gR 117), some (gI x1), some (gI x2), y3, y4, y5, y6] [] m) ∧ (¬ (x2 < 0) → gw_in x2 6 ∧ gw_in (gw_w (x2 + 1)) 6 ∧ ((m 142 x2 ≤ m 142 (gw_w (x2 + 1)) → gw_G M_X12_turns d QR Γ 31 [some (gR 117), some (gI x1), some (gI x2), y3, y4, y5, y6] [] m) ∧ (¬ (m 142 x2 ≤ m 142 (gw_w (x2 + 1))) → gw_G M_X12_turns d QR Γ 4 [some (gR 117), some (gI x1), some (gI (gw_w (x2 + (-1)))), y3, y4, y5, y6] [] m))))) : gw_G M_X12_turns d QR Γ 4 [some (gR 117), some (gI x1), some (gI x2), y3, y4, y5, y6] [] m := by
  refine gw_iload_n 5 d_X12_turns_4 rfl rfl ?_
  refine gw_if_lt 31 8 d_X12_turns_5 rfl rfl (fun c1 => ?_) (fun c1 => ?_)
  · skip
    exact (h.1 c1)
  · skip
    refine gw_aload_n 9 d_X12_turns_8 rfl rfl ?_
    refine gw_getR 12 d_X12_turns_9 rfl F_12_82 sh_117 rfl ?_
    refine gw_iload_n 13 d_X12_turns_12 rfl rfl ?_
    refine gw_iaload 14 d_X12_turns_13 rfl sh_142 (h.2 c1).1 ?_
    refine gw_aload_n 15 d_X12_turns_14 rfl rfl ?_
    refine gw_getR 18 d_X12_turns_15 rfl F_12_82 sh_117 rfl ?_
    refine gw_iload_n 19 d_X12_turns_18 rfl rfl ?_
    refine gw_iconst 20 d_X12_turns_19 rfl rfl ?_
    refine gw_iadd 21 d_X12_turns_20 rfl  ?_
    refine gw_iaload 22 d_X12_turns_21 rfl sh_142 (h.2 c1).2.1 ?_
    refine gw_icmp_le 31 25 d_X12_turns_22 rfl rfl (fun c2 => ?_) (fun c2 => ?_)
    · skip
      exact ((h.2 c1).2.2.1 c2)
    · skip
      refine gw_iinc (ls' := [some (gR 117), some (gI x1), some (gI (gw_w (x2 + (-1)))), y3, y4, y5, y6]) 28 d_X12_turns_25 rfl rfl rfl rfl rfl ?_
      refine gw_goto 4 d_X12_turns_28 rfl ?_
      exact ((h.2 c1).2.2.2 c2)
set_option maxRecDepth 100000 in
set_option maxHeartbeats 4000000 in
theorem r_X12_turns_31 {d : Nat} {QR : Option gw_SV → gw_Mem → Prop} {Γ : gw_Ga} (x1 : Int) (x2 : Int) (y3 : Option gw_SV) (y4 : Option gw_SV) (y5 : Option gw_SV) (y6 : Option gw_SV) (m : gw_Mem) (h : ((0 ≤ x2 → gw_G M_X12_turns d QR Γ 41 [some (gR 117), some (gI x1), some (gI x2), some (gI (gw_w (x1 - 1))), y4, y5, y6] [] m) ∧ (¬ (0 ≤ x2) → QR (some (gI 0)) m))) : gw_G M_X12_turns d QR Γ 31 [some (gR 117), some (gI x1), some (gI x2), y3, y4, y5, y6] [] m := by
  refine gw_iload_n 32 d_X12_turns_31 rfl rfl ?_
  refine gw_if_ge 37 35 d_X12_turns_32 rfl rfl (fun c3 => ?_) (fun c3 => ?_)
  · skip
    refine gw_iload_n 38 d_X12_turns_37 rfl rfl ?_
    refine gw_iconst 39 d_X12_turns_38 rfl rfl ?_
    refine gw_isub 40 d_X12_turns_39 rfl  ?_
    refine gw_istore_n (ls' := [some (gR 117), some (gI x1), some (gI x2), some (gI (gw_w (x1 - 1))), y4, y5, y6]) 41 d_X12_turns_40 rfl rfl rfl rfl ?_
    exact (h.1 c3)
  · skip
    refine gw_iconst 36 d_X12_turns_35 rfl rfl ?_
    exact gw_ireturn d_X12_turns_36 (Or.inr ⟨rfl, gw_b0⟩) (h.2 c3)
set_option maxRecDepth 100000 in
set_option maxHeartbeats 4000000 in
theorem r_X12_turns_41 {d : Nat} {QR : Option gw_SV → gw_Mem → Prop} {Γ : gw_Ga} (x1 : Int) (x2 : Int) (x3 : Int) (y4 : Option gw_SV) (y5 : Option gw_SV) (y6 : Option gw_SV) (m : gw_Mem) (h : gw_in x3 6 ∧ gw_in x2 6 ∧ ((m 142 x2 ≤ m 142 x3 → gw_in x2 6 ∧ gw_in x3 6 ∧ gw_in x2 6 ∧ gw_in x3 6 ∧ gw_G M_X12_turns d QR Γ 100 [some (gR 117), some (gI x1), some (gI x2), some (gI x3), some (gI (m 142 x2)), some (gI (gw_w (x2 + 1))), some (gI (gw_w (x1 - 1)))] [] (gw_up (gw_up m 142 x2 (m 142 x3)) 142 x3 (m 142 x2))) ∧ (¬ (m 142 x2 ≤ m 142 x3) → gw_G M_X12_turns d QR Γ 41 [some (gR 117), some (gI x1), some (gI x2), some (gI (gw_w (x3 + (-1)))), y4, y5, y6] [] m))) : gw_G M_X12_turns d QR Γ 41 [some (gR 117), some (gI x1), some (gI x2), some (gI x3), y4, y5, y6] [] m := by
  refine gw_aload_n 42 d_X12_turns_41 rfl rfl ?_
  refine gw_getR 45 d_X12_turns_42 rfl F_12_82 sh_117 rfl ?_
  refine gw_iload_n 46 d_X12_turns_45 rfl rfl ?_
  refine gw_iaload 47 d_X12_turns_46 rfl sh_142 h.1 ?_
  refine gw_aload_n 48 d_X12_turns_47 rfl rfl ?_
  refine gw_getR 51 d_X12_turns_48 rfl F_12_82 sh_117 rfl ?_
  refine gw_iload_n 52 d_X12_turns_51 rfl rfl ?_
  refine gw_iaload 53 d_X12_turns_52 rfl sh_142 h.2.1 ?_
  refine gw_icmp_ge 62 56 d_X12_turns_53 rfl rfl (fun c4 => ?_) (fun c4 => ?_)
  · skip
    refine gw_aload_n 63 d_X12_turns_62 rfl rfl ?_
    refine gw_getR 66 d_X12_turns_63 rfl F_12_82 sh_117 rfl ?_
    refine gw_iload_n 67 d_X12_turns_66 rfl rfl ?_
    refine gw_iaload 68 d_X12_turns_67 rfl sh_142 (h.2.2.1 c4).1 ?_
    refine gw_istore (ls' := [some (gR 117), some (gI x1), some (gI x2), some (gI x3), some (gI (m 142 x2)), y5, y6]) 70 d_X12_turns_68 rfl rfl rfl rfl ?_
    refine gw_aload_n 71 d_X12_turns_70 rfl rfl ?_
    refine gw_getR 74 d_X12_turns_71 rfl F_12_82 sh_117 rfl ?_
    refine gw_iload_n 75 d_X12_turns_74 rfl rfl ?_
    refine gw_aload_n 76 d_X12_turns_75 rfl rfl ?_
    refine gw_getR 79 d_X12_turns_76 rfl F_12_82 sh_117 rfl ?_
    refine gw_iload_n 80 d_X12_turns_79 rfl rfl ?_
    refine gw_iaload 81 d_X12_turns_80 rfl sh_142 (h.2.2.1 c4).2.1 ?_
    refine gw_iastore 82 d_X12_turns_81 rfl sh_142 (h.2.2.1 c4).2.2.1 ?_
    refine gw_aload_n 83 d_X12_turns_82 rfl rfl ?_
    refine gw_getR 86 d_X12_turns_83 rfl F_12_82 sh_117 rfl ?_
    refine gw_iload_n 87 d_X12_turns_86 rfl rfl ?_
    refine gw_iload 89 d_X12_turns_87 rfl rfl ?_
    refine gw_iastore 90 d_X12_turns_89 rfl sh_142 (h.2.2.1 c4).2.2.2.1 ?_
    refine gw_iload_n 91 d_X12_turns_90 rfl rfl ?_
    refine gw_iconst 92 d_X12_turns_91 rfl rfl ?_
    refine gw_iadd 93 d_X12_turns_92 rfl  ?_
    refine gw_istore (ls' := [some (gR 117), some (gI x1), some (gI x2), some (gI x3), some (gI (m 142 x2)), some (gI (gw_w (x2 + 1))), y6]) 95 d_X12_turns_93 rfl rfl rfl rfl ?_
    refine gw_iload_n 96 d_X12_turns_95 rfl rfl ?_
    refine gw_iconst 97 d_X12_turns_96 rfl rfl ?_
    refine gw_isub 98 d_X12_turns_97 rfl  ?_
    refine gw_istore (ls' := [some (gR 117), some (gI x1), some (gI x2), some (gI x3), some (gI (m 142 x2)), some (gI (gw_w (x2 + 1))), some (gI (gw_w (x1 - 1)))]) 100 d_X12_turns_98 rfl rfl rfl rfl ?_
    exact (h.2.2.1 c4).2.2.2.2
  · skip
    refine gw_iinc (ls' := [some (gR 117), some (gI x1), some (gI x2), some (gI (gw_w (x3 + (-1)))), y4, y5, y6]) 59 d_X12_turns_56 rfl rfl rfl rfl rfl ?_
    refine gw_goto 41 d_X12_turns_59 rfl ?_
    exact (h.2.2.2 c4)
set_option maxRecDepth 100000 in
set_option maxHeartbeats 4000000 in
theorem r_X12_turns_100 {d : Nat} {QR : Option gw_SV → gw_Mem → Prop} {Γ : gw_Ga} (x1 : Int) (x2 : Int) (x3 : Int) (x4 : Int) (x5 : Int) (x6 : Int) (m : gw_Mem) (h : ((x6 ≤ x5 → QR (some (gI 1)) m) ∧ (¬ (x6 ≤ x5) → gw_in x5 6 ∧ gw_in x6 6 ∧ gw_in x5 6 ∧ gw_in x6 6 ∧ gw_G M_X12_turns d QR Γ 100 [some (gR 117), some (gI x1), some (gI x2), some (gI x3), some (gI (m 142 x5)), some (gI (gw_w (x5 + 1))), some (gI (gw_w (x6 + (-1))))] [] (gw_up (gw_up m 142 x5 (m 142 x6)) 142 x6 (m 142 x5))))) : gw_G M_X12_turns d QR Γ 100 [some (gR 117), some (gI x1), some (gI x2), some (gI x3), some (gI x4), some (gI x5), some (gI x6)] [] m := by
  refine gw_iload 102 d_X12_turns_100 rfl rfl ?_
  refine gw_iload 104 d_X12_turns_102 rfl rfl ?_
  refine gw_icmp_ge 148 107 d_X12_turns_104 rfl rfl (fun c5 => ?_) (fun c5 => ?_)
  · skip
    refine gw_iconst 149 d_X12_turns_148 rfl rfl ?_
    exact gw_ireturn d_X12_turns_149 (Or.inr ⟨rfl, gw_b1⟩) (h.1 c5)
  · skip
    refine gw_aload_n 108 d_X12_turns_107 rfl rfl ?_
    refine gw_getR 111 d_X12_turns_108 rfl F_12_82 sh_117 rfl ?_
    refine gw_iload 113 d_X12_turns_111 rfl rfl ?_
    refine gw_iaload 114 d_X12_turns_113 rfl sh_142 (h.2 c5).1 ?_
    refine gw_istore (ls' := [some (gR 117), some (gI x1), some (gI x2), some (gI x3), some (gI (m 142 x5)), some (gI x5), some (gI x6)]) 116 d_X12_turns_114 rfl rfl rfl rfl ?_
    refine gw_aload_n 117 d_X12_turns_116 rfl rfl ?_
    refine gw_getR 120 d_X12_turns_117 rfl F_12_82 sh_117 rfl ?_
    refine gw_iload 122 d_X12_turns_120 rfl rfl ?_
    refine gw_aload_n 123 d_X12_turns_122 rfl rfl ?_
    refine gw_getR 126 d_X12_turns_123 rfl F_12_82 sh_117 rfl ?_
    refine gw_iload 128 d_X12_turns_126 rfl rfl ?_
    refine gw_iaload 129 d_X12_turns_128 rfl sh_142 (h.2 c5).2.1 ?_
    refine gw_iastore 130 d_X12_turns_129 rfl sh_142 (h.2 c5).2.2.1 ?_
    refine gw_aload_n 131 d_X12_turns_130 rfl rfl ?_
    refine gw_getR 134 d_X12_turns_131 rfl F_12_82 sh_117 rfl ?_
    refine gw_iload 136 d_X12_turns_134 rfl rfl ?_
    refine gw_iload 138 d_X12_turns_136 rfl rfl ?_
    refine gw_iastore 139 d_X12_turns_138 rfl sh_142 (h.2 c5).2.2.2.1 ?_
    refine gw_iinc (ls' := [some (gR 117), some (gI x1), some (gI x2), some (gI x3), some (gI (m 142 x5)), some (gI (gw_w (x5 + 1))), some (gI x6)]) 142 d_X12_turns_139 rfl rfl rfl rfl rfl ?_
    refine gw_iinc (ls' := [some (gR 117), some (gI x1), some (gI x2), some (gI x3), some (gI (m 142 x5)), some (gI (gw_w (x5 + 1))), some (gI (gw_w (x6 + (-1))))]) 145 d_X12_turns_142 rfl rfl rfl rfl rfl ?_
    refine gw_goto 100 d_X12_turns_145 rfl ?_
    exact (h.2 c5).2.2.2.2
set_option maxRecDepth 100000 in
set_option maxHeartbeats 4000000 in
theorem r_X12_slots_0 {d : Nat} {QR : Option gw_SV → gw_Mem → Prop} {Γ : gw_Ga} (x1 : Int) (x2 : Int) (x3 : Int) (x4 : Int) (x5 : Int) (m : gw_Mem) (h : gw_CI d M_X12_isSheet [gI x1] m (fun v1 m2 => ((v1 = 0 → QR (some (gI (-1))) m2) ∧ (¬ (v1 = 0) → gw_CI d M_X12_isLane [gI x2] m2 (fun v4 m5 => ((v4 = 0 → QR (some (gI (-1))) m5) ∧ (¬ (v4 = 0) → gw_CI d M_X12_in [gL x4, gL 2, gL 6] m5 (fun v7 m8 => ((v7 = 0 → QR (some (gI (-1))) m8) ∧ (¬ (v7 = 0) → gw_CI d M_X12_in [gL x5, gL (-1), gL (gw_w (x4 - 1))] m8 (fun v10 m11 => ((v10 = 0 → QR (some (gI (-1))) m11) ∧ (¬ (v10 = 0) → gw_CI d M_X12_finds [gR 117, gI x1, gI x2, gI x3, gI (gw_w (2 * x4))] m11 (fun v13 m14 => ((0 ≤ v13 → gw_G M_X12_slots d QR Γ 80 [some (gR 117), some (gI x1), some (gI x2), some (gI x3), some (gI x4), some (gI x5), some (gI v13), some (gI (gw_w ((gw_w (24 * x1)) + x3))), some (gI 0), none, none, none, none, none, none] [] m14) ∧ (¬ (0 ≤ v13) → QR (some (gI v13)) m14)))))))))))))))) : gw_G M_X12_slots d QR Γ 0 [some (gR 117), some (gI x1), some (gI x2), some (gI x3), some (gI x4), some (gI x5), none, none, none, none, none, none, none, none, none] [] m := by
  refine gw_iload_n 1 d_X12_slots_0 rfl rfl ?_
  refine gw_cSI (a := [gI x1]) (rest := []) 4 d_X12_slots_1 rfl ml_12_320 v_X12_isSheet rfl rfl rfl h (fun v1 m2 h3 => ?_)
  refine gw_if_eq 46 7 d_X12_slots_4 rfl rfl (fun c25 => ?_) (fun c25 => ?_)
  · skip
    refine gw_iconst 47 d_X12_slots_46 rfl rfl ?_
    exact gw_ireturn d_X12_slots_47 (Or.inl rfl) (h3.1 c25)
  · skip
    refine gw_iload_n 8 d_X12_slots_7 rfl rfl ?_
    refine gw_cSI (a := [gI x2]) (rest := []) 11 d_X12_slots_8 rfl ml_12_323 v_X12_isLane rfl rfl rfl (h3.2 c25) (fun v4 m5 h6 => ?_)
    refine gw_if_eq 46 14 d_X12_slots_11 rfl rfl (fun c26 => ?_) (fun c26 => ?_)
    · skip
      refine gw_iconst 47 d_X12_slots_46 rfl rfl ?_
      exact gw_ireturn d_X12_slots_47 (Or.inl rfl) (h6.1 c26)
    · skip
      refine gw_iload 16 d_X12_slots_14 rfl rfl ?_
      refine gw_i2lR 17 d_X12_slots_16 rfl  ?_
      refine gw_ldc2 20 d_X12_slots_17 rfl ct_12_92 (n := 2) (gw_rb_inL (gw_rb_in rfl)) (by decide) ?_
      refine gw_ldc2 23 d_X12_slots_20 rfl ct_12_326 (n := 6) (gw_rb_inL (gw_rb_in rfl)) (by decide) ?_
      refine gw_cSI (a := [gL x4, gL 2, gL 6]) (rest := []) 26 d_X12_slots_23 rfl ml_12_98 v_X12_in rfl rfl rfl (h6.2 c26) (fun v7 m8 h9 => ?_)
      refine gw_if_eq 46 29 d_X12_slots_26 rfl rfl (fun c27 => ?_) (fun c27 => ?_)
      · skip
        refine gw_iconst 47 d_X12_slots_46 rfl rfl ?_
        exact gw_ireturn d_X12_slots_47 (Or.inl rfl) (h9.1 c27)
      · skip
        refine gw_iload 31 d_X12_slots_29 rfl rfl ?_
        refine gw_i2lR 32 d_X12_slots_31 rfl  ?_
        refine gw_ldc2 35 d_X12_slots_32 rfl ct_12_304 (n := (-1)) (gw_rb_inL (gw_rb_in rfl)) (by decide) ?_
        refine gw_iload 37 d_X12_slots_35 rfl rfl ?_
        refine gw_iconst 38 d_X12_slots_37 rfl rfl ?_
        refine gw_isub 39 d_X12_slots_38 rfl  ?_
        refine gw_i2lR 40 d_X12_slots_39 rfl  ?_
        refine gw_cSI (a := [gL x5, gL (-1), gL (gw_w (x4 - 1))]) (rest := []) 43 d_X12_slots_40 rfl ml_12_98 v_X12_in rfl rfl rfl (h9.2 c27) (fun v10 m11 h12 => ?_)
        refine gw_if_ne 48 46 d_X12_slots_43 rfl rfl (fun c28 => ?_) (fun c28 => ?_)
        · skip
          refine gw_iconst 47 d_X12_slots_46 rfl rfl ?_
          exact gw_ireturn d_X12_slots_47 (Or.inl rfl) (h12.1 c28)
        · skip
          refine gw_aload_n 49 d_X12_slots_48 rfl rfl ?_
          refine gw_iload_n 50 d_X12_slots_49 rfl rfl ?_
          refine gw_iload_n 51 d_X12_slots_50 rfl rfl ?_
          refine gw_iload_n 52 d_X12_slots_51 rfl rfl ?_
          refine gw_iconst 53 d_X12_slots_52 rfl rfl ?_
          refine gw_iload 55 d_X12_slots_53 rfl rfl ?_
          refine gw_imul 56 d_X12_slots_55 rfl  ?_
          refine gw_cVI (a := [gI x1, gI x2, gI x3, gI (gw_w (2 * x4))]) (rest := []) 59 d_X12_slots_56 rfl ml_12_328 v_X12_finds rfl sh_117 rfl rfl rfl (h12.2 c28) (fun v13 m14 h15 => ?_)
          refine gw_istore (ls' := [some (gR 117), some (gI x1), some (gI x2), some (gI x3), some (gI x4), some (gI x5), some (gI v13), none, none, none, none, none, none, none, none]) 61 d_X12_slots_59 rfl rfl rfl rfl ?_
          refine gw_iload 63 d_X12_slots_61 rfl rfl ?_
          refine gw_if_ge 69 66 d_X12_slots_63 rfl rfl (fun c29 => ?_) (fun c29 => ?_)
          · skip
            refine gw_bipush 71 d_X12_slots_69 rfl rfl (by decide) ?_
            refine gw_iload_n 72 d_X12_slots_71 rfl rfl ?_
            refine gw_imul 73 d_X12_slots_72 rfl  ?_
            refine gw_iload_n 74 d_X12_slots_73 rfl rfl ?_
            refine gw_iadd 75 d_X12_slots_74 rfl  ?_
            refine gw_istore (ls' := [some (gR 117), some (gI x1), some (gI x2), some (gI x3), some (gI x4), some (gI x5), some (gI v13), some (gI (gw_w ((gw_w (24 * x1)) + x3))), none, none, none, none, none, none, none]) 77 d_X12_slots_75 rfl rfl rfl rfl ?_
            refine gw_iconst 78 d_X12_slots_77 rfl rfl ?_
            refine gw_istore (ls' := [some (gR 117), some (gI x1), some (gI x2), some (gI x3), some (gI x4), some (gI x5), some (gI v13), some (gI (gw_w ((gw_w (24 * x1)) + x3))), some (gI 0), none, none, none, none, none, none]) 80 d_X12_slots_78 rfl rfl rfl rfl ?_
            exact (h15.1 c29)
          · skip
            refine gw_iload 68 d_X12_slots_66 rfl rfl ?_
            exact gw_ireturn d_X12_slots_68 (Or.inl rfl) (h15.2 c29)
set_option maxRecDepth 100000 in
set_option maxHeartbeats 4000000 in
theorem r_X12_slots_80 {d : Nat} {QR : Option gw_SV → gw_Mem → Prop} {Γ : gw_Ga} (x1 : Int) (x2 : Int) (x3 : Int) (x4 : Int) (x5 : Int) (x6 : Int) (x7 : Int) (x8 : Int) (y9 : Option gw_SV) (y10 : Option gw_SV) (y11 : Option gw_SV) (y12 : Option gw_SV) (y13 : Option gw_SV) (y14 : Option gw_SV) (m : gw_Mem) (h : ((x4 ≤ x8 → gw_G M_X12_slots d QR Γ 159 [some (gR 117), some (gI x1), some (gI x2), some (gI x3), some (gI x4), some (gI x5), some (gI x6), some (gI x7), some (gI (-1)), some (gI 1), y10, y11, y12, y13, y14] [] m) ∧ (¬ (x4 ≤ x8) → gw_in (gw_w (x7 + (gw_w (2 * x8)))) 96 ∧ gw_CI d M_X12_in [gL (m 140 (gw_w (x7 + (gw_w (2 * x8))))), gL 0, gL 999] m (fun v16 m17 => ((v16 = 0 → QR (some (gI (-2))) m17) ∧ (¬ (v16 = 0) → gw_in (gw_w ((gw_w (x7 + (gw_w (2 * x8)))) + 1)) 96 ∧ gw_CI d M_X12_in [gL (m17 140 (gw_w ((gw_w (x7 + (gw_w (2 * x8)))) + 1))), gL 1, gL 99] m17 (fun v19 m20 => ((v19 = 0 → QR (some (gI (-2))) m20) ∧ (¬ (v19 = 0) → gw_in x8 6 ∧ gw_G M_X12_slots d QR Γ 80 [some (gR 117), some (gI x1), some (gI x2), some (gI x3), some (gI x4), some (gI x5), some (gI x6), some (gI x7), some (gI (gw_w (x8 + 1))), y9, y10, y11, y12, y13, y14] [] (gw_up m20 142 x8 x8)))))))))) : gw_G M_X12_slots d QR Γ 80 [some (gR 117), some (gI x1), some (gI x2), some (gI x3), some (gI x4), some (gI x5), some (gI x6), some (gI x7), some (gI x8), y9, y10, y11, y12, y13, y14] [] m := by
  refine gw_iload 82 d_X12_slots_80 rfl rfl ?_
  refine gw_iload 84 d_X12_slots_82 rfl rfl ?_
  refine gw_icmp_ge 153 87 d_X12_slots_84 rfl rfl (fun c30 => ?_) (fun c30 => ?_)
  · skip
    refine gw_iconst 154 d_X12_slots_153 rfl rfl ?_
    refine gw_istore (ls' := [some (gR 117), some (gI x1), some (gI x2), some (gI x3), some (gI x4), some (gI x5), some (gI x6), some (gI x7), some (gI (-1)), y9, y10, y11, y12, y13, y14]) 156 d_X12_slots_154 rfl rfl rfl rfl ?_
    refine gw_iconst 157 d_X12_slots_156 rfl rfl ?_
    refine gw_istore (ls' := [some (gR 117), some (gI x1), some (gI x2), some (gI x3), some (gI x4), some (gI x5), some (gI x6), some (gI x7), some (gI (-1)), some (gI 1), y10, y11, y12, y13, y14]) 159 d_X12_slots_157 rfl rfl rfl rfl ?_
    exact (h.1 c30)
  · skip
    refine gw_aload_n 88 d_X12_slots_87 rfl rfl ?_
    refine gw_getR 91 d_X12_slots_88 rfl F_12_76 sh_117 rfl ?_
    refine gw_iload 93 d_X12_slots_91 rfl rfl ?_
    refine gw_iconst 94 d_X12_slots_93 rfl rfl ?_
    refine gw_iload 96 d_X12_slots_94 rfl rfl ?_
    refine gw_imul 97 d_X12_slots_96 rfl  ?_
    refine gw_iadd 98 d_X12_slots_97 rfl  ?_
    refine gw_iaload 99 d_X12_slots_98 rfl sh_140 (h.2 c30).1 ?_
    refine gw_i2lR 100 d_X12_slots_99 rfl  ?_
    refine gw_lconst 101 d_X12_slots_100 rfl (n := 0) rfl (by decide) ?_
    refine gw_ldc2 104 d_X12_slots_101 rfl ct_12_279 (n := 999) (gw_rb_inL (gw_rb_in rfl)) (by decide) ?_
    refine gw_cSI (a := [gL (m 140 (gw_w (x7 + (gw_w (2 * x8))))), gL 0, gL 999]) (rest := []) 107 d_X12_slots_104 rfl ml_12_98 v_X12_in rfl rfl rfl (h.2 c30).2 (fun v16 m17 h18 => ?_)
    refine gw_if_eq 135 110 d_X12_slots_107 rfl rfl (fun c31 => ?_) (fun c31 => ?_)
    · skip
      refine gw_bipush 137 d_X12_slots_135 rfl rfl (by decide) ?_
      exact gw_ireturn d_X12_slots_137 (Or.inl rfl) (h18.1 c31)
    · skip
      refine gw_aload_n 111 d_X12_slots_110 rfl rfl ?_
      refine gw_getR 114 d_X12_slots_111 rfl F_12_76 sh_117 rfl ?_
      refine gw_iload 116 d_X12_slots_114 rfl rfl ?_
      refine gw_iconst 117 d_X12_slots_116 rfl rfl ?_
      refine gw_iload 119 d_X12_slots_117 rfl rfl ?_
      refine gw_imul 120 d_X12_slots_119 rfl  ?_
      refine gw_iadd 121 d_X12_slots_120 rfl  ?_
      refine gw_iconst 122 d_X12_slots_121 rfl rfl ?_
      refine gw_iadd 123 d_X12_slots_122 rfl  ?_
      refine gw_iaload 124 d_X12_slots_123 rfl sh_140 (h18.2 c31).1 ?_
      refine gw_i2lR 125 d_X12_slots_124 rfl  ?_
      refine gw_lconst 126 d_X12_slots_125 rfl (n := 1) rfl (by decide) ?_
      refine gw_ldc2 129 d_X12_slots_126 rfl ct_12_104 (n := 99) (gw_rb_inL (gw_rb_in rfl)) (by decide) ?_
      refine gw_cSI (a := [gL (m17 140 (gw_w ((gw_w (x7 + (gw_w (2 * x8)))) + 1))), gL 1, gL 99]) (rest := []) 132 d_X12_slots_129 rfl ml_12_98 v_X12_in rfl rfl rfl (h18.2 c31).2 (fun v19 m20 h21 => ?_)
      refine gw_if_ne 138 135 d_X12_slots_132 rfl rfl (fun c32 => ?_) (fun c32 => ?_)
      · skip
        refine gw_bipush 137 d_X12_slots_135 rfl rfl (by decide) ?_
        exact gw_ireturn d_X12_slots_137 (Or.inl rfl) (h21.1 c32)
      · skip
        refine gw_aload_n 139 d_X12_slots_138 rfl rfl ?_
        refine gw_getR 142 d_X12_slots_139 rfl F_12_82 sh_117 rfl ?_
        refine gw_iload 144 d_X12_slots_142 rfl rfl ?_
        refine gw_iload 146 d_X12_slots_144 rfl rfl ?_
        refine gw_iastore 147 d_X12_slots_146 rfl sh_142 (h21.2 c32).1 ?_
        refine gw_iinc (ls' := [some (gR 117), some (gI x1), some (gI x2), some (gI x3), some (gI x4), some (gI x5), some (gI x6), some (gI x7), some (gI (gw_w (x8 + 1))), y9, y10, y11, y12, y13, y14]) 150 d_X12_slots_147 rfl rfl rfl rfl rfl ?_
        refine gw_goto 80 d_X12_slots_150 rfl ?_
        exact (h21.2 c32).2
set_option maxRecDepth 100000 in
set_option maxHeartbeats 4000000 in
theorem r_X12_slots_159 {d : Nat} {QR : Option gw_SV → gw_Mem → Prop} {Γ : gw_Ga} (x1 : Int) (x2 : Int) (x3 : Int) (x4 : Int) (x5 : Int) (x6 : Int) (x7 : Int) (x8 : Int) (x9 : Int) (y10 : Option gw_SV) (y11 : Option gw_SV) (y12 : Option gw_SV) (y13 : Option gw_SV) (y14 : Option gw_SV) (m : gw_Mem) (h : ((x9 = 0 → (0 ≤ x5 → gw_in x5 6) ∧ QR (some (gI (if 0 ≤ x5 then m 143 x5 else x8))) m) ∧ (¬ (x9 = 0) → gw_G M_X12_slots d QR Γ 173 [some (gR 117), some (gI x1), some (gI x2), some (gI x3), some (gI x4), some (gI x5), some (gI x6), some (gI x7), some (gI x8), some (gI x9), some (gI 0), some (gI 0), some (gI 0), y13, y14] [] m))) : gw_G M_X12_slots d QR Γ 159 [some (gR 117), some (gI x1), some (gI x2), some (gI x3), some (gI x4), some (gI x5), some (gI x6), some (gI x7), some (gI x8), some (gI x9), y10, y11, y12, y13, y14] [] m := by
  refine gw_iload 161 d_X12_slots_159 rfl rfl ?_
  refine gw_if_eq 334 164 d_X12_slots_161 rfl rfl (fun c33 => ?_) (fun c33 => ?_)
  · skip
    refine gw_iload 336 d_X12_slots_334 rfl rfl ?_
    have j34 : gw_G M_X12_slots d QR Γ 351 [some (gR 117), some (gI x1), some (gI x2), some (gI x3), some (gI x4), some (gI x5), some (gI x6), some (gI x7), some (gI x8), some (gI x9), y10, y11, y12, y13, y14] [gI (if 0 ≤ x5 then m 143 x5 else x8)] m := by
      exact gw_ireturn d_X12_slots_351 (Or.inl rfl) (h.1 c33).2
    refine gw_if_ge 344 339 d_X12_slots_336 rfl rfl (fun c35 => ?_) (fun c35 => ?_)
    · skip
      refine gw_aload_n 345 d_X12_slots_344 rfl rfl ?_
      refine gw_getR 348 d_X12_slots_345 rfl F_12_85 sh_117 rfl ?_
      refine gw_iload 350 d_X12_slots_348 rfl rfl ?_
      refine gw_iaload 351 d_X12_slots_350 rfl sh_143 ((h.1 c33).1 c35) ?_
      simpa only [if_pos c35] using j34
    · skip
      refine gw_iload 341 d_X12_slots_339 rfl rfl ?_
      refine gw_goto 351 d_X12_slots_341 rfl ?_
      simpa only [if_neg c35] using j34
  · skip
    refine gw_iconst 165 d_X12_slots_164 rfl rfl ?_
    refine gw_istore (ls' := [some (gR 117), some (gI x1), some (gI x2), some (gI x3), some (gI x4), some (gI x5), some (gI x6), some (gI x7), some (gI x8), some (gI x9), some (gI 0), y11, y12, y13, y14]) 167 d_X12_slots_165 rfl rfl rfl rfl ?_
    refine gw_iconst 168 d_X12_slots_167 rfl rfl ?_
    refine gw_istore (ls' := [some (gR 117), some (gI x1), some (gI x2), some (gI x3), some (gI x4), some (gI x5), some (gI x6), some (gI x7), some (gI x8), some (gI x9), some (gI 0), some (gI 0), y12, y13, y14]) 170 d_X12_slots_168 rfl rfl rfl rfl ?_
    refine gw_iconst 171 d_X12_slots_170 rfl rfl ?_
    refine gw_istore (ls' := [some (gR 117), some (gI x1), some (gI x2), some (gI x3), some (gI x4), some (gI x5), some (gI x6), some (gI x7), some (gI x8), some (gI x9), some (gI 0), some (gI 0), some (gI 0), y13, y14]) 173 d_X12_slots_171 rfl rfl rfl rfl ?_
    exact (h.2 c33)
set_option maxRecDepth 100000 in
set_option maxHeartbeats 4000000 in
theorem r_X12_slots_173 {d : Nat} {QR : Option gw_SV → gw_Mem → Prop} {Γ : gw_Ga} (x1 : Int) (x2 : Int) (x3 : Int) (x4 : Int) (x5 : Int) (x6 : Int) (x7 : Int) (x8 : Int) (x9 : Int) (x10 : Int) (x11 : Int) (x12 : Int) (y13 : Option gw_SV) (y14 : Option gw_SV) (m : gw_Mem) (h : ((x4 ≤ x12 → gw_G M_X12_slots d QR Γ 277 [some (gR 117), some (gI x1), some (gI x2), some (gI x3), some (gI x4), some (gI x5), some (gI x6), some (gI x7), some (gI x8), some (gI x9), some (gI x10), some (gI x11), some (gI (if x8 < 0 then (1 : Int) else (if x8 ≤ x11 then (0 : Int) else (1 : Int)))), some (gI 0), y14] [] m) ∧ (¬ (x4 ≤ x12) → gw_in x12 6 ∧ gw_in (gw_w (x7 + (gw_w (2 * (m 142 x12))))) 96 ∧ gw_in x12 6 ∧ gw_in (gw_w ((gw_w (x7 + (gw_w (2 * (m 142 x12))))) + 1)) 96 ∧ gw_G M_X12_slots d QR Γ 173 [some (gR 117), some (gI x1), some (gI x2), some (gI x3), some (gI x4), some (gI x5), some (gI x6), some (gI x7), some (gI x8), some (gI x9), some (gI (gw_w ((if m 140 (gw_w (x7 + (gw_w (2 * (m 142 x12))))) ≤ x10 then x10 else m 140 (gw_w (x7 + (gw_w (2 * (m 142 x12)))))) + (m 140 (gw_w ((gw_w (x7 + (gw_w (2 * (m 142 x12))))) + 1)))))), some (gI (gw_w (x11 + (gw_w ((if m 140 (gw_w (x7 + (gw_w (2 * (m 142 x12))))) ≤ x10 then x10 else m 140 (gw_w (x7 + (gw_w (2 * (m 142 x12)))))) - (m 140 (gw_w (x7 + (gw_w (2 * (m 142 x12))))))))))), some (gI (gw_w (x12 + 1))), some (gI (m 140 (gw_w (x7 + (gw_w (2 * (m 142 x12))))))), some (gI (if m 140 (gw_w (x7 + (gw_w (2 * (m 142 x12))))) ≤ x10 then x10 else m 140 (gw_w (x7 + (gw_w (2 * (m 142 x12)))))))] [] m))) : gw_G M_X12_slots d QR Γ 173 [some (gR 117), some (gI x1), some (gI x2), some (gI x3), some (gI x4), some (gI x5), some (gI x6), some (gI x7), some (gI x8), some (gI x9), some (gI x10), some (gI x11), some (gI x12), y13, y14] [] m := by
  refine gw_iload 175 d_X12_slots_173 rfl rfl ?_
  refine gw_iload 177 d_X12_slots_175 rfl rfl ?_
  refine gw_icmp_ge 255 180 d_X12_slots_177 rfl rfl (fun c36 => ?_) (fun c36 => ?_)
  · skip
    refine gw_iload 257 d_X12_slots_255 rfl rfl ?_
    have j37 : gw_G M_X12_slots d QR Γ 272 [some (gR 117), some (gI x1), some (gI x2), some (gI x3), some (gI x4), some (gI x5), some (gI x6), some (gI x7), some (gI x8), some (gI x9), some (gI x10), some (gI x11), some (gI x12), y13, y14] [gI (if x8 < 0 then (1 : Int) else (if x8 ≤ x11 then (0 : Int) else (1 : Int)))] m := by
      refine gw_istore (ls' := [some (gR 117), some (gI x1), some (gI x2), some (gI x3), some (gI x4), some (gI x5), some (gI x6), some (gI x7), some (gI x8), some (gI x9), some (gI x10), some (gI x11), some (gI (if x8 < 0 then (1 : Int) else (if x8 ≤ x11 then (0 : Int) else (1 : Int)))), y13, y14]) 274 d_X12_slots_272 rfl rfl rfl rfl ?_
      refine gw_iconst 275 d_X12_slots_274 rfl rfl ?_
      refine gw_istore (ls' := [some (gR 117), some (gI x1), some (gI x2), some (gI x3), some (gI x4), some (gI x5), some (gI x6), some (gI x7), some (gI x8), some (gI x9), some (gI x10), some (gI x11), some (gI (if x8 < 0 then (1 : Int) else (if x8 ≤ x11 then (0 : Int) else (1 : Int)))), some (gI 0), y14]) 277 d_X12_slots_275 rfl rfl rfl rfl ?_
      exact (h.1 c36)
    refine gw_if_lt 267 260 d_X12_slots_257 rfl rfl (fun c38 => ?_) (fun c38 => ?_)
    · skip
      refine gw_iconst 268 d_X12_slots_267 rfl rfl ?_
      refine gw_goto 272 d_X12_slots_268 rfl ?_
      simpa only [if_pos c38] using j37
    · skip
      refine gw_iload 262 d_X12_slots_260 rfl rfl ?_
      refine gw_iload 264 d_X12_slots_262 rfl rfl ?_
      refine gw_icmp_ge 271 267 d_X12_slots_264 rfl rfl (fun c39 => ?_) (fun c39 => ?_)
      · skip
        refine gw_iconst 272 d_X12_slots_271 rfl rfl ?_
        simpa only [if_neg c38, if_pos c39] using j37
      · skip
        refine gw_iconst 268 d_X12_slots_267 rfl rfl ?_
        refine gw_goto 272 d_X12_slots_268 rfl ?_
        simpa only [if_neg c38, if_neg c39] using j37
  · skip
    refine gw_aload_n 181 d_X12_slots_180 rfl rfl ?_
    refine gw_getR 184 d_X12_slots_181 rfl F_12_76 sh_117 rfl ?_
    refine gw_iload 186 d_X12_slots_184 rfl rfl ?_
    refine gw_iconst 187 d_X12_slots_186 rfl rfl ?_
    refine gw_aload_n 188 d_X12_slots_187 rfl rfl ?_
    refine gw_getR 191 d_X12_slots_188 rfl F_12_82 sh_117 rfl ?_
    refine gw_iload 193 d_X12_slots_191 rfl rfl ?_
    refine gw_iaload 194 d_X12_slots_193 rfl sh_142 (h.2 c36).1 ?_
    refine gw_imul 195 d_X12_slots_194 rfl  ?_
    refine gw_iadd 196 d_X12_slots_195 rfl  ?_
    refine gw_iaload 197 d_X12_slots_196 rfl sh_140 (h.2 c36).2.1 ?_
    refine gw_istore (ls' := [some (gR 117), some (gI x1), some (gI x2), some (gI x3), some (gI x4), some (gI x5), some (gI x6), some (gI x7), some (gI x8), some (gI x9), some (gI x10), some (gI x11), some (gI x12), some (gI (m 140 (gw_w (x7 + (gw_w (2 * (m 142 x12))))))), y14]) 199 d_X12_slots_197 rfl rfl rfl rfl ?_
    refine gw_iload 201 d_X12_slots_199 rfl rfl ?_
    refine gw_iload 203 d_X12_slots_201 rfl rfl ?_
    have j40 : gw_G M_X12_slots d QR Γ 213 [some (gR 117), some (gI x1), some (gI x2), some (gI x3), some (gI x4), some (gI x5), some (gI x6), some (gI x7), some (gI x8), some (gI x9), some (gI x10), some (gI x11), some (gI x12), some (gI (m 140 (gw_w (x7 + (gw_w (2 * (m 142 x12))))))), y14] [gI (if m 140 (gw_w (x7 + (gw_w (2 * (m 142 x12))))) ≤ x10 then x10 else m 140 (gw_w (x7 + (gw_w (2 * (m 142 x12))))))] m := by
      refine gw_istore (ls' := [some (gR 117), some (gI x1), some (gI x2), some (gI x3), some (gI x4), some (gI x5), some (gI x6), some (gI x7), some (gI x8), some (gI x9), some (gI x10), some (gI x11), some (gI x12), some (gI (m 140 (gw_w (x7 + (gw_w (2 * (m 142 x12))))))), some (gI (if m 140 (gw_w (x7 + (gw_w (2 * (m 142 x12))))) ≤ x10 then x10 else m 140 (gw_w (x7 + (gw_w (2 * (m 142 x12)))))))]) 215 d_X12_slots_213 rfl rfl rfl rfl ?_
      refine gw_iload 217 d_X12_slots_215 rfl rfl ?_
      refine gw_iload 219 d_X12_slots_217 rfl rfl ?_
      refine gw_iload 221 d_X12_slots_219 rfl rfl ?_
      refine gw_isub 222 d_X12_slots_221 rfl  ?_
      refine gw_iadd 223 d_X12_slots_222 rfl  ?_
      refine gw_istore (ls' := [some (gR 117), some (gI x1), some (gI x2), some (gI x3), some (gI x4), some (gI x5), some (gI x6), some (gI x7), some (gI x8), some (gI x9), some (gI x10), some (gI (gw_w (x11 + (gw_w ((if m 140 (gw_w (x7 + (gw_w (2 * (m 142 x12))))) ≤ x10 then x10 else m 140 (gw_w (x7 + (gw_w (2 * (m 142 x12)))))) - (m 140 (gw_w (x7 + (gw_w (2 * (m 142 x12))))))))))), some (gI x12), some (gI (m 140 (gw_w (x7 + (gw_w (2 * (m 142 x12))))))), some (gI (if m 140 (gw_w (x7 + (gw_w (2 * (m 142 x12))))) ≤ x10 then x10 else m 140 (gw_w (x7 + (gw_w (2 * (m 142 x12)))))))]) 225 d_X12_slots_223 rfl rfl rfl rfl ?_
      refine gw_iload 227 d_X12_slots_225 rfl rfl ?_
      refine gw_aload_n 228 d_X12_slots_227 rfl rfl ?_
      refine gw_getR 231 d_X12_slots_228 rfl F_12_76 sh_117 rfl ?_
      refine gw_iload 233 d_X12_slots_231 rfl rfl ?_
      refine gw_iconst 234 d_X12_slots_233 rfl rfl ?_
      refine gw_aload_n 235 d_X12_slots_234 rfl rfl ?_
      refine gw_getR 238 d_X12_slots_235 rfl F_12_82 sh_117 rfl ?_
      refine gw_iload 240 d_X12_slots_238 rfl rfl ?_
      refine gw_iaload 241 d_X12_slots_240 rfl sh_142 (h.2 c36).2.2.1 ?_
      refine gw_imul 242 d_X12_slots_241 rfl  ?_
      refine gw_iadd 243 d_X12_slots_242 rfl  ?_
      refine gw_iconst 244 d_X12_slots_243 rfl rfl ?_
      refine gw_iadd 245 d_X12_slots_244 rfl  ?_
      refine gw_iaload 246 d_X12_slots_245 rfl sh_140 (h.2 c36).2.2.2.1 ?_
      refine gw_iadd 247 d_X12_slots_246 rfl  ?_
      refine gw_istore (ls' := [some (gR 117), some (gI x1), some (gI x2), some (gI x3), some (gI x4), some (gI x5), some (gI x6), some (gI x7), some (gI x8), some (gI x9), some (gI (gw_w ((if m 140 (gw_w (x7 + (gw_w (2 * (m 142 x12))))) ≤ x10 then x10 else m 140 (gw_w (x7 + (gw_w (2 * (m 142 x12)))))) + (m 140 (gw_w ((gw_w (x7 + (gw_w (2 * (m 142 x12))))) + 1)))))), some (gI (gw_w (x11 + (gw_w ((if m 140 (gw_w (x7 + (gw_w (2 * (m 142 x12))))) ≤ x10 then x10 else m 140 (gw_w (x7 + (gw_w (2 * (m 142 x12)))))) - (m 140 (gw_w (x7 + (gw_w (2 * (m 142 x12))))))))))), some (gI x12), some (gI (m 140 (gw_w (x7 + (gw_w (2 * (m 142 x12))))))), some (gI (if m 140 (gw_w (x7 + (gw_w (2 * (m 142 x12))))) ≤ x10 then x10 else m 140 (gw_w (x7 + (gw_w (2 * (m 142 x12)))))))]) 249 d_X12_slots_247 rfl rfl rfl rfl ?_
      refine gw_iinc (ls' := [some (gR 117), some (gI x1), some (gI x2), some (gI x3), some (gI x4), some (gI x5), some (gI x6), some (gI x7), some (gI x8), some (gI x9), some (gI (gw_w ((if m 140 (gw_w (x7 + (gw_w (2 * (m 142 x12))))) ≤ x10 then x10 else m 140 (gw_w (x7 + (gw_w (2 * (m 142 x12)))))) + (m 140 (gw_w ((gw_w (x7 + (gw_w (2 * (m 142 x12))))) + 1)))))), some (gI (gw_w (x11 + (gw_w ((if m 140 (gw_w (x7 + (gw_w (2 * (m 142 x12))))) ≤ x10 then x10 else m 140 (gw_w (x7 + (gw_w (2 * (m 142 x12)))))) - (m 140 (gw_w (x7 + (gw_w (2 * (m 142 x12))))))))))), some (gI (gw_w (x12 + 1))), some (gI (m 140 (gw_w (x7 + (gw_w (2 * (m 142 x12))))))), some (gI (if m 140 (gw_w (x7 + (gw_w (2 * (m 142 x12))))) ≤ x10 then x10 else m 140 (gw_w (x7 + (gw_w (2 * (m 142 x12)))))))]) 252 d_X12_slots_249 rfl rfl rfl rfl rfl ?_
      refine gw_goto 173 d_X12_slots_252 rfl ?_
      exact (h.2 c36).2.2.2.2
    refine gw_icmp_le 211 206 d_X12_slots_203 rfl rfl (fun c41 => ?_) (fun c41 => ?_)
    · skip
      refine gw_iload 213 d_X12_slots_211 rfl rfl ?_
      simpa only [if_pos c41] using j40
    · skip
      refine gw_iload 208 d_X12_slots_206 rfl rfl ?_
      refine gw_goto 213 d_X12_slots_208 rfl ?_
      simpa only [if_neg c41] using j40
set_option maxRecDepth 100000 in
set_option maxHeartbeats 4000000 in
theorem r_X12_slots_277 {d : Nat} {QR : Option gw_SV → gw_Mem → Prop} {Γ : gw_Ga} (x1 : Int) (x2 : Int) (x3 : Int) (x4 : Int) (x5 : Int) (x6 : Int) (x7 : Int) (x8 : Int) (x9 : Int) (x10 : Int) (x11 : Int) (x12 : Int) (x13 : Int) (y14 : Option gw_SV) (m : gw_Mem) (h : ((x4 ≤ x13 → gw_G M_X12_slots d QR Γ 309 [some (gR 117), some (gI x1), some (gI x2), some (gI x3), some (gI x4), some (gI x5), some (gI x6), some (gI x7), some (gI x8), some (gI x9), some (gI x10), some (gI x11), some (gI x12), some (gI x13), y14] [] m) ∧ (¬ (x4 ≤ x13) → ((x12 = 0 → gw_G M_X12_slots d QR Γ 309 [some (gR 117), some (gI x1), some (gI x2), some (gI x3), some (gI x4), some (gI x5), some (gI x6), some (gI x7), some (gI x8), some (gI x9), some (gI x10), some (gI x11), some (gI x12), some (gI x13), y14] [] m) ∧ (¬ (x12 = 0) → gw_in x13 6 ∧ gw_in x13 6 ∧ gw_G M_X12_slots d QR Γ 277 [some (gR 117), some (gI x1), some (gI x2), some (gI x3), some (gI x4), some (gI x5), some (gI x6), some (gI x7), some (gI x8), some (gI x9), some (gI x10), some (gI x11), some (gI x12), some (gI (gw_w (x13 + 1))), y14] [] (gw_up m 143 x13 (m 142 x13))))))) : gw_G M_X12_slots d QR Γ 277 [some (gR 117), some (gI x1), some (gI x2), some (gI x3), some (gI x4), some (gI x5), some (gI x6), some (gI x7), some (gI x8), some (gI x9), some (gI x10), some (gI x11), some (gI x12), some (gI x13), y14] [] m := by
  refine gw_iload 279 d_X12_slots_277 rfl rfl ?_
  refine gw_iload 281 d_X12_slots_279 rfl rfl ?_
  refine gw_icmp_ge 309 284 d_X12_slots_281 rfl rfl (fun c42 => ?_) (fun c42 => ?_)
  · skip
    exact (h.1 c42)
  · skip
    refine gw_iload 286 d_X12_slots_284 rfl rfl ?_
    refine gw_if_eq 309 289 d_X12_slots_286 rfl rfl (fun c43 => ?_) (fun c43 => ?_)
    · skip
      exact ((h.2 c42).1 c43)
    · skip
      refine gw_aload_n 290 d_X12_slots_289 rfl rfl ?_
      refine gw_getR 293 d_X12_slots_290 rfl F_12_85 sh_117 rfl ?_
      refine gw_iload 295 d_X12_slots_293 rfl rfl ?_
      refine gw_aload_n 296 d_X12_slots_295 rfl rfl ?_
      refine gw_getR 299 d_X12_slots_296 rfl F_12_82 sh_117 rfl ?_
      refine gw_iload 301 d_X12_slots_299 rfl rfl ?_
      refine gw_iaload 302 d_X12_slots_301 rfl sh_142 ((h.2 c42).2 c43).1 ?_
      refine gw_iastore 303 d_X12_slots_302 rfl sh_143 ((h.2 c42).2 c43).2.1 ?_
      refine gw_iinc (ls' := [some (gR 117), some (gI x1), some (gI x2), some (gI x3), some (gI x4), some (gI x5), some (gI x6), some (gI x7), some (gI x8), some (gI x9), some (gI x10), some (gI x11), some (gI x12), some (gI (gw_w (x13 + 1))), y14]) 306 d_X12_slots_303 rfl rfl rfl rfl rfl ?_
      refine gw_goto 277 d_X12_slots_306 rfl ?_
      exact ((h.2 c42).2 c43).2.2
set_option maxRecDepth 100000 in
set_option maxHeartbeats 4000000 in
theorem r_X12_slots_309 {d : Nat} {QR : Option gw_SV → gw_Mem → Prop} {Γ : gw_Ga} (x1 : Int) (x2 : Int) (x3 : Int) (x4 : Int) (x5 : Int) (x6 : Int) (x7 : Int) (x8 : Int) (x9 : Int) (x10 : Int) (x11 : Int) (x12 : Int) (x13 : Int) (y14 : Option gw_SV) (m : gw_Mem) (h : gw_CI d M_X12_turns [gR 117, gI x4] m (fun v22 m23 => gw_G M_X12_slots d QR Γ 159 [some (gR 117), some (gI x1), some (gI x2), some (gI x3), some (gI x4), some (gI x5), some (gI x6), some (gI x7), some (gI (if x12 = 0 then x8 else x11)), some (gI v22), some (gI x10), some (gI x11), some (gI x12), some (gI x13), y14] [] m23)) : gw_G M_X12_slots d QR Γ 309 [some (gR 117), some (gI x1), some (gI x2), some (gI x3), some (gI x4), some (gI x5), some (gI x6), some (gI x7), some (gI x8), some (gI x9), some (gI x10), some (gI x11), some (gI x12), some (gI x13), y14] [] m := by
  refine gw_iload 311 d_X12_slots_309 rfl rfl ?_
  have j44 : gw_G M_X12_slots d QR Γ 321 [some (gR 117), some (gI x1), some (gI x2), some (gI x3), some (gI x4), some (gI x5), some (gI x6), some (gI x7), some (gI x8), some (gI x9), some (gI x10), some (gI x11), some (gI x12), some (gI x13), y14] [gI (if x12 = 0 then x8 else x11)] m := by
    refine gw_istore (ls' := [some (gR 117), some (gI x1), some (gI x2), some (gI x3), some (gI x4), some (gI x5), some (gI x6), some (gI x7), some (gI (if x12 = 0 then x8 else x11)), some (gI x9), some (gI x10), some (gI x11), some (gI x12), some (gI x13), y14]) 323 d_X12_slots_321 rfl rfl rfl rfl ?_
    refine gw_aload_n 324 d_X12_slots_323 rfl rfl ?_
    refine gw_iload 326 d_X12_slots_324 rfl rfl ?_
    refine gw_cVI (a := [gI x4]) (rest := []) 329 d_X12_slots_326 rfl ml_12_331 v_X12_turns rfl sh_117 rfl rfl rfl h (fun v22 m23 h24 => ?_)
    refine gw_istore (ls' := [some (gR 117), some (gI x1), some (gI x2), some (gI x3), some (gI x4), some (gI x5), some (gI x6), some (gI x7), some (gI (if x12 = 0 then x8 else x11)), some (gI v22), some (gI x10), some (gI x11), some (gI x12), some (gI x13), y14]) 331 d_X12_slots_329 rfl rfl rfl rfl ?_
    refine gw_goto 159 d_X12_slots_331 rfl ?_
    exact h24
  refine gw_if_eq 319 314 d_X12_slots_311 rfl rfl (fun c45 => ?_) (fun c45 => ?_)
  · skip
    refine gw_iload 321 d_X12_slots_319 rfl rfl ?_
    simpa only [if_pos c45] using j44
  · skip
    refine gw_iload 316 d_X12_slots_314 rfl rfl ?_
    refine gw_goto 321 d_X12_slots_316 rfl ?_
    simpa only [if_neg c45] using j44
set_option maxRecDepth 100000 in
set_option maxHeartbeats 4000000 in
theorem r_X12_sheet_0 {d : Nat} {QR : Option gw_SV → gw_Mem → Prop} {Γ : gw_Ga} (x1 : Int) (x2 : Int) (x3 : Int) (m : gw_Mem) (h : gw_CI d M_X12_isSheet [gI x1] m (fun v1 m2 => ((v1 = 0 → QR (some (gI (-1))) m2) ∧ (¬ (v1 = 0) → gw_CI d M_X12_isLane [gI x2] m2 (fun v4 m5 => ((v4 = 0 → QR (some (gI (-1))) m5) ∧ (¬ (v4 = 0) → ((x3 ≤ 24 → ((0 ≤ x3 → gw_in x1 4 ∧ gw_in x1 4 ∧ gw_G M_X12_sheet d QR Γ 46 [some (gR 117), some (gI x1), some (gI x2), some (gI x3), some (gI 0)] [] (gw_up (gw_up m5 138 x1 x2) 139 x1 x3)) ∧ (¬ (0 ≤ x3) → QR (some (gI (-14))) m5))) ∧ (¬ (x3 ≤ 24) → QR (some (gI (-1))) m5))))))))) : gw_G M_X12_sheet d QR Γ 0 [some (gR 117), some (gI x1), some (gI x2), some (gI x3), none] [] m := by
  refine gw_iload_n 1 d_X12_sheet_0 rfl rfl ?_
  refine gw_cSI (a := [gI x1]) (rest := []) 4 d_X12_sheet_1 rfl ml_12_320 v_X12_isSheet rfl rfl rfl h (fun v1 m2 h3 => ?_)
  refine gw_if_eq 20 7 d_X12_sheet_4 rfl rfl (fun c7 => ?_) (fun c7 => ?_)
  · skip
    refine gw_iconst 21 d_X12_sheet_20 rfl rfl ?_
    exact gw_ireturn d_X12_sheet_21 (Or.inl rfl) (h3.1 c7)
  · skip
    refine gw_iload_n 8 d_X12_sheet_7 rfl rfl ?_
    refine gw_cSI (a := [gI x2]) (rest := []) 11 d_X12_sheet_8 rfl ml_12_323 v_X12_isLane rfl rfl rfl (h3.2 c7) (fun v4 m5 h6 => ?_)
    refine gw_if_eq 20 14 d_X12_sheet_11 rfl rfl (fun c8 => ?_) (fun c8 => ?_)
    · skip
      refine gw_iconst 21 d_X12_sheet_20 rfl rfl ?_
      exact gw_ireturn d_X12_sheet_21 (Or.inl rfl) (h6.1 c8)
    · skip
      refine gw_iload_n 15 d_X12_sheet_14 rfl rfl ?_
      refine gw_bipush 17 d_X12_sheet_15 rfl rfl (by decide) ?_
      refine gw_icmp_le 22 20 d_X12_sheet_17 rfl rfl (fun c9 => ?_) (fun c9 => ?_)
      · skip
        refine gw_iload_n 23 d_X12_sheet_22 rfl rfl ?_
        refine gw_if_ge 29 26 d_X12_sheet_23 rfl rfl (fun c10 => ?_) (fun c10 => ?_)
        · skip
          refine gw_aload_n 30 d_X12_sheet_29 rfl rfl ?_
          refine gw_getR 33 d_X12_sheet_30 rfl F_12_70 sh_117 rfl ?_
          refine gw_iload_n 34 d_X12_sheet_33 rfl rfl ?_
          refine gw_iload_n 35 d_X12_sheet_34 rfl rfl ?_
          refine gw_iastore 36 d_X12_sheet_35 rfl sh_138 (((h6.2 c8).1 c9).1 c10).1 ?_
          refine gw_aload_n 37 d_X12_sheet_36 rfl rfl ?_
          refine gw_getR 40 d_X12_sheet_37 rfl F_12_73 sh_117 rfl ?_
          refine gw_iload_n 41 d_X12_sheet_40 rfl rfl ?_
          refine gw_iload_n 42 d_X12_sheet_41 rfl rfl ?_
          refine gw_iastore 43 d_X12_sheet_42 rfl sh_139 (((h6.2 c8).1 c9).1 c10).2.1 ?_
          refine gw_iconst 44 d_X12_sheet_43 rfl rfl ?_
          refine gw_istore (ls' := [some (gR 117), some (gI x1), some (gI x2), some (gI x3), some (gI 0)]) 46 d_X12_sheet_44 rfl rfl rfl rfl ?_
          exact (((h6.2 c8).1 c9).1 c10).2.2
        · skip
          refine gw_bipush 28 d_X12_sheet_26 rfl rfl (by decide) ?_
          exact gw_ireturn d_X12_sheet_28 (Or.inl rfl) (((h6.2 c8).1 c9).2 c10)
      · skip
        refine gw_iconst 21 d_X12_sheet_20 rfl rfl ?_
        exact gw_ireturn d_X12_sheet_21 (Or.inl rfl) ((h6.2 c8).2 c9)
set_option maxRecDepth 100000 in
set_option maxHeartbeats 4000000 in
theorem r_X12_sheet_46 {d : Nat} {QR : Option gw_SV → gw_Mem → Prop} {Γ : gw_Ga} (x1 : Int) (x2 : Int) (x3 : Int) (x4 : Int) (m : gw_Mem) (h : ((24 ≤ x4 → QR (some (gI x3)) m) ∧ (¬ (24 ≤ x4) → gw_in (gw_w ((gw_w (24 * x1)) + x4)) 96 ∧ gw_G M_X12_sheet d QR Γ 46 [some (gR 117), some (gI x1), some (gI x2), some (gI x3), some (gI (gw_w (x4 + 1)))] [] (gw_up m 140 (gw_w ((gw_w (24 * x1)) + x4)) 0)))) : gw_G M_X12_sheet d QR Γ 46 [some (gR 117), some (gI x1), some (gI x2), some (gI x3), some (gI x4)] [] m := by
  refine gw_iload 48 d_X12_sheet_46 rfl rfl ?_
  refine gw_bipush 50 d_X12_sheet_48 rfl rfl (by decide) ?_
  refine gw_icmp_ge 72 53 d_X12_sheet_50 rfl rfl (fun c11 => ?_) (fun c11 => ?_)
  · skip
    refine gw_iload_n 73 d_X12_sheet_72 rfl rfl ?_
    exact gw_ireturn d_X12_sheet_73 (Or.inl rfl) (h.1 c11)
  · skip
    refine gw_aload_n 54 d_X12_sheet_53 rfl rfl ?_
    refine gw_getR 57 d_X12_sheet_54 rfl F_12_76 sh_117 rfl ?_
    refine gw_bipush 59 d_X12_sheet_57 rfl rfl (by decide) ?_
    refine gw_iload_n 60 d_X12_sheet_59 rfl rfl ?_
    refine gw_imul 61 d_X12_sheet_60 rfl  ?_
    refine gw_iload 63 d_X12_sheet_61 rfl rfl ?_
    refine gw_iadd 64 d_X12_sheet_63 rfl  ?_
    refine gw_iconst 65 d_X12_sheet_64 rfl rfl ?_
    refine gw_iastore 66 d_X12_sheet_65 rfl sh_140 (h.2 c11).1 ?_
    refine gw_iinc (ls' := [some (gR 117), some (gI x1), some (gI x2), some (gI x3), some (gI (gw_w (x4 + 1)))]) 69 d_X12_sheet_66 rfl rfl rfl rfl rfl ?_
    refine gw_goto 46 d_X12_sheet_69 rfl ?_
    exact (h.2 c11).2
set_option maxRecDepth 100000 in
set_option maxHeartbeats 4000000 in
theorem r_X12_drop_0 {d : Nat} {QR : Option gw_SV → gw_Mem → Prop} {Γ : gw_Ga} (x1 : Int) (m : gw_Mem) (h : gw_CI d M_X12_isSheet [gI x1] m (fun v1 m2 => ((v1 = 0 → QR (some (gI (-1))) m2) ∧ (¬ (v1 = 0) → gw_in x1 4 ∧ ((0 ≤ m2 138 x1 → gw_in x1 4 ∧ gw_in x1 4 ∧ QR (some (gI ((gw_up m2 138 x1 (-1)) 139 x1))) (gw_up m2 138 x1 (-1))) ∧ (¬ (0 ≤ m2 138 x1) → QR (some (gI (-11))) m2)))))) : gw_G M_X12_drop d QR Γ 0 [some (gR 117), some (gI x1)] [] m := by
  refine gw_iload_n 1 d_X12_drop_0 rfl rfl ?_
  refine gw_cSI (a := [gI x1]) (rest := []) 4 d_X12_drop_1 rfl ml_12_320 v_X12_isSheet rfl rfl rfl h (fun v1 m2 h3 => ?_)
  refine gw_if_ne 9 7 d_X12_drop_4 rfl rfl (fun c4 => ?_) (fun c4 => ?_)
  · skip
    refine gw_iconst 8 d_X12_drop_7 rfl rfl ?_
    exact gw_ireturn d_X12_drop_8 (Or.inl rfl) (h3.1 c4)
  · skip
    refine gw_aload_n 10 d_X12_drop_9 rfl rfl ?_
    refine gw_getR 13 d_X12_drop_10 rfl F_12_70 sh_117 rfl ?_
    refine gw_iload_n 14 d_X12_drop_13 rfl rfl ?_
    refine gw_iaload 15 d_X12_drop_14 rfl sh_138 (h3.2 c4).1 ?_
    refine gw_if_ge 21 18 d_X12_drop_15 rfl rfl (fun c5 => ?_) (fun c5 => ?_)
    · skip
      refine gw_aload_n 22 d_X12_drop_21 rfl rfl ?_
      refine gw_getR 25 d_X12_drop_22 rfl F_12_70 sh_117 rfl ?_
      refine gw_iload_n 26 d_X12_drop_25 rfl rfl ?_
      refine gw_iconst 27 d_X12_drop_26 rfl rfl ?_
      refine gw_iastore 28 d_X12_drop_27 rfl sh_138 ((h3.2 c4).2.1 c5).1 ?_
      refine gw_aload_n 29 d_X12_drop_28 rfl rfl ?_
      refine gw_getR 32 d_X12_drop_29 rfl F_12_73 sh_117 rfl ?_
      refine gw_iload_n 33 d_X12_drop_32 rfl rfl ?_
      refine gw_iaload 34 d_X12_drop_33 rfl sh_139 ((h3.2 c4).2.1 c5).2.1 ?_
      exact gw_ireturn d_X12_drop_34 (Or.inl rfl) ((h3.2 c4).2.1 c5).2.2
    · skip
      refine gw_bipush 20 d_X12_drop_18 rfl rfl (by decide) ?_
      exact gw_ireturn d_X12_drop_20 (Or.inl rfl) ((h3.2 c4).2.2 c5)
set_option maxRecDepth 100000 in
set_option maxHeartbeats 4000000 in
theorem r_X12_item_0 {d : Nat} {QR : Option gw_SV → gw_Mem → Prop} {Γ : gw_Ga} (x1 : Int) (x2 : Int) (x3 : Int) (x4 : Int) (m : gw_Mem) (h : gw_CI d M_X12_isSheet [gI x1] m (fun v1 m2 => ((v1 = 0 → QR (some (gI (-1))) m2) ∧ (¬ (v1 = 0) → gw_CI d M_X12_isLane [gI x2] m2 (fun v4 m5 => ((v4 = 0 → QR (some (gI (-1))) m5) ∧ (¬ (v4 = 0) → gw_CI d M_X12_finds [gR 117, gI x1, gI x2, gI x3, gI 1] m5 (fun v7 m8 => ((0 ≤ v7 → gw_in (gw_w ((gw_w (24 * x1)) + x3)) 96 ∧ QR (some (gI 1)) (gw_up m8 140 (gw_w ((gw_w (24 * x1)) + x3)) (if x2 = 0 then gw_i2b x4 else (if x2 = 1 then gw_i2s x4 else x4)))) ∧ (¬ (0 ≤ v7) → QR (some (gI v7)) m8)))))))))) : gw_G M_X12_item d QR Γ 0 [some (gR 117), some (gI x1), some (gI x2), some (gI x3), some (gI x4), none] [] m := by
  refine gw_iload_n 1 d_X12_item_0 rfl rfl ?_
  refine gw_cSI (a := [gI x1]) (rest := []) 4 d_X12_item_1 rfl ml_12_320 v_X12_isSheet rfl rfl rfl h (fun v1 m2 h3 => ?_)
  refine gw_if_eq 14 7 d_X12_item_4 rfl rfl (fun c10 => ?_) (fun c10 => ?_)
  · skip
    refine gw_iconst 15 d_X12_item_14 rfl rfl ?_
    exact gw_ireturn d_X12_item_15 (Or.inl rfl) (h3.1 c10)
  · skip
    refine gw_iload_n 8 d_X12_item_7 rfl rfl ?_
    refine gw_cSI (a := [gI x2]) (rest := []) 11 d_X12_item_8 rfl ml_12_323 v_X12_isLane rfl rfl rfl (h3.2 c10) (fun v4 m5 h6 => ?_)
    refine gw_if_ne 16 14 d_X12_item_11 rfl rfl (fun c11 => ?_) (fun c11 => ?_)
    · skip
      refine gw_iconst 15 d_X12_item_14 rfl rfl ?_
      exact gw_ireturn d_X12_item_15 (Or.inl rfl) (h6.1 c11)
    · skip
      refine gw_aload_n 17 d_X12_item_16 rfl rfl ?_
      refine gw_iload_n 18 d_X12_item_17 rfl rfl ?_
      refine gw_iload_n 19 d_X12_item_18 rfl rfl ?_
      refine gw_iload_n 20 d_X12_item_19 rfl rfl ?_
      refine gw_iconst 21 d_X12_item_20 rfl rfl ?_
      refine gw_cVI (a := [gI x1, gI x2, gI x3, gI 1]) (rest := []) 24 d_X12_item_21 rfl ml_12_328 v_X12_finds rfl sh_117 rfl rfl rfl (h6.2 c11) (fun v7 m8 h9 => ?_)
      refine gw_istore (ls' := [some (gR 117), some (gI x1), some (gI x2), some (gI x3), some (gI x4), some (gI v7)]) 26 d_X12_item_24 rfl rfl rfl rfl ?_
      refine gw_iload 28 d_X12_item_26 rfl rfl ?_
      refine gw_if_ge 34 31 d_X12_item_28 rfl rfl (fun c12 => ?_) (fun c12 => ?_)
      · skip
        refine gw_aload_n 35 d_X12_item_34 rfl rfl ?_
        refine gw_getR 38 d_X12_item_35 rfl F_12_76 sh_117 rfl ?_
        refine gw_bipush 40 d_X12_item_38 rfl rfl (by decide) ?_
        refine gw_iload_n 41 d_X12_item_40 rfl rfl ?_
        refine gw_imul 42 d_X12_item_41 rfl  ?_
        refine gw_iload_n 43 d_X12_item_42 rfl rfl ?_
        refine gw_iadd 44 d_X12_item_43 rfl  ?_
        refine gw_iload_n 45 d_X12_item_44 rfl rfl ?_
        have j13 : gw_G M_X12_item d QR Γ 67 [some (gR 117), some (gI x1), some (gI x2), some (gI x3), some (gI x4), some (gI v7)] [gI (if x2 = 0 then gw_i2b x4 else (if x2 = 1 then gw_i2s x4 else x4)), gI (gw_w ((gw_w (24 * x1)) + x3)), gR 140] m8 := by
          refine gw_iastore 68 d_X12_item_67 rfl sh_140 (h9.1 c12).1 ?_
          refine gw_iconst 69 d_X12_item_68 rfl rfl ?_
          exact gw_ireturn d_X12_item_69 (Or.inl rfl) (h9.1 c12).2
        refine gw_if_ne 54 48 d_X12_item_45 rfl rfl (fun c14 => ?_) (fun c14 => ?_)
        · skip
          refine gw_iload 50 d_X12_item_48 rfl rfl ?_
          refine gw_i2bR 51 d_X12_item_50 rfl  ?_
          refine gw_goto 67 d_X12_item_51 rfl ?_
          simpa only [if_pos c14] using j13
        · skip
          refine gw_iload_n 55 d_X12_item_54 rfl rfl ?_
          refine gw_iconst 56 d_X12_item_55 rfl rfl ?_
          refine gw_icmp_ne 65 59 d_X12_item_56 rfl rfl (fun c15 => ?_) (fun c15 => ?_)
          · skip
            refine gw_iload 61 d_X12_item_59 rfl rfl ?_
            refine gw_i2sR 62 d_X12_item_61 rfl  ?_
            refine gw_goto 67 d_X12_item_62 rfl ?_
            simpa only [if_neg c14, if_pos c15] using j13
          · skip
            refine gw_iload 67 d_X12_item_65 rfl rfl ?_
            simpa only [if_neg c14, if_neg c15] using j13
      · skip
        refine gw_iload 33 d_X12_item_31 rfl rfl ?_
        exact gw_ireturn d_X12_item_33 (Or.inl rfl) (h9.2 c12)
set_option maxRecDepth 100000 in
set_option maxHeartbeats 4000000 in
theorem r_X12_copy_0 {d : Nat} {QR : Option gw_SV → gw_Mem → Prop} {Γ : gw_Ga} (x1 : Int) (x2 : Int) (x3 : Int) (x4 : Int) (x5 : Int) (m : gw_Mem) (h : gw_CI d M_X12_isSheet [gI x1] m (fun v1 m2 => ((v1 = 0 → QR (some (gI (-1))) m2) ∧ (¬ (v1 = 0) → gw_CI d M_X12_isSheet [gI x3] m2 (fun v4 m5 => ((v4 = 0 → QR (some (gI (-1))) m5) ∧ (¬ (v4 = 0) → gw_in x1 4 ∧ ((m5 138 x1 < 0 → QR (some (gI (-11))) m5) ∧ (¬ (m5 138 x1 < 0) → gw_in x3 4 ∧ ((0 ≤ m5 138 x3 → gw_in x1 4 ∧ gw_in x3 4 ∧ ((m5 138 x1 = m5 138 x3 → ((x5 < 0 → QR (some (gI (-13))) m5) ∧ (¬ (x5 < 0) → gw_in x1 4 ∧ gw_CI d M_X12_finds [gR 117, gI x1, gI (m5 138 x1), gI x2, gI x5] m5 (fun v7 m8 => ((v7 < 0 → QR (some (gI (-13))) m8) ∧ (¬ (v7 < 0) → gw_in x3 4 ∧ gw_CI d M_X12_finds [gR 117, gI x3, gI (m8 138 x3), gI x4, gI x5] m8 (fun v10 m11 => ((0 ≤ v10 → gw_G M_X12_copy d QR Γ 101 [some (gR 117), some (gI x1), some (gI x2), some (gI x3), some (gI x4), some (gI x5), some (gI 0)] [] m11) ∧ (¬ (0 ≤ v10) → QR (some (gI (-13))) m11))))))))) ∧ (¬ (m5 138 x1 = m5 138 x3) → QR (some (gI (-12))) m5))) ∧ (¬ (0 ≤ m5 138 x3) → QR (some (gI (-11))) m5))))))))))) : gw_G M_X12_copy d QR Γ 0 [some (gR 117), some (gI x1), some (gI x2), some (gI x3), some (gI x4), some (gI x5), none] [] m := by
  refine gw_iload_n 1 d_X12_copy_0 rfl rfl ?_
  refine gw_cSI (a := [gI x1]) (rest := []) 4 d_X12_copy_1 rfl ml_12_320 v_X12_isSheet rfl rfl rfl h (fun v1 m2 h3 => ?_)
  refine gw_if_eq 14 7 d_X12_copy_4 rfl rfl (fun c13 => ?_) (fun c13 => ?_)
  · skip
    refine gw_iconst 15 d_X12_copy_14 rfl rfl ?_
    exact gw_ireturn d_X12_copy_15 (Or.inl rfl) (h3.1 c13)
  · skip
    refine gw_iload_n 8 d_X12_copy_7 rfl rfl ?_
    refine gw_cSI (a := [gI x3]) (rest := []) 11 d_X12_copy_8 rfl ml_12_320 v_X12_isSheet rfl rfl rfl (h3.2 c13) (fun v4 m5 h6 => ?_)
    refine gw_if_ne 16 14 d_X12_copy_11 rfl rfl (fun c14 => ?_) (fun c14 => ?_)
    · skip
      refine gw_iconst 15 d_X12_copy_14 rfl rfl ?_
      exact gw_ireturn d_X12_copy_15 (Or.inl rfl) (h6.1 c14)
    · skip
      refine gw_aload_n 17 d_X12_copy_16 rfl rfl ?_
      refine gw_getR 20 d_X12_copy_17 rfl F_12_70 sh_117 rfl ?_
      refine gw_iload_n 21 d_X12_copy_20 rfl rfl ?_
      refine gw_iaload 22 d_X12_copy_21 rfl sh_138 (h6.2 c14).1 ?_
      refine gw_if_lt 34 25 d_X12_copy_22 rfl rfl (fun c15 => ?_) (fun c15 => ?_)
      · skip
        refine gw_bipush 36 d_X12_copy_34 rfl rfl (by decide) ?_
        exact gw_ireturn d_X12_copy_36 (Or.inl rfl) ((h6.2 c14).2.1 c15)
      · skip
        refine gw_aload_n 26 d_X12_copy_25 rfl rfl ?_
        refine gw_getR 29 d_X12_copy_26 rfl F_12_70 sh_117 rfl ?_
        refine gw_iload_n 30 d_X12_copy_29 rfl rfl ?_
        refine gw_iaload 31 d_X12_copy_30 rfl sh_138 ((h6.2 c14).2.2 c15).1 ?_
        refine gw_if_ge 37 34 d_X12_copy_31 rfl rfl (fun c16 => ?_) (fun c16 => ?_)
        · skip
          refine gw_aload_n 38 d_X12_copy_37 rfl rfl ?_
          refine gw_getR 41 d_X12_copy_38 rfl F_12_70 sh_117 rfl ?_
          refine gw_iload_n 42 d_X12_copy_41 rfl rfl ?_
          refine gw_iaload 43 d_X12_copy_42 rfl sh_138 (((h6.2 c14).2.2 c15).2.1 c16).1 ?_
          refine gw_aload_n 44 d_X12_copy_43 rfl rfl ?_
          refine gw_getR 47 d_X12_copy_44 rfl F_12_70 sh_117 rfl ?_
          refine gw_iload_n 48 d_X12_copy_47 rfl rfl ?_
          refine gw_iaload 49 d_X12_copy_48 rfl sh_138 (((h6.2 c14).2.2 c15).2.1 c16).2.1 ?_
          refine gw_icmp_eq 55 52 d_X12_copy_49 rfl rfl (fun c17 => ?_) (fun c17 => ?_)
          · skip
            refine gw_iload 57 d_X12_copy_55 rfl rfl ?_
            refine gw_if_lt 95 60 d_X12_copy_57 rfl rfl (fun c18 => ?_) (fun c18 => ?_)
            · skip
              refine gw_bipush 97 d_X12_copy_95 rfl rfl (by decide) ?_
              exact gw_ireturn d_X12_copy_97 (Or.inl rfl) (((((h6.2 c14).2.2 c15).2.1 c16).2.2.1 c17).1 c18)
            · skip
              refine gw_aload_n 61 d_X12_copy_60 rfl rfl ?_
              refine gw_iload_n 62 d_X12_copy_61 rfl rfl ?_
              refine gw_aload_n 63 d_X12_copy_62 rfl rfl ?_
              refine gw_getR 66 d_X12_copy_63 rfl F_12_70 sh_117 rfl ?_
              refine gw_iload_n 67 d_X12_copy_66 rfl rfl ?_
              refine gw_iaload 68 d_X12_copy_67 rfl sh_138 (((((h6.2 c14).2.2 c15).2.1 c16).2.2.1 c17).2 c18).1 ?_
              refine gw_iload_n 69 d_X12_copy_68 rfl rfl ?_
              refine gw_iload 71 d_X12_copy_69 rfl rfl ?_
              refine gw_cVI (a := [gI x1, gI (m5 138 x1), gI x2, gI x5]) (rest := []) 74 d_X12_copy_71 rfl ml_12_328 v_X12_finds rfl sh_117 rfl rfl rfl (((((h6.2 c14).2.2 c15).2.1 c16).2.2.1 c17).2 c18).2 (fun v7 m8 h9 => ?_)
              refine gw_if_lt 95 77 d_X12_copy_74 rfl rfl (fun c19 => ?_) (fun c19 => ?_)
              · skip
                refine gw_bipush 97 d_X12_copy_95 rfl rfl (by decide) ?_
                exact gw_ireturn d_X12_copy_97 (Or.inl rfl) (h9.1 c19)
              · skip
                refine gw_aload_n 78 d_X12_copy_77 rfl rfl ?_
                refine gw_iload_n 79 d_X12_copy_78 rfl rfl ?_
                refine gw_aload_n 80 d_X12_copy_79 rfl rfl ?_
                refine gw_getR 83 d_X12_copy_80 rfl F_12_70 sh_117 rfl ?_
                refine gw_iload_n 84 d_X12_copy_83 rfl rfl ?_
                refine gw_iaload 85 d_X12_copy_84 rfl sh_138 (h9.2 c19).1 ?_
                refine gw_iload 87 d_X12_copy_85 rfl rfl ?_
                refine gw_iload 89 d_X12_copy_87 rfl rfl ?_
                refine gw_cVI (a := [gI x3, gI (m8 138 x3), gI x4, gI x5]) (rest := []) 92 d_X12_copy_89 rfl ml_12_328 v_X12_finds rfl sh_117 rfl rfl rfl (h9.2 c19).2 (fun v10 m11 h12 => ?_)
                refine gw_if_ge 98 95 d_X12_copy_92 rfl rfl (fun c20 => ?_) (fun c20 => ?_)
                · skip
                  refine gw_iconst 99 d_X12_copy_98 rfl rfl ?_
                  refine gw_istore (ls' := [some (gR 117), some (gI x1), some (gI x2), some (gI x3), some (gI x4), some (gI x5), some (gI 0)]) 101 d_X12_copy_99 rfl rfl rfl rfl ?_
                  exact (h12.1 c20)
                · skip
                  refine gw_bipush 97 d_X12_copy_95 rfl rfl (by decide) ?_
                  exact gw_ireturn d_X12_copy_97 (Or.inl rfl) (h12.2 c20)
          · skip
            refine gw_bipush 54 d_X12_copy_52 rfl rfl (by decide) ?_
            exact gw_ireturn d_X12_copy_54 (Or.inl rfl) ((((h6.2 c14).2.2 c15).2.1 c16).2.2.2 c17)
        · skip
          refine gw_bipush 36 d_X12_copy_34 rfl rfl (by decide) ?_
          exact gw_ireturn d_X12_copy_36 (Or.inl rfl) (((h6.2 c14).2.2 c15).2.2 c16)
set_option maxRecDepth 100000 in
set_option maxHeartbeats 4000000 in
theorem r_X12_copy_101 {d : Nat} {QR : Option gw_SV → gw_Mem → Prop} {Γ : gw_Ga} (x1 : Int) (x2 : Int) (x3 : Int) (x4 : Int) (x5 : Int) (x6 : Int) (m : gw_Mem) (h : ((x5 ≤ x6 → gw_G M_X12_copy d QR Γ 138 [some (gR 117), some (gI x1), some (gI x2), some (gI x3), some (gI x4), some (gI x5), some (gI 0)] [] m) ∧ (¬ (x5 ≤ x6) → gw_in (gw_w ((gw_w ((gw_w (24 * x1)) + x2)) + x6)) 96 ∧ gw_in x6 24 ∧ gw_G M_X12_copy d QR Γ 101 [some (gR 117), some (gI x1), some (gI x2), some (gI x3), some (gI x4), some (gI x5), some (gI (gw_w (x6 + 1)))] [] (gw_up m 141 x6 (m 140 (gw_w ((gw_w ((gw_w (24 * x1)) + x2)) + x6))))))) : gw_G M_X12_copy d QR Γ 101 [some (gR 117), some (gI x1), some (gI x2), some (gI x3), some (gI x4), some (gI x5), some (gI x6)] [] m := by
  refine gw_iload 103 d_X12_copy_101 rfl rfl ?_
  refine gw_iload 105 d_X12_copy_103 rfl rfl ?_
  refine gw_icmp_ge 135 108 d_X12_copy_105 rfl rfl (fun c21 => ?_) (fun c21 => ?_)
  · skip
    refine gw_iconst 136 d_X12_copy_135 rfl rfl ?_
    refine gw_istore (ls' := [some (gR 117), some (gI x1), some (gI x2), some (gI x3), some (gI x4), some (gI x5), some (gI 0)]) 138 d_X12_copy_136 rfl rfl rfl rfl ?_
    exact (h.1 c21)
  · skip
    refine gw_aload_n 109 d_X12_copy_108 rfl rfl ?_
    refine gw_getR 112 d_X12_copy_109 rfl F_12_79 sh_117 rfl ?_
    refine gw_iload 114 d_X12_copy_112 rfl rfl ?_
    refine gw_aload_n 115 d_X12_copy_114 rfl rfl ?_
    refine gw_getR 118 d_X12_copy_115 rfl F_12_76 sh_117 rfl ?_
    refine gw_bipush 120 d_X12_copy_118 rfl rfl (by decide) ?_
    refine gw_iload_n 121 d_X12_copy_120 rfl rfl ?_
    refine gw_imul 122 d_X12_copy_121 rfl  ?_
    refine gw_iload_n 123 d_X12_copy_122 rfl rfl ?_
    refine gw_iadd 124 d_X12_copy_123 rfl  ?_
    refine gw_iload 126 d_X12_copy_124 rfl rfl ?_
    refine gw_iadd 127 d_X12_copy_126 rfl  ?_
    refine gw_iaload 128 d_X12_copy_127 rfl sh_140 (h.2 c21).1 ?_
    refine gw_iastore 129 d_X12_copy_128 rfl sh_141 (h.2 c21).2.1 ?_
    refine gw_iinc (ls' := [some (gR 117), some (gI x1), some (gI x2), some (gI x3), some (gI x4), some (gI x5), some (gI (gw_w (x6 + 1)))]) 132 d_X12_copy_129 rfl rfl rfl rfl rfl ?_
    refine gw_goto 101 d_X12_copy_132 rfl ?_
    exact (h.2 c21).2.2
set_option maxRecDepth 100000 in
set_option maxHeartbeats 4000000 in
theorem r_X12_copy_138 {d : Nat} {QR : Option gw_SV → gw_Mem → Prop} {Γ : gw_Ga} (x1 : Int) (x2 : Int) (x3 : Int) (x4 : Int) (x5 : Int) (x6 : Int) (m : gw_Mem) (h : ((x5 ≤ x6 → QR (some (gI x5)) m) ∧ (¬ (x5 ≤ x6) → gw_in x6 24 ∧ gw_in (gw_w ((gw_w ((gw_w (24 * x3)) + x4)) + x6)) 96 ∧ gw_G M_X12_copy d QR Γ 138 [some (gR 117), some (gI x1), some (gI x2), some (gI x3), some (gI x4), some (gI x5), some (gI (gw_w (x6 + 1)))] [] (gw_up m 140 (gw_w ((gw_w ((gw_w (24 * x3)) + x4)) + x6)) (m 141 x6))))) : gw_G M_X12_copy d QR Γ 138 [some (gR 117), some (gI x1), some (gI x2), some (gI x3), some (gI x4), some (gI x5), some (gI x6)] [] m := by
  refine gw_iload 140 d_X12_copy_138 rfl rfl ?_
  refine gw_iload 142 d_X12_copy_140 rfl rfl ?_
  refine gw_icmp_ge 173 145 d_X12_copy_142 rfl rfl (fun c22 => ?_) (fun c22 => ?_)
  · skip
    refine gw_iload 175 d_X12_copy_173 rfl rfl ?_
    exact gw_ireturn d_X12_copy_175 (Or.inl rfl) (h.1 c22)
  · skip
    refine gw_aload_n 146 d_X12_copy_145 rfl rfl ?_
    refine gw_getR 149 d_X12_copy_146 rfl F_12_76 sh_117 rfl ?_
    refine gw_bipush 151 d_X12_copy_149 rfl rfl (by decide) ?_
    refine gw_iload_n 152 d_X12_copy_151 rfl rfl ?_
    refine gw_imul 153 d_X12_copy_152 rfl  ?_
    refine gw_iload 155 d_X12_copy_153 rfl rfl ?_
    refine gw_iadd 156 d_X12_copy_155 rfl  ?_
    refine gw_iload 158 d_X12_copy_156 rfl rfl ?_
    refine gw_iadd 159 d_X12_copy_158 rfl  ?_
    refine gw_aload_n 160 d_X12_copy_159 rfl rfl ?_
    refine gw_getR 163 d_X12_copy_160 rfl F_12_79 sh_117 rfl ?_
    refine gw_iload 165 d_X12_copy_163 rfl rfl ?_
    refine gw_iaload 166 d_X12_copy_165 rfl sh_141 (h.2 c22).1 ?_
    refine gw_iastore 167 d_X12_copy_166 rfl sh_140 (h.2 c22).2.1 ?_
    refine gw_iinc (ls' := [some (gR 117), some (gI x1), some (gI x2), some (gI x3), some (gI x4), some (gI x5), some (gI (gw_w (x6 + 1)))]) 170 d_X12_copy_167 rfl rfl rfl rfl rfl ?_
    refine gw_goto 138 d_X12_copy_170 rfl ?_
    exact (h.2 c22).2.2
