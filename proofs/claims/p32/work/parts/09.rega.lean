set_option maxRecDepth 100000 in
set_option maxHeartbeats 4000000 in
theorem r_X1_load_0 {d : Nat} {QR : Option gw_SV → gw_Mem → Prop} {Γ : gw_Ga} (x1 : Int) (x2 : Int) (m : gw_Mem) (h : gw_G M_X1_load d QR Γ 7 [some (gR 101), some (gI x1), some (gI x2), some (gI 0), none, none] [] (gw_up m 101 0 x1)) : gw_G M_X1_load d QR Γ 0 [some (gR 101), some (gI x1), some (gI x2), none, none, none] [] m := by
  refine gw_aload_n 1 d_X1_load_0 rfl rfl ?_
  refine gw_iload_n 2 d_X1_load_1 rfl rfl ?_
  refine gw_putI 5 d_X1_load_2 rfl P_1_9 (Or.inl rfl) sh_101 rfl (kz := 0) rfl ?_
  refine gw_iconst 6 d_X1_load_5 rfl rfl ?_
  refine gw_istore_n (ls' := [some (gR 101), some (gI x1), some (gI x2), some (gI 0), none, none]) 7 d_X1_load_6 rfl rfl rfl rfl ?_
  exact h
set_option maxRecDepth 100000 in
set_option maxHeartbeats 4000000 in
theorem r_X1_load_7 {d : Nat} {QR : Option gw_SV → gw_Mem → Prop} {Γ : gw_Ga} (x1 : Int) (x2 : Int) (x3 : Int) (y4 : Option gw_SV) (y5 : Option gw_SV) (m : gw_Mem) (h : ((x1 ≤ x3 → gw_G M_X1_load d QR Γ 30 [some (gR 101), some (gI x1), some (gI x2), some (gI 0), some (gI 0), y5] [] m) ∧ (¬ (x1 ≤ x3) → gw_in x3 8 ∧ gw_G M_X1_load d QR Γ 7 [some (gR 101), some (gI x1), some (gI x2), some (gI (gw_w (x3 + 1))), y4, y5] [] (gw_up m 102 x3 0)))) : gw_G M_X1_load d QR Γ 7 [some (gR 101), some (gI x1), some (gI x2), some (gI x3), y4, y5] [] m := by
  refine gw_iload_n 8 d_X1_load_7 rfl rfl ?_
  refine gw_iload_n 9 d_X1_load_8 rfl rfl ?_
  refine gw_icmp_ge 25 12 d_X1_load_9 rfl rfl (fun c1 => ?_) (fun c1 => ?_)
  · skip
    refine gw_iconst 26 d_X1_load_25 rfl rfl ?_
    refine gw_istore_n (ls' := [some (gR 101), some (gI x1), some (gI x2), some (gI 0), y4, y5]) 27 d_X1_load_26 rfl rfl rfl rfl ?_
    refine gw_iconst 28 d_X1_load_27 rfl rfl ?_
    refine gw_istore (ls' := [some (gR 101), some (gI x1), some (gI x2), some (gI 0), some (gI 0), y5]) 30 d_X1_load_28 rfl rfl rfl rfl ?_
    exact (h.1 c1)
  · skip
    refine gw_aload_n 13 d_X1_load_12 rfl rfl ?_
    refine gw_getR 16 d_X1_load_13 rfl F_1_15 sh_101 rfl ?_
    refine gw_iload_n 17 d_X1_load_16 rfl rfl ?_
    refine gw_iconst 18 d_X1_load_17 rfl rfl ?_
    refine gw_iastore 19 d_X1_load_18 rfl sh_102 (h.2 c1).1 ?_
    refine gw_iinc (ls' := [some (gR 101), some (gI x1), some (gI x2), some (gI (gw_w (x3 + 1))), y4, y5]) 22 d_X1_load_19 rfl rfl rfl rfl rfl ?_
    refine gw_goto 7 d_X1_load_22 rfl ?_
    exact (h.2 c1).2
set_option maxRecDepth 100000 in
set_option maxHeartbeats 4000000 in
theorem r_X1_load_30 {d : Nat} {QR : Option gw_SV → gw_Mem → Prop} {Γ : gw_Ga} (x1 : Int) (x2 : Int) (x3 : Int) (x4 : Int) (y5 : Option gw_SV) (m : gw_Mem) (h : ((x1 ≤ x4 → QR none m) ∧ (¬ (x1 ≤ x4) → gw_G M_X1_load d QR Γ 42 [some (gR 101), some (gI x1), some (gI x2), some (gI x3), some (gI x4), some (gI (gw_w (x4 + 1)))] [] m))) : gw_G M_X1_load d QR Γ 30 [some (gR 101), some (gI x1), some (gI x2), some (gI x3), some (gI x4), y5] [] m := by
  refine gw_iload 32 d_X1_load_30 rfl rfl ?_
  refine gw_iload_n 33 d_X1_load_32 rfl rfl ?_
  refine gw_icmp_ge 86 36 d_X1_load_33 rfl rfl (fun c2 => ?_) (fun c2 => ?_)
  · skip
    exact gw_return d_X1_load_86 rfl (h.1 c2)
  · skip
    refine gw_iload 38 d_X1_load_36 rfl rfl ?_
    refine gw_iconst 39 d_X1_load_38 rfl rfl ?_
    refine gw_iadd 40 d_X1_load_39 rfl  ?_
    refine gw_istore (ls' := [some (gR 101), some (gI x1), some (gI x2), some (gI x3), some (gI x4), some (gI (gw_w (x4 + 1)))]) 42 d_X1_load_40 rfl rfl rfl rfl ?_
    exact (h.2 c2)
set_option maxRecDepth 100000 in
set_option maxHeartbeats 4000000 in
theorem r_X1_load_42 {d : Nat} {QR : Option gw_SV → gw_Mem → Prop} {Γ : gw_Ga} (x1 : Int) (x2 : Int) (x3 : Int) (x4 : Int) (x5 : Int) (m : gw_Mem) (h : ((x1 ≤ x5 → gw_G M_X1_load d QR Γ 30 [some (gR 101), some (gI x1), some (gI x2), some (gI x3), some (gI (gw_w (x4 + 1))), some (gI x5)] [] m) ∧ (¬ (x1 ≤ x5) → ((gw_and (gw_shr x2 x3) 1 = 1 → gw_in x5 8 ∧ gw_in x5 8 ∧ gw_G M_X1_load d QR Γ 71 [some (gR 101), some (gI x1), some (gI x2), some (gI x3), some (gI x4), some (gI x5)] [] (gw_up m 102 x5 (gw_or (m 102 x5) (gw_shl 1 x4)))) ∧ (¬ (gw_and (gw_shr x2 x3) 1 = 1) → gw_G M_X1_load d QR Γ 71 [some (gR 101), some (gI x1), some (gI x2), some (gI x3), some (gI x4), some (gI x5)] [] m))))) : gw_G M_X1_load d QR Γ 42 [some (gR 101), some (gI x1), some (gI x2), some (gI x3), some (gI x4), some (gI x5)] [] m := by
  refine gw_iload 44 d_X1_load_42 rfl rfl ?_
  refine gw_iload_n 45 d_X1_load_44 rfl rfl ?_
  refine gw_icmp_ge 80 48 d_X1_load_45 rfl rfl (fun c3 => ?_) (fun c3 => ?_)
  · skip
    refine gw_iinc (ls' := [some (gR 101), some (gI x1), some (gI x2), some (gI x3), some (gI (gw_w (x4 + 1))), some (gI x5)]) 83 d_X1_load_80 rfl rfl rfl rfl rfl ?_
    refine gw_goto 30 d_X1_load_83 rfl ?_
    exact (h.1 c3)
  · skip
    refine gw_iload_n 49 d_X1_load_48 rfl rfl ?_
    refine gw_iload_n 50 d_X1_load_49 rfl rfl ?_
    refine gw_ishr 51 d_X1_load_50 rfl  ?_
    refine gw_iconst 52 d_X1_load_51 rfl rfl ?_
    refine gw_iand 53 d_X1_load_52 rfl  ?_
    refine gw_iconst 54 d_X1_load_53 rfl rfl ?_
    refine gw_icmp_ne 71 57 d_X1_load_54 rfl rfl (fun c4 => ?_) (fun c4 => ?_)
    · skip
      refine gw_aload_n 58 d_X1_load_57 rfl rfl ?_
      refine gw_getR 61 d_X1_load_58 rfl F_1_15 sh_101 rfl ?_
      refine gw_iload 63 d_X1_load_61 rfl rfl ?_
      refine gw_dup2 64 d_X1_load_63 rfl rfl rfl ?_
      refine gw_iaload 65 d_X1_load_64 rfl sh_102 ((h.2 c3).1 c4).1 ?_
      refine gw_iconst 66 d_X1_load_65 rfl rfl ?_
      refine gw_iload 68 d_X1_load_66 rfl rfl ?_
      refine gw_ishl 69 d_X1_load_68 rfl  ?_
      refine gw_ior 70 d_X1_load_69 rfl  ?_
      refine gw_iastore 71 d_X1_load_70 rfl sh_102 ((h.2 c3).1 c4).2.1 ?_
      exact ((h.2 c3).1 c4).2.2
    · skip
      exact ((h.2 c3).2 c4)
set_option maxRecDepth 100000 in
set_option maxHeartbeats 4000000 in
theorem r_X1_load_71 {d : Nat} {QR : Option gw_SV → gw_Mem → Prop} {Γ : gw_Ga} (x1 : Int) (x2 : Int) (x3 : Int) (x4 : Int) (x5 : Int) (m : gw_Mem) (h : gw_G M_X1_load d QR Γ 42 [some (gR 101), some (gI x1), some (gI x2), some (gI (gw_w (x3 + 1))), some (gI x4), some (gI (gw_w (x5 + 1)))] [] m) : gw_G M_X1_load d QR Γ 71 [some (gR 101), some (gI x1), some (gI x2), some (gI x3), some (gI x4), some (gI x5)] [] m := by
  refine gw_iinc (ls' := [some (gR 101), some (gI x1), some (gI x2), some (gI (gw_w (x3 + 1))), some (gI x4), some (gI x5)]) 74 d_X1_load_71 rfl rfl rfl rfl rfl ?_
  refine gw_iinc (ls' := [some (gR 101), some (gI x1), some (gI x2), some (gI (gw_w (x3 + 1))), some (gI x4), some (gI (gw_w (x5 + 1)))]) 77 d_X1_load_74 rfl rfl rfl rfl rfl ?_
  refine gw_goto 42 d_X1_load_77 rfl ?_
  exact h
set_option maxRecDepth 100000 in
set_option maxHeartbeats 4000000 in
theorem r_X1_paint_0 {d : Nat} {QR : Option gw_SV → gw_Mem → Prop} {Γ : gw_Ga} (m : gw_Mem) (h : gw_G M_X1_paint d QR Γ 2 [some (gR 101), some (gI 1)] [] m) : gw_G M_X1_paint d QR Γ 0 [some (gR 101), none] [] m := by
  refine gw_iconst 1 d_X1_paint_0 rfl rfl ?_
  refine gw_istore_n (ls' := [some (gR 101), some (gI 1)]) 2 d_X1_paint_1 rfl rfl rfl rfl ?_
  exact h
set_option maxRecDepth 100000 in
set_option maxHeartbeats 4000000 in
theorem r_X1_paint_2 {d : Nat} {QR : Option gw_SV → gw_Mem → Prop} {Γ : gw_Ga} (x1 : Int) (m : gw_Mem) (h : ((m 101 0 ≤ x1 → gw_CI d M_X1_paintFrom [gR 101, gI 0, gI 0, gI (m 101 0)] m (fun v1 m2 => QR (some (gI (m2 101 0))) m2)) ∧ (¬ (m 101 0 ≤ x1) → gw_CI d M_X1_paintFrom [gR 101, gI 0, gI 0, gI x1] m (fun v4 m5 => ((v4 = 0 → gw_G M_X1_paint d QR Γ 2 [some (gR 101), some (gI (gw_w (x1 + 1)))] [] m5) ∧ (¬ (v4 = 0) → QR (some (gI x1)) m5)))))) : gw_G M_X1_paint d QR Γ 2 [some (gR 101), some (gI x1)] [] m := by
  refine gw_iload_n 3 d_X1_paint_2 rfl rfl ?_
  refine gw_aload_n 4 d_X1_paint_3 rfl rfl ?_
  refine gw_getI 7 d_X1_paint_4 rfl F_1_9 sh_101 rfl (kz := 0) rfl ?_
  refine gw_icmp_ge 28 10 d_X1_paint_7 rfl rfl (fun c7 => ?_) (fun c7 => ?_)
  · skip
    refine gw_aload_n 29 d_X1_paint_28 rfl rfl ?_
    refine gw_iconst 30 d_X1_paint_29 rfl rfl ?_
    refine gw_iconst 31 d_X1_paint_30 rfl rfl ?_
    refine gw_aload_n 32 d_X1_paint_31 rfl rfl ?_
    refine gw_getI 35 d_X1_paint_32 rfl F_1_9 sh_101 rfl (kz := 0) rfl ?_
    refine gw_cSI (a := [gR 101, gI 0, gI 0, gI (m 101 0)]) (rest := []) 38 d_X1_paint_35 rfl ml_1_22 v_X1_paintFrom rfl rfl rfl (h.1 c7) (fun v1 m2 h3 => ?_)
    refine gw_pop 39 d_X1_paint_38 rfl rfl ?_
    refine gw_aload_n 40 d_X1_paint_39 rfl rfl ?_
    refine gw_getI 43 d_X1_paint_40 rfl F_1_9 sh_101 rfl (kz := 0) rfl ?_
    exact gw_ireturn d_X1_paint_43 (Or.inl rfl) h3
  · skip
    refine gw_aload_n 11 d_X1_paint_10 rfl rfl ?_
    refine gw_iconst 12 d_X1_paint_11 rfl rfl ?_
    refine gw_iconst 13 d_X1_paint_12 rfl rfl ?_
    refine gw_iload_n 14 d_X1_paint_13 rfl rfl ?_
    refine gw_cSI (a := [gR 101, gI 0, gI 0, gI x1]) (rest := []) 17 d_X1_paint_14 rfl ml_1_22 v_X1_paintFrom rfl rfl rfl (h.2 c7) (fun v4 m5 h6 => ?_)
    refine gw_if_eq 22 20 d_X1_paint_17 rfl rfl (fun c8 => ?_) (fun c8 => ?_)
    · skip
      refine gw_iinc (ls' := [some (gR 101), some (gI (gw_w (x1 + 1)))]) 25 d_X1_paint_22 rfl rfl rfl rfl rfl ?_
      refine gw_goto 2 d_X1_paint_25 rfl ?_
      exact (h6.1 c8)
    · skip
      refine gw_iload_n 21 d_X1_paint_20 rfl rfl ?_
      exact gw_ireturn d_X1_paint_21 (Or.inl rfl) (h6.2 c8)
set_option maxRecDepth 100000 in
set_option maxHeartbeats 4000000 in
theorem r_X1_paintFrom_0 {d : Nat} {QR : Option gw_SV → gw_Mem → Prop} {Γ : gw_Ga} (x1 : Int) (x2 : Int) (x3 : Int) (m : gw_Mem) (hd : 8 ≤ d) (h : ((x1 < m 101 0 → gw_G M_X1_paintFrom d QR Γ 13 [some (gR 101), some (gI x1), some (gI x2), some (gI x3), some (gI 0)] [] m) ∧ (¬ (x1 < m 101 0) → QR (some (gI 1)) m))) : gw_G M_X1_paintFrom d QR Γ 0 [some (gR 101), some (gI x1), some (gI x2), some (gI x3), none] [] m := by
  refine gw_iload_n 1 d_X1_paintFrom_0 rfl rfl ?_
  refine gw_aload_n 2 d_X1_paintFrom_1 rfl rfl ?_
  refine gw_getI 5 d_X1_paintFrom_2 rfl F_1_9 sh_101 rfl (kz := 0) rfl ?_
  refine gw_icmp_lt 10 8 d_X1_paintFrom_5 rfl rfl (fun c7 => ?_) (fun c7 => ?_)
  · skip
    refine gw_iconst 11 d_X1_paintFrom_10 rfl rfl ?_
    refine gw_istore (ls' := [some (gR 101), some (gI x1), some (gI x2), some (gI x3), some (gI 0)]) 13 d_X1_paintFrom_11 rfl rfl rfl rfl ?_
    exact (h.1 c7)
  · skip
    refine gw_iconst 9 d_X1_paintFrom_8 rfl rfl ?_
    exact gw_ireturn d_X1_paintFrom_9 (Or.inr ⟨rfl, gw_b1⟩) (h.2 c7)
set_option maxRecDepth 100000 in
set_option maxHeartbeats 4000000 in
theorem r_X1_paintFrom_13 {d : Nat} {QR : Option gw_SV → gw_Mem → Prop} {Γ : gw_Ga} (x1 : Int) (x2 : Int) (x3 : Int) (x4 : Int) (m : gw_Mem) (hd : 8 ≤ d) (h : ((x2 < x4 → QR (some (gI 0)) m) ∧ (¬ (x2 < x4) → ((x3 ≤ x4 → QR (some (gI 0)) m) ∧ (¬ (x3 ≤ x4) → gw_CI d M_X1_isFree [gR 101, gI x1, gI x4] m (fun v1 m2 => ((v1 = 0 → gw_G M_X1_paintFrom d QR Γ 64 [some (gR 101), some (gI x1), some (gI x2), some (gI x3), some (gI x4)] [] m2) ∧ (¬ (v1 = 0) → gw_in x1 8 ∧ gw_CI d M_X1_paintFrom [gR 101, gI (gw_w (x1 + 1)), gI (max x2 (gw_w (x4 + 1))), gI x3] (gw_up m2 103 x1 x4) (fun v4 m5 => ((v4 = 0 → gw_G M_X1_paintFrom d QR Γ 64 [some (gR 101), some (gI x1), some (gI x2), some (gI x3), some (gI x4)] [] m5) ∧ (¬ (v4 = 0) → QR (some (gI 1)) m5))))))))))) : gw_G M_X1_paintFrom d QR Γ 13 [some (gR 101), some (gI x1), some (gI x2), some (gI x3), some (gI x4)] [] m := by
  refine gw_iload 15 d_X1_paintFrom_13 rfl rfl ?_
  refine gw_iload_n 16 d_X1_paintFrom_15 rfl rfl ?_
  refine gw_icmp_gt 70 19 d_X1_paintFrom_16 rfl rfl (fun c8 => ?_) (fun c8 => ?_)
  · skip
    refine gw_iconst 71 d_X1_paintFrom_70 rfl rfl ?_
    exact gw_ireturn d_X1_paintFrom_71 (Or.inr ⟨rfl, gw_b0⟩) (h.1 c8)
  · skip
    refine gw_iload 21 d_X1_paintFrom_19 rfl rfl ?_
    refine gw_iload_n 22 d_X1_paintFrom_21 rfl rfl ?_
    refine gw_icmp_ge 70 25 d_X1_paintFrom_22 rfl rfl (fun c9 => ?_) (fun c9 => ?_)
    · skip
      refine gw_iconst 71 d_X1_paintFrom_70 rfl rfl ?_
      exact gw_ireturn d_X1_paintFrom_71 (Or.inr ⟨rfl, gw_b0⟩) ((h.2 c8).1 c9)
    · skip
      refine gw_aload_n 26 d_X1_paintFrom_25 rfl rfl ?_
      refine gw_iload_n 27 d_X1_paintFrom_26 rfl rfl ?_
      refine gw_iload 29 d_X1_paintFrom_27 rfl rfl ?_
      refine gw_cVI (a := [gI x1, gI x4]) (rest := []) 32 d_X1_paintFrom_29 rfl ml_1_26 v_X1_isFree rfl sh_101 rfl rfl rfl ((h.2 c8).2 c9) (fun v1 m2 h3 => ?_)
      refine gw_if_eq 64 35 d_X1_paintFrom_32 rfl rfl (fun c10 => ?_) (fun c10 => ?_)
      · skip
        exact (h3.1 c10)
      · skip
        refine gw_aload_n 36 d_X1_paintFrom_35 rfl rfl ?_
        refine gw_getR 39 d_X1_paintFrom_36 rfl F_1_19 sh_101 rfl ?_
        refine gw_iload_n 40 d_X1_paintFrom_39 rfl rfl ?_
        refine gw_iload 42 d_X1_paintFrom_40 rfl rfl ?_
        refine gw_iastore 43 d_X1_paintFrom_42 rfl sh_103 (h3.2 c10).1 ?_
        refine gw_aload_n 44 d_X1_paintFrom_43 rfl rfl ?_
        refine gw_iload_n 45 d_X1_paintFrom_44 rfl rfl ?_
        refine gw_iconst 46 d_X1_paintFrom_45 rfl rfl ?_
        refine gw_iadd 47 d_X1_paintFrom_46 rfl  ?_
        refine gw_iload_n 48 d_X1_paintFrom_47 rfl rfl ?_
        refine gw_iload 50 d_X1_paintFrom_48 rfl rfl ?_
        refine gw_iconst 51 d_X1_paintFrom_50 rfl rfl ?_
        refine gw_iadd 52 d_X1_paintFrom_51 rfl  ?_
        refine gw_max 55 d_X1_paintFrom_52 rfl mj_1_30 (gw_d1 hd) rfl rfl ?_
        refine gw_iload_n 56 d_X1_paintFrom_55 rfl rfl ?_
        refine gw_cSI (a := [gR 101, gI (gw_w (x1 + 1)), gI (max x2 (gw_w (x4 + 1))), gI x3]) (rest := []) 59 d_X1_paintFrom_56 rfl ml_1_22 v_X1_paintFrom rfl rfl rfl (h3.2 c10).2 (fun v4 m5 h6 => ?_)
        refine gw_if_eq 64 62 d_X1_paintFrom_59 rfl rfl (fun c11 => ?_) (fun c11 => ?_)
        · skip
          exact (h6.1 c11)
        · skip
          refine gw_iconst 63 d_X1_paintFrom_62 rfl rfl ?_
          exact gw_ireturn d_X1_paintFrom_63 (Or.inr ⟨rfl, gw_b1⟩) (h6.2 c11)
set_option maxRecDepth 100000 in
set_option maxHeartbeats 4000000 in
theorem r_X1_paintFrom_64 {d : Nat} {QR : Option gw_SV → gw_Mem → Prop} {Γ : gw_Ga} (x1 : Int) (x2 : Int) (x3 : Int) (x4 : Int) (m : gw_Mem) (hd : 8 ≤ d) (h : gw_G M_X1_paintFrom d QR Γ 13 [some (gR 101), some (gI x1), some (gI x2), some (gI x3), some (gI (gw_w (x4 + 1)))] [] m) : gw_G M_X1_paintFrom d QR Γ 64 [some (gR 101), some (gI x1), some (gI x2), some (gI x3), some (gI x4)] [] m := by
  refine gw_iinc (ls' := [some (gR 101), some (gI x1), some (gI x2), some (gI x3), some (gI (gw_w (x4 + 1)))]) 67 d_X1_paintFrom_64 rfl rfl rfl rfl rfl ?_
  refine gw_goto 13 d_X1_paintFrom_67 rfl ?_
  exact h
set_option maxRecDepth 100000 in
set_option maxHeartbeats 4000000 in
theorem r_X1_isFree_0 {d : Nat} {QR : Option gw_SV → gw_Mem → Prop} {Γ : gw_Ga} (x1 : Int) (x2 : Int) (m : gw_Mem) (h : gw_G M_X1_isFree d QR Γ 2 [some (gR 101), some (gI x1), some (gI x2), some (gI 0)] [] m) : gw_G M_X1_isFree d QR Γ 0 [some (gR 101), some (gI x1), some (gI x2), none] [] m := by
  refine gw_iconst 1 d_X1_isFree_0 rfl rfl ?_
  refine gw_istore_n (ls' := [some (gR 101), some (gI x1), some (gI x2), some (gI 0)]) 2 d_X1_isFree_1 rfl rfl rfl rfl ?_
  exact h
set_option maxRecDepth 100000 in
set_option maxHeartbeats 4000000 in
theorem r_X1_isFree_2 {d : Nat} {QR : Option gw_SV → gw_Mem → Prop} {Γ : gw_Ga} (x1 : Int) (x2 : Int) (x3 : Int) (m : gw_Mem) (h : ((x1 ≤ x3 → QR (some (gI 1)) m) ∧ (¬ (x1 ≤ x3) → gw_in x1 8 ∧ ((gw_and (gw_shr (m 102 x1) x3) 1 = 1 → gw_in x3 8 ∧ ((m 103 x3 = x2 → QR (some (gI 0)) m) ∧ (¬ (m 103 x3 = x2) → gw_G M_X1_isFree d QR Γ 33 [some (gR 101), some (gI x1), some (gI x2), some (gI x3)] [] m))) ∧ (¬ (gw_and (gw_shr (m 102 x1) x3) 1 = 1) → gw_G M_X1_isFree d QR Γ 33 [some (gR 101), some (gI x1), some (gI x2), some (gI x3)] [] m))))) : gw_G M_X1_isFree d QR Γ 2 [some (gR 101), some (gI x1), some (gI x2), some (gI x3)] [] m := by
  refine gw_iload_n 3 d_X1_isFree_2 rfl rfl ?_
  refine gw_iload_n 4 d_X1_isFree_3 rfl rfl ?_
  refine gw_icmp_ge 39 7 d_X1_isFree_4 rfl rfl (fun c1 => ?_) (fun c1 => ?_)
  · skip
    refine gw_iconst 40 d_X1_isFree_39 rfl rfl ?_
    exact gw_ireturn d_X1_isFree_40 (Or.inr ⟨rfl, gw_b1⟩) (h.1 c1)
  · skip
    refine gw_aload_n 8 d_X1_isFree_7 rfl rfl ?_
    refine gw_getR 11 d_X1_isFree_8 rfl F_1_15 sh_101 rfl ?_
    refine gw_iload_n 12 d_X1_isFree_11 rfl rfl ?_
    refine gw_iaload 13 d_X1_isFree_12 rfl sh_102 (h.2 c1).1 ?_
    refine gw_iload_n 14 d_X1_isFree_13 rfl rfl ?_
    refine gw_ishr 15 d_X1_isFree_14 rfl  ?_
    refine gw_iconst 16 d_X1_isFree_15 rfl rfl ?_
    refine gw_iand 17 d_X1_isFree_16 rfl  ?_
    refine gw_iconst 18 d_X1_isFree_17 rfl rfl ?_
    refine gw_icmp_ne 33 21 d_X1_isFree_18 rfl rfl (fun c2 => ?_) (fun c2 => ?_)
    · skip
      refine gw_aload_n 22 d_X1_isFree_21 rfl rfl ?_
      refine gw_getR 25 d_X1_isFree_22 rfl F_1_19 sh_101 rfl ?_
      refine gw_iload_n 26 d_X1_isFree_25 rfl rfl ?_
      refine gw_iaload 27 d_X1_isFree_26 rfl sh_103 ((h.2 c1).2.1 c2).1 ?_
      refine gw_iload_n 28 d_X1_isFree_27 rfl rfl ?_
      refine gw_icmp_ne 33 31 d_X1_isFree_28 rfl rfl (fun c3 => ?_) (fun c3 => ?_)
      · skip
        refine gw_iconst 32 d_X1_isFree_31 rfl rfl ?_
        exact gw_ireturn d_X1_isFree_32 (Or.inr ⟨rfl, gw_b0⟩) (((h.2 c1).2.1 c2).2.1 c3)
      · skip
        exact (((h.2 c1).2.1 c2).2.2 c3)
    · skip
      exact ((h.2 c1).2.2 c2)
set_option maxRecDepth 100000 in
set_option maxHeartbeats 4000000 in
theorem r_X1_isFree_33 {d : Nat} {QR : Option gw_SV → gw_Mem → Prop} {Γ : gw_Ga} (x1 : Int) (x2 : Int) (x3 : Int) (m : gw_Mem) (h : gw_G M_X1_isFree d QR Γ 2 [some (gR 101), some (gI x1), some (gI x2), some (gI (gw_w (x3 + 1)))] [] m) : gw_G M_X1_isFree d QR Γ 33 [some (gR 101), some (gI x1), some (gI x2), some (gI x3)] [] m := by
  refine gw_iinc (ls' := [some (gR 101), some (gI x1), some (gI x2), some (gI (gw_w (x3 + 1)))]) 36 d_X1_isFree_33 rfl rfl rfl rfl rfl ?_
  refine gw_goto 2 d_X1_isFree_36 rfl ?_
  exact h
set_option maxRecDepth 100000 in
set_option maxHeartbeats 4000000 in
theorem r_X2_clear_0 {d : Nat} {QR : Option gw_SV → gw_Mem → Prop} {Γ : gw_Ga} (b0 : Nat) (hb0 : gw_isHalt b0) (m : gw_Mem) (h : QR none (gw_up (gw_up (gw_up (gw_up (gw_up (gw_up m b0 0 0) b0 1 0) b0 2 0) b0 3 0) b0 4 0) b0 5 0)) : gw_G M_X2_clear d QR Γ 0 [some (gR b0)] [] m := by
  refine gw_aload_n 1 d_X2_clear_0 rfl rfl ?_
  refine gw_iconst 2 d_X2_clear_1 rfl rfl ?_
  refine gw_putI 5 d_X2_clear_2 rfl P_2_7 (Or.inr ⟨rfl, gw_b0⟩) (shHalt_0 hb0) rfl (kz := 0) rfl ?_
  refine gw_aload_n 6 d_X2_clear_5 rfl rfl ?_
  refine gw_iconst 7 d_X2_clear_6 rfl rfl ?_
  refine gw_putI 10 d_X2_clear_7 rfl P_2_13 (Or.inr ⟨rfl, gw_b0⟩) (shHalt_0 hb0) rfl (kz := 1) rfl ?_
  refine gw_aload_n 11 d_X2_clear_10 rfl rfl ?_
  refine gw_iconst 12 d_X2_clear_11 rfl rfl ?_
  refine gw_putI 15 d_X2_clear_12 rfl P_2_16 (Or.inl rfl) (shHalt_0 hb0) rfl (kz := 2) rfl ?_
  refine gw_aload_n 16 d_X2_clear_15 rfl rfl ?_
  refine gw_iconst 17 d_X2_clear_16 rfl rfl ?_
  refine gw_putI 20 d_X2_clear_17 rfl P_2_20 (Or.inl rfl) (shHalt_0 hb0) rfl (kz := 3) rfl ?_
  refine gw_aload_n 21 d_X2_clear_20 rfl rfl ?_
  refine gw_iconst 22 d_X2_clear_21 rfl rfl ?_
  refine gw_putI 25 d_X2_clear_22 rfl P_2_23 (Or.inl rfl) (shHalt_0 hb0) rfl (kz := 4) rfl ?_
  refine gw_aload_n 26 d_X2_clear_25 rfl rfl ?_
  refine gw_iconst 27 d_X2_clear_26 rfl rfl ?_
  refine gw_putI 30 d_X2_clear_27 rfl P_2_26 (Or.inl rfl) (shHalt_0 hb0) rfl (kz := 5) rfl ?_
  exact gw_return d_X2_clear_30 rfl h
set_option maxRecDepth 100000 in
set_option maxHeartbeats 4000000 in
theorem r_X3_isTaken_0 {d : Nat} {QR : Option gw_SV → gw_Mem → Prop} {Γ : gw_Ga} (b0 : Nat) (hb0 : gw_isMarks b0) (x1 : Int) (x2 : Int) (m : gw_Mem) (h : gw_G M_X3_isTaken d QR Γ 2 [some (gR b0), some (gI x1), some (gI x2), some (gI 0)] [] m) : gw_G M_X3_isTaken d QR Γ 0 [some (gR b0), some (gI x1), some (gI x2), none] [] m := by
  refine gw_iconst 1 d_X3_isTaken_0 rfl rfl ?_
  refine gw_istore_n (ls' := [some (gR b0), some (gI x1), some (gI x2), some (gI 0)]) 2 d_X3_isTaken_1 rfl rfl rfl rfl ?_
  exact h
set_option maxRecDepth 100000 in
set_option maxHeartbeats 4000000 in
theorem r_X3_isTaken_2 {d : Nat} {QR : Option gw_SV → gw_Mem → Prop} {Γ : gw_Ga} (b0 : Nat) (hb0 : gw_isMarks b0) (x1 : Int) (x2 : Int) (x3 : Int) (m : gw_Mem) (h : gw_in x1 4 ∧ ((m (b0 + 1) x1 ≤ x3 → QR (some (gI 0)) m) ∧ (¬ (m (b0 + 1) x1 ≤ x3) → gw_in x1 4 ∧ gw_in x3 8 ∧ ((m (b0 + 5 + x1.toNat) x3 = x2 → QR (some (gI 1)) m) ∧ (¬ (m (b0 + 5 + x1.toNat) x3 = x2) → gw_G M_X3_isTaken d QR Γ 2 [some (gR b0), some (gI x1), some (gI x2), some (gI (gw_w (x3 + 1)))] [] m))))) : gw_G M_X3_isTaken d QR Γ 2 [some (gR b0), some (gI x1), some (gI x2), some (gI x3)] [] m := by
  refine gw_iload_n 3 d_X3_isTaken_2 rfl rfl ?_
  refine gw_aload_n 4 d_X3_isTaken_3 rfl rfl ?_
  refine gw_getR 7 d_X3_isTaken_4 rfl F_3_9 (shMarks_0 hb0) rfl ?_
  refine gw_iload_n 8 d_X3_isTaken_7 rfl rfl ?_
  refine gw_iaload 9 d_X3_isTaken_8 rfl (shMarks_1 hb0) h.1 ?_
  refine gw_icmp_ge 32 12 d_X3_isTaken_9 rfl rfl (fun c1 => ?_) (fun c1 => ?_)
  · skip
    refine gw_iconst 33 d_X3_isTaken_32 rfl rfl ?_
    exact gw_ireturn d_X3_isTaken_33 (Or.inr ⟨rfl, gw_b0⟩) (h.2.1 c1)
  · skip
    refine gw_aload_n 13 d_X3_isTaken_12 rfl rfl ?_
    refine gw_getR 16 d_X3_isTaken_13 rfl F_3_17 (shMarks_0 hb0) rfl ?_
    refine gw_iload_n 17 d_X3_isTaken_16 rfl rfl ?_
    refine gw_aaload 18 d_X3_isTaken_17 rfl (shMarks_2 hb0) (Or.inl rfl) (h.2.2 c1).1 (gw_row4 (h.2.2 c1).1) ?_
    refine gw_iload_n 19 d_X3_isTaken_18 rfl rfl ?_
    refine gw_iaload 20 d_X3_isTaken_19 rfl (shMarks_row5 hb0 (h.2.2 c1).1) (h.2.2 c1).2.1 ?_
    refine gw_iload_n 21 d_X3_isTaken_20 rfl rfl ?_
    refine gw_icmp_ne 26 24 d_X3_isTaken_21 rfl rfl (fun c2 => ?_) (fun c2 => ?_)
    · skip
      refine gw_iconst 25 d_X3_isTaken_24 rfl rfl ?_
      exact gw_ireturn d_X3_isTaken_25 (Or.inr ⟨rfl, gw_b1⟩) ((h.2.2 c1).2.2.1 c2)
    · skip
      refine gw_iinc (ls' := [some (gR b0), some (gI x1), some (gI x2), some (gI (gw_w (x3 + 1)))]) 29 d_X3_isTaken_26 rfl rfl rfl rfl rfl ?_
      refine gw_goto 2 d_X3_isTaken_29 rfl ?_
      exact ((h.2.2 c1).2.2.2 c2)
set_option maxRecDepth 100000 in
set_option maxHeartbeats 4000000 in
theorem r_X3_add_0 {d : Nat} {QR : Option gw_SV → gw_Mem → Prop} {Γ : gw_Ga} (b0 : Nat) (hb0 : gw_isMarks b0) (x1 : Int) (x2 : Int) (x3 : Int) (m : gw_Mem) (h : gw_CI d M_X3_isTaken [gR b0, gI x1, gI x2] m (fun v1 m2 => ((v1 = 0 → gw_in x1 4 ∧ ((m2 (b0 + 1) x1 < 8 → gw_in x1 4 ∧ gw_in (m2 (b0 + 1) x1) 8 ∧ gw_in x1 4 ∧ gw_in (m2 (b0 + 1) x1) 8 ∧ ((x1 = 0 → gw_in (m2 (b0 + 1) x1) 8 ∧ gw_G M_X3_add d QR Γ 63 [some (gR b0), some (gI x1), some (gI x2), some (gI x3), some (gI (m2 (b0 + 1) x1))] [] (gw_up (gw_up (gw_up m2 (b0 + 5 + x1.toNat) (m2 (b0 + 1) x1) x2) (b0 + 9 + x1.toNat) (m2 (b0 + 1) x1) x3) (b0 + 4) (m2 (b0 + 1) x1) 10)) ∧ (¬ (x1 = 0) → gw_G M_X3_add d QR Γ 63 [some (gR b0), some (gI x1), some (gI x2), some (gI x3), some (gI (m2 (b0 + 1) x1))] [] (gw_up (gw_up m2 (b0 + 5 + x1.toNat) (m2 (b0 + 1) x1) x2) (b0 + 9 + x1.toNat) (m2 (b0 + 1) x1) x3)))) ∧ (¬ (m2 (b0 + 1) x1 < 8) → QR (some (gI (-3))) m2))) ∧ (¬ (v1 = 0) → QR (some (gI (-2))) m2)))) : gw_G M_X3_add d QR Γ 0 [some (gR b0), some (gI x1), some (gI x2), some (gI x3), none] [] m := by
  refine gw_aload_n 1 d_X3_add_0 rfl rfl ?_
  refine gw_iload_n 2 d_X3_add_1 rfl rfl ?_
  refine gw_iload_n 3 d_X3_add_2 rfl rfl ?_
  refine gw_cVI (a := [gI x1, gI x2]) (rest := []) 6 d_X3_add_3 rfl ml_3_26 v_X3_isTaken rfl (shMarks_0 hb0) rfl rfl rfl h (fun v1 m2 h3 => ?_)
  refine gw_if_eq 12 9 d_X3_add_6 rfl rfl (fun c4 => ?_) (fun c4 => ?_)
  · skip
    refine gw_aload_n 13 d_X3_add_12 rfl rfl ?_
    refine gw_getR 16 d_X3_add_13 rfl F_3_9 (shMarks_0 hb0) rfl ?_
    refine gw_iload_n 17 d_X3_add_16 rfl rfl ?_
    refine gw_iaload 18 d_X3_add_17 rfl (shMarks_1 hb0) (h3.1 c4).1 ?_
    refine gw_istore (ls' := [some (gR b0), some (gI x1), some (gI x2), some (gI x3), some (gI (m2 (b0 + 1) x1))]) 20 d_X3_add_18 rfl rfl rfl rfl ?_
    refine gw_iload 22 d_X3_add_20 rfl rfl ?_
    refine gw_bipush 24 d_X3_add_22 rfl rfl (by decide) ?_
    refine gw_icmp_lt 30 27 d_X3_add_24 rfl rfl (fun c5 => ?_) (fun c5 => ?_)
    · skip
      refine gw_aload_n 31 d_X3_add_30 rfl rfl ?_
      refine gw_getR 34 d_X3_add_31 rfl F_3_17 (shMarks_0 hb0) rfl ?_
      refine gw_iload_n 35 d_X3_add_34 rfl rfl ?_
      refine gw_aaload 36 d_X3_add_35 rfl (shMarks_2 hb0) (Or.inl rfl) ((h3.1 c4).2.1 c5).1 (gw_row4 ((h3.1 c4).2.1 c5).1) ?_
      refine gw_iload 38 d_X3_add_36 rfl rfl ?_
      refine gw_iload_n 39 d_X3_add_38 rfl rfl ?_
      refine gw_iastore 40 d_X3_add_39 rfl (shMarks_row5 hb0 ((h3.1 c4).2.1 c5).1) ((h3.1 c4).2.1 c5).2.1 ?_
      refine gw_aload_n 41 d_X3_add_40 rfl rfl ?_
      refine gw_getR 44 d_X3_add_41 rfl F_3_20 (shMarks_0 hb0) rfl ?_
      refine gw_iload_n 45 d_X3_add_44 rfl rfl ?_
      refine gw_aaload 46 d_X3_add_45 rfl (shMarks_3 hb0) (Or.inl rfl) ((h3.1 c4).2.1 c5).2.2.1 (gw_row4 ((h3.1 c4).2.1 c5).2.2.1) ?_
      refine gw_iload 48 d_X3_add_46 rfl rfl ?_
      refine gw_iload_n 49 d_X3_add_48 rfl rfl ?_
      refine gw_iastore 50 d_X3_add_49 rfl (shMarks_row9 hb0 ((h3.1 c4).2.1 c5).2.2.1) ((h3.1 c4).2.1 c5).2.2.2.1 ?_
      refine gw_iload_n 51 d_X3_add_50 rfl rfl ?_
      refine gw_if_ne 63 54 d_X3_add_51 rfl rfl (fun c6 => ?_) (fun c6 => ?_)
      · skip
        refine gw_aload_n 55 d_X3_add_54 rfl rfl ?_
        refine gw_getR 58 d_X3_add_55 rfl F_3_23 (shMarks_0 hb0) rfl ?_
        refine gw_iload 60 d_X3_add_58 rfl rfl ?_
        refine gw_bipush 62 d_X3_add_60 rfl rfl (by decide) ?_
        refine gw_iastore 63 d_X3_add_62 rfl (shMarks_4 hb0) (((h3.1 c4).2.1 c5).2.2.2.2.1 c6).1 ?_
        exact (((h3.1 c4).2.1 c5).2.2.2.2.1 c6).2
      · skip
        exact (((h3.1 c4).2.1 c5).2.2.2.2.2 c6)
    · skip
      refine gw_bipush 29 d_X3_add_27 rfl rfl (by decide) ?_
      exact gw_ireturn d_X3_add_29 (Or.inl rfl) ((h3.1 c4).2.2 c5)
  · skip
    refine gw_bipush 11 d_X3_add_9 rfl rfl (by decide) ?_
    exact gw_ireturn d_X3_add_11 (Or.inl rfl) (h3.2 c4)
set_option maxRecDepth 100000 in
set_option maxHeartbeats 4000000 in
theorem r_X3_add_63 {d : Nat} {QR : Option gw_SV → gw_Mem → Prop} {Γ : gw_Ga} (b0 : Nat) (hb0 : gw_isMarks b0) (x1 : Int) (x2 : Int) (x3 : Int) (x4 : Int) (m : gw_Mem) (h : gw_in x1 4 ∧ QR (some (gI x4)) (gw_up m (b0 + 1) x1 (gw_w (x4 + 1)))) : gw_G M_X3_add d QR Γ 63 [some (gR b0), some (gI x1), some (gI x2), some (gI x3), some (gI x4)] [] m := by
  refine gw_aload_n 64 d_X3_add_63 rfl rfl ?_
  refine gw_getR 67 d_X3_add_64 rfl F_3_9 (shMarks_0 hb0) rfl ?_
  refine gw_iload_n 68 d_X3_add_67 rfl rfl ?_
  refine gw_iload 70 d_X3_add_68 rfl rfl ?_
  refine gw_iconst 71 d_X3_add_70 rfl rfl ?_
  refine gw_iadd 72 d_X3_add_71 rfl  ?_
  refine gw_iastore 73 d_X3_add_72 rfl (shMarks_1 hb0) h.1 ?_
  refine gw_iload 75 d_X3_add_73 rfl rfl ?_
  exact gw_ireturn d_X3_add_75 (Or.inl rfl) h.2
set_option maxRecDepth 100000 in
set_option maxHeartbeats 4000000 in
theorem r_X3_take_0 {d : Nat} {QR : Option gw_SV → gw_Mem → Prop} {Γ : gw_Ga} (b0 : Nat) (hb0 : gw_isMarks b0) (b1 : Nat) (hb1 : gw_isMarks b1) (m : gw_Mem) (hd : 8 ≤ d) (h : gw_G M_X3_take d QR Γ 2 [some (gR b0), some (gR b1), some (gI 0)] [] m) : gw_G M_X3_take d QR Γ 0 [some (gR b0), some (gR b1), none] [] m := by
  refine gw_iconst 1 d_X3_take_0 rfl rfl ?_
  refine gw_istore_n (ls' := [some (gR b0), some (gR b1), some (gI 0)]) 2 d_X3_take_1 rfl rfl rfl rfl ?_
  exact h
set_option maxRecDepth 100000 in
set_option maxHeartbeats 4000000 in
theorem r_X3_take_2 {d : Nat} {QR : Option gw_SV → gw_Mem → Prop} {Γ : gw_Ga} (b0 : Nat) (hb0 : gw_isMarks b0) (b1 : Nat) (hb1 : gw_isMarks b1) (x2 : Int) (m : gw_Mem) (hd : 8 ≤ d) (h : ((3 < x2 → QR none (gw_cp m (b1 + 4) 0 (b0 + 4) 0 8)) ∧ (¬ (3 < x2) → gw_in x2 4 ∧ gw_in x2 4 ∧ gw_in x2 4 ∧ gw_in x2 4 ∧ gw_in x2 4 ∧ gw_in x2 4 ∧ gw_G M_X3_take d QR Γ 2 [some (gR b0), some (gR b1), some (gI (gw_w (x2 + 1)))] [] (gw_cp (gw_cp (gw_up m (b0 + 1) x2 (m (b1 + 1) x2)) (b1 + 5 + x2.toNat) 0 (b0 + 5 + x2.toNat) 0 8) (b1 + 9 + x2.toNat) 0 (b0 + 9 + x2.toNat) 0 8)))) : gw_G M_X3_take d QR Γ 2 [some (gR b0), some (gR b1), some (gI x2)] [] m := by
  refine gw_iload_n 3 d_X3_take_2 rfl rfl ?_
  refine gw_iconst 4 d_X3_take_3 rfl rfl ?_
  refine gw_icmp_gt 63 7 d_X3_take_4 rfl rfl (fun c1 => ?_) (fun c1 => ?_)
  · skip
    refine gw_aload_n 64 d_X3_take_63 rfl rfl ?_
    refine gw_getR 67 d_X3_take_64 rfl F_3_23 (shMarks_0 hb1) rfl ?_
    refine gw_iconst 68 d_X3_take_67 rfl rfl ?_
    refine gw_aload_n 69 d_X3_take_68 rfl rfl ?_
    refine gw_getR 72 d_X3_take_69 rfl F_3_23 (shMarks_0 hb0) rfl ?_
    refine gw_iconst 73 d_X3_take_72 rfl rfl ?_
    refine gw_bipush 75 d_X3_take_73 rfl rfl (by decide) ?_
    refine gw_copy 78 d_X3_take_75 rfl mj_3_30 (gw_d1 hd) (shMarks_4 hb1) (shMarks_4 hb0) (Or.inl rfl) (by decide) ?_
    exact gw_return d_X3_take_78 rfl (h.1 c1)
  · skip
    refine gw_aload_n 8 d_X3_take_7 rfl rfl ?_
    refine gw_getR 11 d_X3_take_8 rfl F_3_9 (shMarks_0 hb0) rfl ?_
    refine gw_iload_n 12 d_X3_take_11 rfl rfl ?_
    refine gw_aload_n 13 d_X3_take_12 rfl rfl ?_
    refine gw_getR 16 d_X3_take_13 rfl F_3_9 (shMarks_0 hb1) rfl ?_
    refine gw_iload_n 17 d_X3_take_16 rfl rfl ?_
    refine gw_iaload 18 d_X3_take_17 rfl (shMarks_1 hb1) (h.2 c1).1 ?_
    refine gw_iastore 19 d_X3_take_18 rfl (shMarks_1 hb0) (h.2 c1).2.1 ?_
    refine gw_aload_n 20 d_X3_take_19 rfl rfl ?_
    refine gw_getR 23 d_X3_take_20 rfl F_3_17 (shMarks_0 hb1) rfl ?_
    refine gw_iload_n 24 d_X3_take_23 rfl rfl ?_
    refine gw_aaload 25 d_X3_take_24 rfl (shMarks_2 hb1) (Or.inl rfl) (h.2 c1).2.2.1 (gw_row4 (h.2 c1).2.2.1) ?_
    refine gw_iconst 26 d_X3_take_25 rfl rfl ?_
    refine gw_aload_n 27 d_X3_take_26 rfl rfl ?_
    refine gw_getR 30 d_X3_take_27 rfl F_3_17 (shMarks_0 hb0) rfl ?_
    refine gw_iload_n 31 d_X3_take_30 rfl rfl ?_
    refine gw_aaload 32 d_X3_take_31 rfl (shMarks_2 hb0) (Or.inl rfl) (h.2 c1).2.2.2.1 (gw_row4 (h.2 c1).2.2.2.1) ?_
    refine gw_iconst 33 d_X3_take_32 rfl rfl ?_
    refine gw_bipush 35 d_X3_take_33 rfl rfl (by decide) ?_
    refine gw_copy 38 d_X3_take_35 rfl mj_3_30 (gw_d1 hd) (shMarks_row5 hb1 (h.2 c1).2.2.1) (shMarks_row5 hb0 (h.2 c1).2.2.2.1) (Or.inl rfl) (by decide) ?_
    refine gw_aload_n 39 d_X3_take_38 rfl rfl ?_
    refine gw_getR 42 d_X3_take_39 rfl F_3_20 (shMarks_0 hb1) rfl ?_
    refine gw_iload_n 43 d_X3_take_42 rfl rfl ?_
    refine gw_aaload 44 d_X3_take_43 rfl (shMarks_3 hb1) (Or.inl rfl) (h.2 c1).2.2.2.2.1 (gw_row4 (h.2 c1).2.2.2.2.1) ?_
    refine gw_iconst 45 d_X3_take_44 rfl rfl ?_
    refine gw_aload_n 46 d_X3_take_45 rfl rfl ?_
    refine gw_getR 49 d_X3_take_46 rfl F_3_20 (shMarks_0 hb0) rfl ?_
    refine gw_iload_n 50 d_X3_take_49 rfl rfl ?_
    refine gw_aaload 51 d_X3_take_50 rfl (shMarks_3 hb0) (Or.inl rfl) (h.2 c1).2.2.2.2.2.1 (gw_row4 (h.2 c1).2.2.2.2.2.1) ?_
    refine gw_iconst 52 d_X3_take_51 rfl rfl ?_
    refine gw_bipush 54 d_X3_take_52 rfl rfl (by decide) ?_
    refine gw_copy 57 d_X3_take_54 rfl mj_3_30 (gw_d1 hd) (shMarks_row9 hb1 (h.2 c1).2.2.2.2.1) (shMarks_row9 hb0 (h.2 c1).2.2.2.2.2.1) (Or.inl rfl) (by decide) ?_
    refine gw_iinc (ls' := [some (gR b0), some (gR b1), some (gI (gw_w (x2 + 1)))]) 60 d_X3_take_57 rfl rfl rfl rfl rfl ?_
    refine gw_goto 2 d_X3_take_60 rfl ?_
    exact (h.2 c1).2.2.2.2.2.2
set_option maxRecDepth 100000 in
set_option maxHeartbeats 4000000 in
theorem r_X4_lay_0 {d : Nat} {QR : Option gw_SV → gw_Mem → Prop} {Γ : gw_Ga} (b0 : Nat) (hb0 : gw_isPath b0) (b1 : Nat) (hb1 : gw_isMarks b1) (x2 : Int) (m : gw_Mem) (h : gw_CV d M_X4_layKind [gR b0, gR (b0 + 1), gR b1, gI 0] (gw_up m b0 0 x2) (fun m1 => gw_CV d M_X4_layKind [gR b0, gR (b0 + 2), gR b1, gI 1] m1 (fun m3 => gw_CV d M_X4_layKind [gR b0, gR (b0 + 3), gR b1, gI 2] m3 (fun m5 => gw_CV d M_X4_layKind [gR b0, gR (b0 + 4), gR b1, gI 3] m5 (fun m7 => QR none m7))))) : gw_G M_X4_lay d QR Γ 0 [some (gR b0), some (gR b1), some (gI x2)] [] m := by
  refine gw_aload_n 1 d_X4_lay_0 rfl rfl ?_
  refine gw_iload_n 2 d_X4_lay_1 rfl rfl ?_
  refine gw_putI 5 d_X4_lay_2 rfl P_4_9 (Or.inl rfl) (shPath_0 hb0) rfl (kz := 0) rfl ?_
  refine gw_aload_n 6 d_X4_lay_5 rfl rfl ?_
  refine gw_aload_n 7 d_X4_lay_6 rfl rfl ?_
  refine gw_getR 10 d_X4_lay_7 rfl F_4_15 (shPath_0 hb0) rfl ?_
  refine gw_aload_n 11 d_X4_lay_10 rfl rfl ?_
  refine gw_iconst 12 d_X4_lay_11 rfl rfl ?_
  refine gw_cVV (a := [gR (b0 + 1), gR b1, gI 0]) (rest := []) 15 d_X4_lay_12 rfl ml_4_28 v_X4_layKind rfl (shPath_0 hb0) rfl rfl rfl h (fun m1 h2 => ?_)
  refine gw_aload_n 16 d_X4_lay_15 rfl rfl ?_
  refine gw_aload_n 17 d_X4_lay_16 rfl rfl ?_
  refine gw_getR 20 d_X4_lay_17 rfl F_4_19 (shPath_0 hb0) rfl ?_
  refine gw_aload_n 21 d_X4_lay_20 rfl rfl ?_
  refine gw_iconst 22 d_X4_lay_21 rfl rfl ?_
  refine gw_cVV (a := [gR (b0 + 2), gR b1, gI 1]) (rest := []) 25 d_X4_lay_22 rfl ml_4_28 v_X4_layKind rfl (shPath_0 hb0) rfl rfl rfl h2 (fun m3 h4 => ?_)
  refine gw_aload_n 26 d_X4_lay_25 rfl rfl ?_
  refine gw_aload_n 27 d_X4_lay_26 rfl rfl ?_
  refine gw_getR 30 d_X4_lay_27 rfl F_4_22 (shPath_0 hb0) rfl ?_
  refine gw_aload_n 31 d_X4_lay_30 rfl rfl ?_
  refine gw_iconst 32 d_X4_lay_31 rfl rfl ?_
  refine gw_cVV (a := [gR (b0 + 3), gR b1, gI 2]) (rest := []) 35 d_X4_lay_32 rfl ml_4_28 v_X4_layKind rfl (shPath_0 hb0) rfl rfl rfl h4 (fun m5 h6 => ?_)
  refine gw_aload_n 36 d_X4_lay_35 rfl rfl ?_
  refine gw_aload_n 37 d_X4_lay_36 rfl rfl ?_
  refine gw_getR 40 d_X4_lay_37 rfl F_4_25 (shPath_0 hb0) rfl ?_
  refine gw_aload_n 41 d_X4_lay_40 rfl rfl ?_
  refine gw_iconst 42 d_X4_lay_41 rfl rfl ?_
  refine gw_cVV (a := [gR (b0 + 4), gR b1, gI 3]) (rest := []) 45 d_X4_lay_42 rfl ml_4_28 v_X4_layKind rfl (shPath_0 hb0) rfl rfl rfl h6 (fun m7 h8 => ?_)
  exact gw_return d_X4_lay_45 rfl h8
set_option maxRecDepth 100000 in
set_option maxHeartbeats 4000000 in
theorem r_X4_layKind_0 {d : Nat} {QR : Option gw_SV → gw_Mem → Prop} {Γ : gw_Ga} (b0 : Nat) (hb0 : gw_isPath b0) (b1 nb1 : Nat) (hsb1 : gw_SH[b1]? = some (1, nb1, [])) (hnb1 : gw_rb (nb1 : Int) = true) (b2 : Nat) (hb2 : gw_isMarks b2) (x3 : Int) (m : gw_Mem) (h : gw_G M_X4_layKind d QR Γ 3 [some (gR b0), some (gR b1), some (gR b2), some (gI x3), some (gI 0), none] [] m) : gw_G M_X4_layKind d QR Γ 0 [some (gR b0), some (gR b1), some (gR b2), some (gI x3), none, none] [] m := by
  refine gw_iconst 1 d_X4_layKind_0 rfl rfl ?_
  refine gw_istore (ls' := [some (gR b0), some (gR b1), some (gR b2), some (gI x3), some (gI 0), none]) 3 d_X4_layKind_1 rfl rfl rfl rfl ?_
  exact h
set_option maxRecDepth 100000 in
set_option maxHeartbeats 4000000 in
theorem r_X4_layKind_3 {d : Nat} {QR : Option gw_SV → gw_Mem → Prop} {Γ : gw_Ga} (b0 : Nat) (hb0 : gw_isPath b0) (b1 nb1 : Nat) (hsb1 : gw_SH[b1]? = some (1, nb1, [])) (hnb1 : gw_rb (nb1 : Int) = true) (b2 : Nat) (hb2 : gw_isMarks b2) (x3 : Int) (x4 : Int) (y5 : Option gw_SV) (m : gw_Mem) (h : ((100 ≤ x4 → gw_G M_X4_layKind d QR Γ 24 [some (gR b0), some (gR b1), some (gR b2), some (gI x3), some (gI 0), y5] [] m) ∧ (¬ (100 ≤ x4) → gw_in x4 nb1 ∧ gw_G M_X4_layKind d QR Γ 3 [some (gR b0), some (gR b1), some (gR b2), some (gI x3), some (gI (gw_w (x4 + 1))), y5] [] (gw_up m b1 x4 0)))) : gw_G M_X4_layKind d QR Γ 3 [some (gR b0), some (gR b1), some (gR b2), some (gI x3), some (gI x4), y5] [] m := by
  refine gw_iload 5 d_X4_layKind_3 rfl rfl ?_
  refine gw_bipush 7 d_X4_layKind_5 rfl rfl (by decide) ?_
  refine gw_icmp_ge 21 10 d_X4_layKind_7 rfl rfl (fun c4 => ?_) (fun c4 => ?_)
  · skip
    refine gw_iconst 22 d_X4_layKind_21 rfl rfl ?_
    refine gw_istore (ls' := [some (gR b0), some (gR b1), some (gR b2), some (gI x3), some (gI 0), y5]) 24 d_X4_layKind_22 rfl rfl rfl rfl ?_
    exact (h.1 c4)
  · skip
    refine gw_aload_n 11 d_X4_layKind_10 rfl rfl ?_
    refine gw_iload 13 d_X4_layKind_11 rfl rfl ?_
    refine gw_iconst 14 d_X4_layKind_13 rfl rfl ?_
    refine gw_iastore 15 d_X4_layKind_14 rfl hsb1 (h.2 c4).1 ?_
    refine gw_iinc (ls' := [some (gR b0), some (gR b1), some (gR b2), some (gI x3), some (gI (gw_w (x4 + 1))), y5]) 18 d_X4_layKind_15 rfl rfl rfl rfl rfl ?_
    refine gw_goto 3 d_X4_layKind_18 rfl ?_
    exact (h.2 c4).2
set_option maxRecDepth 100000 in
set_option maxHeartbeats 4000000 in
theorem r_X4_layKind_24 {d : Nat} {QR : Option gw_SV → gw_Mem → Prop} {Γ : gw_Ga} (b0 : Nat) (hb0 : gw_isPath b0) (b1 nb1 : Nat) (hsb1 : gw_SH[b1]? = some (1, nb1, [])) (hnb1 : gw_rb (nb1 : Int) = true) (b2 : Nat) (hb2 : gw_isMarks b2) (x3 : Int) (x4 : Int) (y5 : Option gw_SV) (m : gw_Mem) (h : gw_in x3 4 ∧ ((m (b2 + 1) x3 ≤ x4 → QR none m) ∧ (¬ (m (b2 + 1) x3 ≤ x4) → gw_in x3 4 ∧ gw_in x4 8 ∧ gw_CI d M_X11_within [gI (m (b2 + 5 + x3.toNat) x4), gI 0, gI (gw_w ((m b0 0) - 1))] m (fun v1 m2 => ((v1 = 0 → gw_G M_X4_layKind d QR Γ 74 [some (gR b0), some (gR b1), some (gR b2), some (gI x3), some (gI x4), some (gI (m (b2 + 5 + x3.toNat) x4))] [] m2) ∧ (¬ (v1 = 0) → gw_in x3 4 ∧ gw_in x4 8 ∧ gw_in (m (b2 + 5 + x3.toNat) x4) nb1 ∧ gw_G M_X4_layKind d QR Γ 74 [some (gR b0), some (gR b1), some (gR b2), some (gI x3), some (gI x4), some (gI (m (b2 + 5 + x3.toNat) x4))] [] (gw_up m2 b1 (m (b2 + 5 + x3.toNat) x4) (m2 (b2 + 9 + x3.toNat) x4)))))))) : gw_G M_X4_layKind d QR Γ 24 [some (gR b0), some (gR b1), some (gR b2), some (gI x3), some (gI x4), y5] [] m := by
  refine gw_iload 26 d_X4_layKind_24 rfl rfl ?_
  refine gw_aload_n 27 d_X4_layKind_26 rfl rfl ?_
  refine gw_getR 30 d_X4_layKind_27 rfl F_4_32 (shMarks_0 hb2) rfl ?_
  refine gw_iload_n 31 d_X4_layKind_30 rfl rfl ?_
  refine gw_iaload 32 d_X4_layKind_31 rfl (shMarks_1 hb2) h.1 ?_
  refine gw_icmp_ge 80 35 d_X4_layKind_32 rfl rfl (fun c5 => ?_) (fun c5 => ?_)
  · skip
    exact gw_return d_X4_layKind_80 rfl (h.2.1 c5)
  · skip
    refine gw_aload_n 36 d_X4_layKind_35 rfl rfl ?_
    refine gw_getR 39 d_X4_layKind_36 rfl F_4_37 (shMarks_0 hb2) rfl ?_
    refine gw_iload_n 40 d_X4_layKind_39 rfl rfl ?_
    refine gw_aaload 41 d_X4_layKind_40 rfl (shMarks_2 hb2) (Or.inl rfl) (h.2.2 c5).1 (gw_row4 (h.2.2 c5).1) ?_
    refine gw_iload 43 d_X4_layKind_41 rfl rfl ?_
    refine gw_iaload 44 d_X4_layKind_43 rfl (shMarks_row5 hb2 (h.2.2 c5).1) (h.2.2 c5).2.1 ?_
    refine gw_istore (ls' := [some (gR b0), some (gR b1), some (gR b2), some (gI x3), some (gI x4), some (gI (m (b2 + 5 + x3.toNat) x4))]) 46 d_X4_layKind_44 rfl rfl rfl rfl ?_
    refine gw_iload 48 d_X4_layKind_46 rfl rfl ?_
    refine gw_iconst 49 d_X4_layKind_48 rfl rfl ?_
    refine gw_aload_n 50 d_X4_layKind_49 rfl rfl ?_
    refine gw_getI 53 d_X4_layKind_50 rfl F_4_9 (shPath_0 hb0) rfl (kz := 0) rfl ?_
    refine gw_iconst 54 d_X4_layKind_53 rfl rfl ?_
    refine gw_isub 55 d_X4_layKind_54 rfl  ?_
    refine gw_cNI (a := [gI (m (b2 + 5 + x3.toNat) x4), gI 0, gI (gw_w ((m b0 0) - 1))]) (rest := []) 58 d_X4_layKind_55 rfl (host := "FlagWalk") mn_4_41 v_X11_within rfl rfl rfl (h.2.2 c5).2.2 (fun v1 m2 h3 => ?_)
    refine gw_if_eq 74 61 d_X4_layKind_58 rfl rfl (fun c6 => ?_) (fun c6 => ?_)
    · skip
      exact (h3.1 c6)
    · skip
      refine gw_aload_n 62 d_X4_layKind_61 rfl rfl ?_
      refine gw_iload 64 d_X4_layKind_62 rfl rfl ?_
      refine gw_aload_n 65 d_X4_layKind_64 rfl rfl ?_
      refine gw_getR 68 d_X4_layKind_65 rfl F_4_45 (shMarks_0 hb2) rfl ?_
      refine gw_iload_n 69 d_X4_layKind_68 rfl rfl ?_
      refine gw_aaload 70 d_X4_layKind_69 rfl (shMarks_3 hb2) (Or.inl rfl) (h3.2 c6).1 (gw_row4 (h3.2 c6).1) ?_
      refine gw_iload 72 d_X4_layKind_70 rfl rfl ?_
      refine gw_iaload 73 d_X4_layKind_72 rfl (shMarks_row9 hb2 (h3.2 c6).1) (h3.2 c6).2.1 ?_
      refine gw_iastore 74 d_X4_layKind_73 rfl hsb1 (h3.2 c6).2.2.1 ?_
      exact (h3.2 c6).2.2.2
set_option maxRecDepth 100000 in
set_option maxHeartbeats 4000000 in
theorem r_X4_layKind_74 {d : Nat} {QR : Option gw_SV → gw_Mem → Prop} {Γ : gw_Ga} (b0 : Nat) (hb0 : gw_isPath b0) (b1 nb1 : Nat) (hsb1 : gw_SH[b1]? = some (1, nb1, [])) (hnb1 : gw_rb (nb1 : Int) = true) (b2 : Nat) (hb2 : gw_isMarks b2) (x3 : Int) (x4 : Int) (x5 : Int) (m : gw_Mem) (h : gw_G M_X4_layKind d QR Γ 24 [some (gR b0), some (gR b1), some (gR b2), some (gI x3), some (gI (gw_w (x4 + 1))), some (gI x5)] [] m) : gw_G M_X4_layKind d QR Γ 74 [some (gR b0), some (gR b1), some (gR b2), some (gI x3), some (gI x4), some (gI x5)] [] m := by
  refine gw_iinc (ls' := [some (gR b0), some (gR b1), some (gR b2), some (gI x3), some (gI (gw_w (x4 + 1))), some (gI x5)]) 77 d_X4_layKind_74 rfl rfl rfl rfl rfl ?_
  refine gw_goto 24 d_X4_layKind_77 rfl ?_
  exact h
set_option maxRecDepth 100000 in
set_option maxHeartbeats 4000000 in
theorem r_X4_isRed_0 {d : Nat} {QR : Option gw_SV → gw_Mem → Prop} {Γ : gw_Ga} (b0 : Nat) (hb0 : gw_isPath b0) (x1 : Int) (x2 : Int) (m : gw_Mem) (h : gw_in x1 100 ∧ (¬ (m (b0 + 2) x1 ≤ 0) → m (b0 + 2) x1 ≠ 0) ∧ QR (some (gI (if m (b0 + 2) x1 ≤ 0 then (0 : Int) else (if gw_w ((m (b0 + 2) x1).tdiv 2) ≤ x2.tmod (m (b0 + 2) x1) then (0 : Int) else (1 : Int))))) m) : gw_G M_X4_isRed d QR Γ 0 [some (gR b0), some (gI x1), some (gI x2), none] [] m := by
  refine gw_aload_n 1 d_X4_isRed_0 rfl rfl ?_
  refine gw_getR 4 d_X4_isRed_1 rfl F_4_19 (shPath_0 hb0) rfl ?_
  refine gw_iload_n 5 d_X4_isRed_4 rfl rfl ?_
  refine gw_iaload 6 d_X4_isRed_5 rfl (shPath_2 hb0) h.1 ?_
  refine gw_istore_n (ls' := [some (gR b0), some (gI x1), some (gI x2), some (gI (m (b0 + 2) x1))]) 7 d_X4_isRed_6 rfl rfl rfl rfl ?_
  refine gw_iload_n 8 d_X4_isRed_7 rfl rfl ?_
  have j1 : gw_G M_X4_isRed d QR Γ 25 [some (gR b0), some (gI x1), some (gI x2), some (gI (m (b0 + 2) x1))] [gI (if m (b0 + 2) x1 ≤ 0 then (0 : Int) else (if gw_w ((m (b0 + 2) x1).tdiv 2) ≤ x2.tmod (m (b0 + 2) x1) then (0 : Int) else (1 : Int)))] m := by
    exact gw_ireturn d_X4_isRed_25 (Or.inr ⟨rfl, (gw_bi gw_b0 (gw_bi gw_b0 gw_b1))⟩) h.2.2
  refine gw_if_le 24 11 d_X4_isRed_8 rfl rfl (fun c2 => ?_) (fun c2 => ?_)
  · skip
    refine gw_iconst 25 d_X4_isRed_24 rfl rfl ?_
    simpa only [if_pos c2] using j1
  · skip
    refine gw_iload_n 12 d_X4_isRed_11 rfl rfl ?_
    refine gw_iload_n 13 d_X4_isRed_12 rfl rfl ?_
    refine gw_irem 14 d_X4_isRed_13 rfl (h.2.1 c2) ?_
    refine gw_iload_n 15 d_X4_isRed_14 rfl rfl ?_
    refine gw_iconst 16 d_X4_isRed_15 rfl rfl ?_
    refine gw_idiv 17 d_X4_isRed_16 rfl (by decide) ?_
    refine gw_icmp_ge 24 20 d_X4_isRed_17 rfl rfl (fun c3 => ?_) (fun c3 => ?_)
    · skip
      refine gw_iconst 25 d_X4_isRed_24 rfl rfl ?_
      simpa only [if_neg c2, if_pos c3] using j1
    · skip
      refine gw_iconst 21 d_X4_isRed_20 rfl rfl ?_
      refine gw_goto 25 d_X4_isRed_21 rfl ?_
      simpa only [if_neg c2, if_neg c3] using j1
set_option maxRecDepth 100000 in
set_option maxHeartbeats 4000000 in
theorem r_X5_tailNumber_0 {d : Nat} {QR : Option gw_SV → gw_Mem → Prop} {Γ : gw_Ga} (b0 : Nat) (hb0 : gw_isPeople b0) (m : gw_Mem) (h : gw_G M_X5_tailNumber d QR Γ 2 [some (gR b0), some (gI 0)] [] m) : gw_G M_X5_tailNumber d QR Γ 0 [some (gR b0), none] [] m := by
  refine gw_iconst 1 d_X5_tailNumber_0 rfl rfl ?_
  refine gw_istore_n (ls' := [some (gR b0), some (gI 0)]) 2 d_X5_tailNumber_1 rfl rfl rfl rfl ?_
  exact h
set_option maxRecDepth 100000 in
set_option maxHeartbeats 4000000 in
theorem r_X5_tailNumber_2 {d : Nat} {QR : Option gw_SV → gw_Mem → Prop} {Γ : gw_Ga} (b0 : Nat) (hb0 : gw_isPeople b0) (x1 : Int) (m : gw_Mem) (h : ((m b0 0 ≤ x1 → QR (some (gI (-1))) m) ∧ (¬ (m b0 0 ≤ x1) → gw_in x1 10 ∧ ((m (b0 + 1) x1 = 3 → QR (some (gI x1)) m) ∧ (¬ (m (b0 + 1) x1 = 3) → gw_G M_X5_tailNumber d QR Γ 2 [some (gR b0), some (gI (gw_w (x1 + 1)))] [] m))))) : gw_G M_X5_tailNumber d QR Γ 2 [some (gR b0), some (gI x1)] [] m := by
  refine gw_iload_n 3 d_X5_tailNumber_2 rfl rfl ?_
  refine gw_aload_n 4 d_X5_tailNumber_3 rfl rfl ?_
  refine gw_getI 7 d_X5_tailNumber_4 rfl F_5_9 (shPeople_0 hb0) rfl (kz := 0) rfl ?_
  refine gw_icmp_ge 28 10 d_X5_tailNumber_7 rfl rfl (fun c1 => ?_) (fun c1 => ?_)
  · skip
    refine gw_iconst 29 d_X5_tailNumber_28 rfl rfl ?_
    exact gw_ireturn d_X5_tailNumber_29 (Or.inl rfl) (h.1 c1)
  · skip
    refine gw_aload_n 11 d_X5_tailNumber_10 rfl rfl ?_
    refine gw_getR 14 d_X5_tailNumber_11 rfl F_5_15 (shPeople_0 hb0) rfl ?_
    refine gw_iload_n 15 d_X5_tailNumber_14 rfl rfl ?_
    refine gw_iaload 16 d_X5_tailNumber_15 rfl (shPeople_1 hb0) (h.2 c1).1 ?_
    refine gw_iconst 17 d_X5_tailNumber_16 rfl rfl ?_
    refine gw_icmp_ne 22 20 d_X5_tailNumber_17 rfl rfl (fun c2 => ?_) (fun c2 => ?_)
    · skip
      refine gw_iload_n 21 d_X5_tailNumber_20 rfl rfl ?_
      exact gw_ireturn d_X5_tailNumber_21 (Or.inl rfl) ((h.2 c1).2.1 c2)
    · skip
      refine gw_iinc (ls' := [some (gR b0), some (gI (gw_w (x1 + 1)))]) 25 d_X5_tailNumber_22 rfl rfl rfl rfl rfl ?_
      refine gw_goto 2 d_X5_tailNumber_25 rfl ?_
      exact ((h.2 c1).2.2 c2)
set_option maxRecDepth 100000 in
set_option maxHeartbeats 4000000 in
theorem r_X5_add_0 {d : Nat} {QR : Option gw_SV → gw_Mem → Prop} {Γ : gw_Ga} (b0 : Nat) (hb0 : gw_isPeople b0) (x1 : Int) (x2 : Int) (x3 : Int) (m : gw_Mem) (h : ((x1 = 3 → gw_CI d M_X5_tailNumber [gR b0] m (fun v1 m2 => ((v1 < 0 → gw_G M_X5_add d QR Γ 15 [some (gR b0), some (gI x1), some (gI x2), some (gI x3)] [] m2) ∧ (¬ (v1 < 0) → QR (some (gI (-2))) m2)))) ∧ (¬ (x1 = 3) → gw_G M_X5_add d QR Γ 15 [some (gR b0), some (gI x1), some (gI x2), some (gI x3)] [] m))) : gw_G M_X5_add d QR Γ 0 [some (gR b0), some (gI x1), some (gI x2), some (gI x3)] [] m := by
  refine gw_iload_n 1 d_X5_add_0 rfl rfl ?_
  refine gw_iconst 2 d_X5_add_1 rfl rfl ?_
  refine gw_icmp_ne 15 5 d_X5_add_2 rfl rfl (fun c4 => ?_) (fun c4 => ?_)
  · skip
    refine gw_aload_n 6 d_X5_add_5 rfl rfl ?_
    refine gw_cVI (a := []) (rest := []) 9 d_X5_add_6 rfl ml_5_26 v_X5_tailNumber rfl (shPeople_0 hb0) rfl rfl rfl (h.1 c4) (fun v1 m2 h3 => ?_)
    refine gw_if_lt 15 12 d_X5_add_9 rfl rfl (fun c5 => ?_) (fun c5 => ?_)
    · skip
      exact (h3.1 c5)
    · skip
      refine gw_bipush 14 d_X5_add_12 rfl rfl (by decide) ?_
      exact gw_ireturn d_X5_add_14 (Or.inl rfl) (h3.2 c5)
  · skip
    exact (h.2 c4)
set_option maxRecDepth 100000 in
set_option maxHeartbeats 4000000 in
theorem r_X5_add_15 {d : Nat} {QR : Option gw_SV → gw_Mem → Prop} {Γ : gw_Ga} (b0 : Nat) (hb0 : gw_isPeople b0) (x1 : Int) (x2 : Int) (x3 : Int) (m : gw_Mem) (h : ((m b0 0 < 10 → gw_in (m b0 0) 10 ∧ gw_in ((gw_up m (b0 + 1) (m b0 0) x1) b0 0) 10 ∧ gw_in ((gw_up (gw_up m (b0 + 1) (m b0 0) x1) (b0 + 2) ((gw_up m (b0 + 1) (m b0 0) x1) b0 0) x2) b0 0) 10 ∧ gw_b x3 ∧ QR (some (gI (gw_w (((gw_up (gw_up (gw_up (gw_up m (b0 + 1) (m b0 0) x1) (b0 + 2) ((gw_up m (b0 + 1) (m b0 0) x1) b0 0) x2) (b0 + 3) ((gw_up (gw_up m (b0 + 1) (m b0 0) x1) (b0 + 2) ((gw_up m (b0 + 1) (m b0 0) x1) b0 0) x2) b0 0) x3) b0 0 (gw_w (((gw_up (gw_up (gw_up m (b0 + 1) (m b0 0) x1) (b0 + 2) ((gw_up m (b0 + 1) (m b0 0) x1) b0 0) x2) (b0 + 3) ((gw_up (gw_up m (b0 + 1) (m b0 0) x1) (b0 + 2) ((gw_up m (b0 + 1) (m b0 0) x1) b0 0) x2) b0 0) x3) b0 0) + 1))) b0 0) - 1)))) (gw_up (gw_up (gw_up (gw_up m (b0 + 1) (m b0 0) x1) (b0 + 2) ((gw_up m (b0 + 1) (m b0 0) x1) b0 0) x2) (b0 + 3) ((gw_up (gw_up m (b0 + 1) (m b0 0) x1) (b0 + 2) ((gw_up m (b0 + 1) (m b0 0) x1) b0 0) x2) b0 0) x3) b0 0 (gw_w (((gw_up (gw_up (gw_up m (b0 + 1) (m b0 0) x1) (b0 + 2) ((gw_up m (b0 + 1) (m b0 0) x1) b0 0) x2) (b0 + 3) ((gw_up (gw_up m (b0 + 1) (m b0 0) x1) (b0 + 2) ((gw_up m (b0 + 1) (m b0 0) x1) b0 0) x2) b0 0) x3) b0 0) + 1)))) ∧ (¬ (m b0 0 < 10) → QR (some (gI (-3))) m))) : gw_G M_X5_add d QR Γ 15 [some (gR b0), some (gI x1), some (gI x2), some (gI x3)] [] m := by
  refine gw_aload_n 16 d_X5_add_15 rfl rfl ?_
  refine gw_getI 19 d_X5_add_16 rfl F_5_9 (shPeople_0 hb0) rfl (kz := 0) rfl ?_
  refine gw_bipush 21 d_X5_add_19 rfl rfl (by decide) ?_
  refine gw_icmp_lt 27 24 d_X5_add_21 rfl rfl (fun c6 => ?_) (fun c6 => ?_)
  · skip
    refine gw_aload_n 28 d_X5_add_27 rfl rfl ?_
    refine gw_getR 31 d_X5_add_28 rfl F_5_15 (shPeople_0 hb0) rfl ?_
    refine gw_aload_n 32 d_X5_add_31 rfl rfl ?_
    refine gw_getI 35 d_X5_add_32 rfl F_5_9 (shPeople_0 hb0) rfl (kz := 0) rfl ?_
    refine gw_iload_n 36 d_X5_add_35 rfl rfl ?_
    refine gw_iastore 37 d_X5_add_36 rfl (shPeople_1 hb0) (h.1 c6).1 ?_
    refine gw_aload_n 38 d_X5_add_37 rfl rfl ?_
    refine gw_getR 41 d_X5_add_38 rfl F_5_19 (shPeople_0 hb0) rfl ?_
    refine gw_aload_n 42 d_X5_add_41 rfl rfl ?_
    refine gw_getI 45 d_X5_add_42 rfl F_5_9 (shPeople_0 hb0) rfl (kz := 0) rfl ?_
    refine gw_iload_n 46 d_X5_add_45 rfl rfl ?_
    refine gw_iastore 47 d_X5_add_46 rfl (shPeople_2 hb0) (h.1 c6).2.1 ?_
    refine gw_aload_n 48 d_X5_add_47 rfl rfl ?_
    refine gw_getR 51 d_X5_add_48 rfl F_5_22 (shPeople_0 hb0) rfl ?_
    refine gw_aload_n 52 d_X5_add_51 rfl rfl ?_
    refine gw_getI 55 d_X5_add_52 rfl F_5_9 (shPeople_0 hb0) rfl (kz := 0) rfl ?_
    refine gw_iload_n 56 d_X5_add_55 rfl rfl ?_
    refine gw_zastore 57 d_X5_add_56 rfl (shPeople_3 hb0) (h.1 c6).2.2.1 (h.1 c6).2.2.2.1 ?_
    refine gw_aload_n 58 d_X5_add_57 rfl rfl ?_
    refine gw_dup 59 d_X5_add_58 rfl rfl ?_
    refine gw_getI 62 d_X5_add_59 rfl F_5_9 (shPeople_0 hb0) rfl (kz := 0) rfl ?_
    refine gw_iconst 63 d_X5_add_62 rfl rfl ?_
    refine gw_iadd 64 d_X5_add_63 rfl  ?_
    refine gw_putI 67 d_X5_add_64 rfl P_5_9 (Or.inl rfl) (shPeople_0 hb0) rfl (kz := 0) rfl ?_
    refine gw_aload_n 68 d_X5_add_67 rfl rfl ?_
    refine gw_getI 71 d_X5_add_68 rfl F_5_9 (shPeople_0 hb0) rfl (kz := 0) rfl ?_
    refine gw_iconst 72 d_X5_add_71 rfl rfl ?_
    refine gw_isub 73 d_X5_add_72 rfl  ?_
    exact gw_ireturn d_X5_add_73 (Or.inl rfl) (h.1 c6).2.2.2.2
  · skip
    refine gw_bipush 26 d_X5_add_24 rfl rfl (by decide) ?_
    exact gw_ireturn d_X5_add_26 (Or.inl rfl) (h.2 c6)
set_option maxRecDepth 100000 in
set_option maxHeartbeats 4000000 in
theorem r_X5_take_0 {d : Nat} {QR : Option gw_SV → gw_Mem → Prop} {Γ : gw_Ga} (b0 : Nat) (hb0 : gw_isPeople b0) (b1 : Nat) (hb1 : gw_isPeople b1) (m : gw_Mem) (hd : 8 ≤ d) (h : QR none (gw_cp (gw_cp (gw_cp (gw_up m b0 0 (m b1 0)) (b1 + 1) 0 (b0 + 1) 0 10) (b1 + 2) 0 (b0 + 2) 0 10) (b1 + 3) 0 (b0 + 3) 0 10)) : gw_G M_X5_take d QR Γ 0 [some (gR b0), some (gR b1)] [] m := by
  refine gw_aload_n 1 d_X5_take_0 rfl rfl ?_
  refine gw_aload_n 2 d_X5_take_1 rfl rfl ?_
  refine gw_getI 5 d_X5_take_2 rfl F_5_9 (shPeople_0 hb1) rfl (kz := 0) rfl ?_
  refine gw_putI 8 d_X5_take_5 rfl P_5_9 (Or.inl rfl) (shPeople_0 hb0) rfl (kz := 0) rfl ?_
  refine gw_aload_n 9 d_X5_take_8 rfl rfl ?_
  refine gw_getR 12 d_X5_take_9 rfl F_5_15 (shPeople_0 hb1) rfl ?_
  refine gw_iconst 13 d_X5_take_12 rfl rfl ?_
  refine gw_aload_n 14 d_X5_take_13 rfl rfl ?_
  refine gw_getR 17 d_X5_take_14 rfl F_5_15 (shPeople_0 hb0) rfl ?_
  refine gw_iconst 18 d_X5_take_17 rfl rfl ?_
  refine gw_bipush 20 d_X5_take_18 rfl rfl (by decide) ?_
  refine gw_copy 23 d_X5_take_20 rfl mj_5_30 (gw_d1 hd) (shPeople_1 hb1) (shPeople_1 hb0) (Or.inl rfl) (by decide) ?_
  refine gw_aload_n 24 d_X5_take_23 rfl rfl ?_
  refine gw_getR 27 d_X5_take_24 rfl F_5_19 (shPeople_0 hb1) rfl ?_
  refine gw_iconst 28 d_X5_take_27 rfl rfl ?_
  refine gw_aload_n 29 d_X5_take_28 rfl rfl ?_
  refine gw_getR 32 d_X5_take_29 rfl F_5_19 (shPeople_0 hb0) rfl ?_
  refine gw_iconst 33 d_X5_take_32 rfl rfl ?_
  refine gw_bipush 35 d_X5_take_33 rfl rfl (by decide) ?_
  refine gw_copy 38 d_X5_take_35 rfl mj_5_30 (gw_d1 hd) (shPeople_2 hb1) (shPeople_2 hb0) (Or.inl rfl) (by decide) ?_
  refine gw_aload_n 39 d_X5_take_38 rfl rfl ?_
  refine gw_getR 42 d_X5_take_39 rfl F_5_22 (shPeople_0 hb1) rfl ?_
  refine gw_iconst 43 d_X5_take_42 rfl rfl ?_
  refine gw_aload_n 44 d_X5_take_43 rfl rfl ?_
  refine gw_getR 47 d_X5_take_44 rfl F_5_22 (shPeople_0 hb0) rfl ?_
  refine gw_iconst 48 d_X5_take_47 rfl rfl ?_
  refine gw_bipush 50 d_X5_take_48 rfl rfl (by decide) ?_
  refine gw_copy 53 d_X5_take_50 rfl mj_5_30 (gw_d1 hd) (shPeople_3 hb1) (shPeople_3 hb0) (Or.inr rfl) (by decide) ?_
  exact gw_return d_X5_take_53 rfl h
set_option maxRecDepth 100000 in
set_option maxHeartbeats 4000000 in
theorem r_X6_take_0 {d : Nat} {QR : Option gw_SV → gw_Mem → Prop} {Γ : gw_Ga} (b0 : Nat) (hb0 : gw_isPlan b0) (b1 : Nat) (hb1 : gw_isPlan b1) (m : gw_Mem) (hd : 8 ≤ d) (h : gw_CV d M_X3_take [gR (b0 + 1), gR (b1 + 1)] (gw_up m b0 0 (m b1 0)) (fun m1 => gw_CV d M_X5_take [gR (b0 + 14), gR (b1 + 14)] m1 (fun m3 => QR none (gw_cp (gw_cp m3 (b1 + 18) 0 (b0 + 18) 0 5) (b1 + 20) 0 (b0 + 20) 0 144)))) : gw_G M_X6_take d QR Γ 0 [some (gR b0), some (gR b1)] [] m := by
  refine gw_aload_n 1 d_X6_take_0 rfl rfl ?_
  refine gw_aload_n 2 d_X6_take_1 rfl rfl ?_
  refine gw_getI 5 d_X6_take_2 rfl F_6_9 (shPlan_0 hb1) rfl (kz := 0) rfl ?_
  refine gw_putI 8 d_X6_take_5 rfl P_6_9 (Or.inl rfl) (shPlan_0 hb0) rfl (kz := 0) rfl ?_
  refine gw_aload_n 9 d_X6_take_8 rfl rfl ?_
  refine gw_getR 12 d_X6_take_9 rfl F_6_18 (shPlan_0 hb0) rfl ?_
  refine gw_aload_n 13 d_X6_take_12 rfl rfl ?_
  refine gw_getR 16 d_X6_take_13 rfl F_6_18 (shPlan_0 hb1) rfl ?_
  refine gw_cVV (a := [gR (b1 + 1)]) (rest := []) 19 d_X6_take_16 rfl ml_6_48 v_X3_take rfl (shPlan_1 hb0) rfl rfl rfl h (fun m1 h2 => ?_)
  refine gw_aload_n 20 d_X6_take_19 rfl rfl ?_
  refine gw_getR 23 d_X6_take_20 rfl F_6_25 (shPlan_0 hb0) rfl ?_
  refine gw_aload_n 24 d_X6_take_23 rfl rfl ?_
  refine gw_getR 27 d_X6_take_24 rfl F_6_25 (shPlan_0 hb1) rfl ?_
  refine gw_cVV (a := [gR (b1 + 14)]) (rest := []) 30 d_X6_take_27 rfl ml_6_52 v_X5_take rfl (shPlan_14 hb0) rfl rfl rfl h2 (fun m3 h4 => ?_)
  refine gw_aload_n 31 d_X6_take_30 rfl rfl ?_
  refine gw_getR 34 d_X6_take_31 rfl F_6_38 (shPlan_0 hb1) rfl ?_
  refine gw_iconst 35 d_X6_take_34 rfl rfl ?_
  refine gw_aload_n 36 d_X6_take_35 rfl rfl ?_
  refine gw_getR 39 d_X6_take_36 rfl F_6_38 (shPlan_0 hb0) rfl ?_
  refine gw_iconst 40 d_X6_take_39 rfl rfl ?_
  refine gw_aload_n 41 d_X6_take_40 rfl rfl ?_
  refine gw_getR 44 d_X6_take_41 rfl F_6_38 (shPlan_0 hb0) rfl ?_
  refine gw_alen 45 d_X6_take_44 rfl (shPlan_18 hb0) rfl (z := 5) rfl rfl ?_
  refine gw_copy 48 d_X6_take_45 rfl mj_6_55 (gw_d1 hd) (shPlan_18 hb1) (shPlan_18 hb0) (Or.inl rfl) (by decide) ?_
  refine gw_aload_n 49 d_X6_take_48 rfl rfl ?_
  refine gw_getR 52 d_X6_take_49 rfl F_6_44 (shPlan_0 hb1) rfl ?_
  refine gw_getR 55 d_X6_take_52 rfl F_6_61 (shPlan_19 hb1) rfl ?_
  refine gw_iconst 56 d_X6_take_55 rfl rfl ?_
  refine gw_aload_n 57 d_X6_take_56 rfl rfl ?_
  refine gw_getR 60 d_X6_take_57 rfl F_6_44 (shPlan_0 hb0) rfl ?_
  refine gw_getR 63 d_X6_take_60 rfl F_6_61 (shPlan_19 hb0) rfl ?_
  refine gw_iconst 64 d_X6_take_63 rfl rfl ?_
  refine gw_sipush 67 d_X6_take_64 rfl rfl (by decide) ?_
  refine gw_copy 70 d_X6_take_67 rfl mj_6_55 (gw_d1 hd) (shPlan_20 hb1) (shPlan_20 hb0) (Or.inl rfl) (by decide) ?_
  exact gw_return d_X6_take_70 rfl h4
set_option maxRecDepth 100000 in
set_option maxHeartbeats 4000000 in
theorem r_X6_isMet_0 {d : Nat} {QR : Option gw_SV → gw_Mem → Prop} {Γ : gw_Ga} (b0 : Nat) (hb0 : gw_isPlan b0) (x1 : Int) (m : gw_Mem) (h : gw_in x1 8 ∧ QR (some (gI (if m b0 0 ≤ m (b0 + 6) x1 then (0 : Int) else (1 : Int)))) m) : gw_G M_X6_isMet d QR Γ 0 [some (gR b0), some (gI x1)] [] m := by
  refine gw_aload_n 1 d_X6_isMet_0 rfl rfl ?_
  refine gw_getR 4 d_X6_isMet_1 rfl F_6_18 (shPlan_0 hb0) rfl ?_
  refine gw_getR 7 d_X6_isMet_4 rfl F_6_64 (shPlan_1 hb0) rfl ?_
  refine gw_iconst 8 d_X6_isMet_7 rfl rfl ?_
  refine gw_aaload 9 d_X6_isMet_8 rfl (shPlan_3 hb0) (Or.inl rfl) (gw_inN (k := 0) rfl) rfl ?_
  refine gw_iload_n 10 d_X6_isMet_9 rfl rfl ?_
  refine gw_iaload 11 d_X6_isMet_10 rfl (shPlan_6 hb0) h.1 ?_
  refine gw_aload_n 12 d_X6_isMet_11 rfl rfl ?_
  refine gw_getI 15 d_X6_isMet_12 rfl F_6_9 (shPlan_0 hb0) rfl (kz := 0) rfl ?_
  have j1 : gw_G M_X6_isMet d QR Γ 23 [some (gR b0), some (gI x1)] [gI (if m b0 0 ≤ m (b0 + 6) x1 then (0 : Int) else (1 : Int))] m := by
    exact gw_ireturn d_X6_isMet_23 (Or.inr ⟨rfl, (gw_bi gw_b0 gw_b1)⟩) h.2
  refine gw_icmp_ge 22 18 d_X6_isMet_15 rfl rfl (fun c2 => ?_) (fun c2 => ?_)
  · skip
    refine gw_iconst 23 d_X6_isMet_22 rfl rfl ?_
    simpa only [if_pos c2] using j1
  · skip
    refine gw_iconst 19 d_X6_isMet_18 rfl rfl ?_
    refine gw_goto 23 d_X6_isMet_19 rfl ?_
    simpa only [if_neg c2] using j1
set_option maxRecDepth 100000 in
set_option maxHeartbeats 4000000 in
theorem r_X6_minutesSpoken_0 {d : Nat} {QR : Option gw_SV → gw_Mem → Prop} {Γ : gw_Ga} (b0 : Nat) (hb0 : gw_isPlan b0) (m : gw_Mem) (h : gw_G M_X6_minutesSpoken d QR Γ 4 [some (gR b0), some (gI 0), some (gI 0)] [] m) : gw_G M_X6_minutesSpoken d QR Γ 0 [some (gR b0), none, none] [] m := by
  refine gw_iconst 1 d_X6_minutesSpoken_0 rfl rfl ?_
  refine gw_istore_n (ls' := [some (gR b0), some (gI 0), none]) 2 d_X6_minutesSpoken_1 rfl rfl rfl rfl ?_
  refine gw_iconst 3 d_X6_minutesSpoken_2 rfl rfl ?_
  refine gw_istore_n (ls' := [some (gR b0), some (gI 0), some (gI 0)]) 4 d_X6_minutesSpoken_3 rfl rfl rfl rfl ?_
  exact h
set_option maxRecDepth 100000 in
set_option maxHeartbeats 4000000 in
theorem r_X6_minutesSpoken_4 {d : Nat} {QR : Option gw_SV → gw_Mem → Prop} {Γ : gw_Ga} (b0 : Nat) (hb0 : gw_isPlan b0) (x1 : Int) (x2 : Int) (m : gw_Mem) (h : ((m (b0 + 2) 0 ≤ x2 → QR (some (gI x1)) m) ∧ (¬ (m (b0 + 2) 0 ≤ x2) → gw_CI d M_X6_isMet [gR b0, gI x2] m (fun v1 m2 => (¬ (v1 = 0) → gw_in x2 8) ∧ gw_G M_X6_minutesSpoken d QR Γ 4 [some (gR b0), some (gI (gw_w (x1 + (if v1 = 0 then (0 : Int) else m2 (b0 + 10) x2)))), some (gI (gw_w (x2 + 1)))] [] m2)))) : gw_G M_X6_minutesSpoken d QR Γ 4 [some (gR b0), some (gI x1), some (gI x2)] [] m := by
  refine gw_iload_n 5 d_X6_minutesSpoken_4 rfl rfl ?_
  refine gw_aload_n 6 d_X6_minutesSpoken_5 rfl rfl ?_
  refine gw_getR 9 d_X6_minutesSpoken_6 rfl F_6_18 (shPlan_0 hb0) rfl ?_
  refine gw_getR 12 d_X6_minutesSpoken_9 rfl F_6_68 (shPlan_1 hb0) rfl ?_
  refine gw_iconst 13 d_X6_minutesSpoken_12 rfl rfl ?_
  refine gw_iaload 14 d_X6_minutesSpoken_13 rfl (shPlan_2 hb0) (gw_inN (k := 0) rfl) ?_
  refine gw_icmp_ge 49 17 d_X6_minutesSpoken_14 rfl rfl (fun c4 => ?_) (fun c4 => ?_)
  · skip
    refine gw_iload_n 50 d_X6_minutesSpoken_49 rfl rfl ?_
    exact gw_ireturn d_X6_minutesSpoken_50 (Or.inl rfl) (h.1 c4)
  · skip
    refine gw_iload_n 18 d_X6_minutesSpoken_17 rfl rfl ?_
    refine gw_aload_n 19 d_X6_minutesSpoken_18 rfl rfl ?_
    refine gw_iload_n 20 d_X6_minutesSpoken_19 rfl rfl ?_
    refine gw_cVI (a := [gI x2]) (rest := [gI x1]) 23 d_X6_minutesSpoken_20 rfl ml_6_71 v_X6_isMet rfl (shPlan_0 hb0) rfl rfl rfl (h.2 c4) (fun v1 m2 h3 => ?_)
    have j5 : gw_G M_X6_minutesSpoken d QR Γ 41 [some (gR b0), some (gI x1), some (gI x2)] [gI (if v1 = 0 then (0 : Int) else m2 (b0 + 10) x2), gI x1] m2 := by
      refine gw_iadd 42 d_X6_minutesSpoken_41 rfl  ?_
      refine gw_istore_n (ls' := [some (gR b0), some (gI (gw_w (x1 + (if v1 = 0 then (0 : Int) else m2 (b0 + 10) x2)))), some (gI x2)]) 43 d_X6_minutesSpoken_42 rfl rfl rfl rfl ?_
      refine gw_iinc (ls' := [some (gR b0), some (gI (gw_w (x1 + (if v1 = 0 then (0 : Int) else m2 (b0 + 10) x2)))), some (gI (gw_w (x2 + 1)))]) 46 d_X6_minutesSpoken_43 rfl rfl rfl rfl rfl ?_
      refine gw_goto 4 d_X6_minutesSpoken_46 rfl ?_
      exact h3.2
    refine gw_if_eq 40 26 d_X6_minutesSpoken_23 rfl rfl (fun c6 => ?_) (fun c6 => ?_)
    · skip
      refine gw_iconst 41 d_X6_minutesSpoken_40 rfl rfl ?_
      simpa only [if_pos c6] using j5
    · skip
      refine gw_aload_n 27 d_X6_minutesSpoken_26 rfl rfl ?_
      refine gw_getR 30 d_X6_minutesSpoken_27 rfl F_6_18 (shPlan_0 hb0) rfl ?_
      refine gw_getR 33 d_X6_minutesSpoken_30 rfl F_6_75 (shPlan_1 hb0) rfl ?_
      refine gw_iconst 34 d_X6_minutesSpoken_33 rfl rfl ?_
      refine gw_aaload 35 d_X6_minutesSpoken_34 rfl (shPlan_4 hb0) (Or.inl rfl) (gw_inN (k := 0) rfl) rfl ?_
      refine gw_iload_n 36 d_X6_minutesSpoken_35 rfl rfl ?_
      refine gw_iaload 37 d_X6_minutesSpoken_36 rfl (shPlan_10 hb0) (h3.1 c6) ?_
      refine gw_goto 41 d_X6_minutesSpoken_37 rfl ?_
      simpa only [if_neg c6] using j5
set_option maxRecDepth 100000 in
set_option maxHeartbeats 4000000 in
theorem r_X6_valueIfFits_0 {d : Nat} {QR : Option gw_SV → gw_Mem → Prop} {Γ : gw_Ga} (b0 : Nat) (hb0 : gw_isPlan b0) (x1 : Int) (x2 : Int) (m : gw_Mem) (h : gw_G M_X6_valueIfFits d QR Γ 8 [some (gR b0), some (gI x1), some (gI x2), some (gI x2), some (gI 0), some (gI 0)] [] m) : gw_G M_X6_valueIfFits d QR Γ 0 [some (gR b0), some (gI x1), some (gI x2), none, none, none] [] m := by
  refine gw_iload_n 1 d_X6_valueIfFits_0 rfl rfl ?_
  refine gw_istore_n (ls' := [some (gR b0), some (gI x1), some (gI x2), some (gI x2), none, none]) 2 d_X6_valueIfFits_1 rfl rfl rfl rfl ?_
  refine gw_iconst 3 d_X6_valueIfFits_2 rfl rfl ?_
  refine gw_istore (ls' := [some (gR b0), some (gI x1), some (gI x2), some (gI x2), some (gI 0), none]) 5 d_X6_valueIfFits_3 rfl rfl rfl rfl ?_
  refine gw_iconst 6 d_X6_valueIfFits_5 rfl rfl ?_
  refine gw_istore (ls' := [some (gR b0), some (gI x1), some (gI x2), some (gI x2), some (gI 0), some (gI 0)]) 8 d_X6_valueIfFits_6 rfl rfl rfl rfl ?_
  exact h
set_option maxRecDepth 100000 in
set_option maxHeartbeats 4000000 in
theorem r_X6_valueIfFits_8 {d : Nat} {QR : Option gw_SV → gw_Mem → Prop} {Γ : gw_Ga} (b0 : Nat) (hb0 : gw_isPlan b0) (x1 : Int) (x2 : Int) (x3 : Int) (x4 : Int) (x5 : Int) (m : gw_Mem) (h : ((m (b0 + 2) 0 ≤ x5 → QR (some (gI (if 0 ≤ x3 then x4 else (-1 : Int)))) m) ∧ (¬ (m (b0 + 2) 0 ≤ x5) → ((gw_and (gw_shr x1 x5) 1 = 1 → gw_CI d M_X6_isMet [gR b0, gI x5] m (fun v1 m2 => ((v1 = 0 → QR (some (gI (-1))) m2) ∧ (¬ (v1 = 0) → gw_in x5 8 ∧ gw_in x5 8 ∧ gw_G M_X6_valueIfFits d QR Γ 73 [some (gR b0), some (gI x1), some (gI x2), some (gI (gw_w (x3 - (m2 (b0 + 10) x5)))), some (gI (gw_w (x4 + (m2 (b0 + 5) x5)))), some (gI x5)] [] m2)))) ∧ (¬ (gw_and (gw_shr x1 x5) 1 = 1) → gw_G M_X6_valueIfFits d QR Γ 73 [some (gR b0), some (gI x1), some (gI x2), some (gI x3), some (gI x4), some (gI x5)] [] m))))) : gw_G M_X6_valueIfFits d QR Γ 8 [some (gR b0), some (gI x1), some (gI x2), some (gI x3), some (gI x4), some (gI x5)] [] m := by
  refine gw_iload 10 d_X6_valueIfFits_8 rfl rfl ?_
  refine gw_aload_n 11 d_X6_valueIfFits_10 rfl rfl ?_
  refine gw_getR 14 d_X6_valueIfFits_11 rfl F_6_18 (shPlan_0 hb0) rfl ?_
  refine gw_getR 17 d_X6_valueIfFits_14 rfl F_6_68 (shPlan_1 hb0) rfl ?_
  refine gw_iconst 18 d_X6_valueIfFits_17 rfl rfl ?_
  refine gw_iaload 19 d_X6_valueIfFits_18 rfl (shPlan_2 hb0) (gw_inN (k := 0) rfl) ?_
  refine gw_icmp_ge 79 22 d_X6_valueIfFits_19 rfl rfl (fun c4 => ?_) (fun c4 => ?_)
  · skip
    refine gw_iload_n 80 d_X6_valueIfFits_79 rfl rfl ?_
    have j5 : gw_G M_X6_valueIfFits d QR Γ 89 [some (gR b0), some (gI x1), some (gI x2), some (gI x3), some (gI x4), some (gI x5)] [gI (if 0 ≤ x3 then x4 else (-1 : Int))] m := by
      exact gw_ireturn d_X6_valueIfFits_89 (Or.inl rfl) (h.1 c4)
    refine gw_if_ge 87 83 d_X6_valueIfFits_80 rfl rfl (fun c6 => ?_) (fun c6 => ?_)
    · skip
      refine gw_iload 89 d_X6_valueIfFits_87 rfl rfl ?_
      simpa only [if_pos c6] using j5
    · skip
      refine gw_iconst 84 d_X6_valueIfFits_83 rfl rfl ?_
      refine gw_goto 89 d_X6_valueIfFits_84 rfl ?_
      simpa only [if_neg c6] using j5
  · skip
    refine gw_iload_n 23 d_X6_valueIfFits_22 rfl rfl ?_
    refine gw_iload 25 d_X6_valueIfFits_23 rfl rfl ?_
    refine gw_ishr 26 d_X6_valueIfFits_25 rfl  ?_
    refine gw_iconst 27 d_X6_valueIfFits_26 rfl rfl ?_
    refine gw_iand 28 d_X6_valueIfFits_27 rfl  ?_
    refine gw_iconst 29 d_X6_valueIfFits_28 rfl rfl ?_
    refine gw_icmp_ne 73 32 d_X6_valueIfFits_29 rfl rfl (fun c7 => ?_) (fun c7 => ?_)
    · skip
      refine gw_aload_n 33 d_X6_valueIfFits_32 rfl rfl ?_
      refine gw_iload 35 d_X6_valueIfFits_33 rfl rfl ?_
      refine gw_cVI (a := [gI x5]) (rest := []) 38 d_X6_valueIfFits_35 rfl ml_6_71 v_X6_isMet rfl (shPlan_0 hb0) rfl rfl rfl ((h.2 c4).1 c7) (fun v1 m2 h3 => ?_)
      refine gw_if_ne 43 41 d_X6_valueIfFits_38 rfl rfl (fun c8 => ?_) (fun c8 => ?_)
      · skip
        refine gw_iconst 42 d_X6_valueIfFits_41 rfl rfl ?_
        exact gw_ireturn d_X6_valueIfFits_42 (Or.inl rfl) (h3.1 c8)
      · skip
        refine gw_iload_n 44 d_X6_valueIfFits_43 rfl rfl ?_
        refine gw_aload_n 45 d_X6_valueIfFits_44 rfl rfl ?_
        refine gw_getR 48 d_X6_valueIfFits_45 rfl F_6_18 (shPlan_0 hb0) rfl ?_
        refine gw_getR 51 d_X6_valueIfFits_48 rfl F_6_75 (shPlan_1 hb0) rfl ?_
        refine gw_iconst 52 d_X6_valueIfFits_51 rfl rfl ?_
        refine gw_aaload 53 d_X6_valueIfFits_52 rfl (shPlan_4 hb0) (Or.inl rfl) (gw_inN (k := 0) rfl) rfl ?_
        refine gw_iload 55 d_X6_valueIfFits_53 rfl rfl ?_
        refine gw_iaload 56 d_X6_valueIfFits_55 rfl (shPlan_10 hb0) (h3.2 c8).1 ?_
        refine gw_isub 57 d_X6_valueIfFits_56 rfl  ?_
        refine gw_istore_n (ls' := [some (gR b0), some (gI x1), some (gI x2), some (gI (gw_w (x3 - (m2 (b0 + 10) x5)))), some (gI x4), some (gI x5)]) 58 d_X6_valueIfFits_57 rfl rfl rfl rfl ?_
        refine gw_iload 60 d_X6_valueIfFits_58 rfl rfl ?_
        refine gw_aload_n 61 d_X6_valueIfFits_60 rfl rfl ?_
        refine gw_getR 64 d_X6_valueIfFits_61 rfl F_6_18 (shPlan_0 hb0) rfl ?_
        refine gw_getR 67 d_X6_valueIfFits_64 rfl F_6_78 (shPlan_1 hb0) rfl ?_
        refine gw_iload 69 d_X6_valueIfFits_67 rfl rfl ?_
        refine gw_iaload 70 d_X6_valueIfFits_69 rfl (shPlan_5 hb0) (h3.2 c8).2.1 ?_
        refine gw_iadd 71 d_X6_valueIfFits_70 rfl  ?_
        refine gw_istore (ls' := [some (gR b0), some (gI x1), some (gI x2), some (gI (gw_w (x3 - (m2 (b0 + 10) x5)))), some (gI (gw_w (x4 + (m2 (b0 + 5) x5)))), some (gI x5)]) 73 d_X6_valueIfFits_71 rfl rfl rfl rfl ?_
        exact (h3.2 c8).2.2
    · skip
      exact ((h.2 c4).2 c7)
set_option maxRecDepth 100000 in
set_option maxHeartbeats 4000000 in
theorem r_X6_valueIfFits_73 {d : Nat} {QR : Option gw_SV → gw_Mem → Prop} {Γ : gw_Ga} (b0 : Nat) (hb0 : gw_isPlan b0) (x1 : Int) (x2 : Int) (x3 : Int) (x4 : Int) (x5 : Int) (m : gw_Mem) (h : gw_G M_X6_valueIfFits d QR Γ 8 [some (gR b0), some (gI x1), some (gI x2), some (gI x3), some (gI x4), some (gI (gw_w (x5 + 1)))] [] m) : gw_G M_X6_valueIfFits d QR Γ 73 [some (gR b0), some (gI x1), some (gI x2), some (gI x3), some (gI x4), some (gI x5)] [] m := by
  refine gw_iinc (ls' := [some (gR b0), some (gI x1), some (gI x2), some (gI x3), some (gI x4), some (gI (gw_w (x5 + 1)))]) 76 d_X6_valueIfFits_73 rfl rfl rfl rfl rfl ?_
  refine gw_goto 8 d_X6_valueIfFits_76 rfl ?_
  exact h
set_option maxRecDepth 100000 in
set_option maxHeartbeats 4000000 in
theorem r_X10_load_0 {d : Nat} {QR : Option gw_SV → gw_Mem → Prop} {Γ : gw_Ga} (b0 : Nat) (hb0 : gw_isWalk b0) (b1 : Nat) (hb1 : gw_isPlan b1) (m : gw_Mem) (hd : 8 ≤ d) (h : gw_CV d M_X4_lay [gR (b0 + 1), gR (b1 + 1), gI (m b1 0)] m (fun m1 => gw_CV d M_X5_take [gR (b0 + 6), gR (b1 + 14)] m1 (fun m3 => QR none (gw_cp m3 (b1 + 18) 0 (b0 + 10) 0 5)))) : gw_G M_X10_load d QR Γ 0 [some (gR b0), some (gR b1)] [] m := by
  refine gw_aload_n 1 d_X10_load_0 rfl rfl ?_
  refine gw_getR 4 d_X10_load_1 rfl F_10_12 (shWalk_0 hb0) rfl ?_
  refine gw_aload_n 5 d_X10_load_4 rfl rfl ?_
  refine gw_getR 8 d_X10_load_5 rfl F_10_73 (shPlan_0 hb1) rfl ?_
  refine gw_aload_n 9 d_X10_load_8 rfl rfl ?_
  refine gw_getI 12 d_X10_load_9 rfl F_10_79 (shPlan_0 hb1) rfl (kz := 0) rfl ?_
  refine gw_cVV (a := [gR (b1 + 1), gI (m b1 0)]) (rest := []) 15 d_X10_load_12 rfl ml_10_82 v_X4_lay rfl (shWalk_1 hb0) rfl rfl rfl h (fun m1 h2 => ?_)
  refine gw_aload_n 16 d_X10_load_15 rfl rfl ?_
  refine gw_getR 19 d_X10_load_16 rfl F_10_21 (shWalk_0 hb0) rfl ?_
  refine gw_aload_n 20 d_X10_load_19 rfl rfl ?_
  refine gw_getR 23 d_X10_load_20 rfl F_10_86 (shPlan_0 hb1) rfl ?_
  refine gw_cVV (a := [gR (b1 + 14)]) (rest := []) 26 d_X10_load_23 rfl ml_10_87 v_X5_take rfl (shWalk_6 hb0) rfl rfl rfl h2 (fun m3 h4 => ?_)
  refine gw_aload_n 27 d_X10_load_26 rfl rfl ?_
  refine gw_getR 30 d_X10_load_27 rfl F_10_91 (shPlan_0 hb1) rfl ?_
  refine gw_iconst 31 d_X10_load_30 rfl rfl ?_
  refine gw_aload_n 32 d_X10_load_31 rfl rfl ?_
  refine gw_getR 35 d_X10_load_32 rfl F_10_25 (shWalk_0 hb0) rfl ?_
  refine gw_iconst 36 d_X10_load_35 rfl rfl ?_
  refine gw_aload_n 37 d_X10_load_36 rfl rfl ?_
  refine gw_getR 40 d_X10_load_37 rfl F_10_25 (shWalk_0 hb0) rfl ?_
  refine gw_alen 41 d_X10_load_40 rfl (shWalk_10 hb0) rfl (z := 5) rfl rfl ?_
  refine gw_copy 44 d_X10_load_41 rfl mj_10_92 (gw_d1 hd) (shPlan_18 hb1) (shWalk_10 hb0) (Or.inl rfl) (by decide) ?_
  exact gw_return d_X10_load_44 rfl h4
set_option maxRecDepth 100000 in
set_option maxHeartbeats 4000000 in
theorem r_X10_takeRule_0 {d : Nat} {QR : Option gw_SV → gw_Mem → Prop} {Γ : gw_Ga} (b0 : Nat) (hb0 : gw_isWalk b0) (x1 : Int) (x2 : Int) (x3 : Int) (m : gw_Mem) (h : QR none (gw_up (gw_up (gw_up m (b0 + 10) 0 x1) (b0 + 10) 1 x2) (b0 + 10) 2 x3)) : gw_G M_X10_takeRule d QR Γ 0 [some (gR b0), some (gI x1), some (gI x2), some (gI x3)] [] m := by
  refine gw_aload_n 1 d_X10_takeRule_0 rfl rfl ?_
  refine gw_getR 4 d_X10_takeRule_1 rfl F_10_25 (shWalk_0 hb0) rfl ?_
  refine gw_iconst 5 d_X10_takeRule_4 rfl rfl ?_
  refine gw_iload_n 6 d_X10_takeRule_5 rfl rfl ?_
  refine gw_iastore 7 d_X10_takeRule_6 rfl (shWalk_10 hb0) (gw_inN (k := 0) rfl) ?_
  refine gw_aload_n 8 d_X10_takeRule_7 rfl rfl ?_
  refine gw_getR 11 d_X10_takeRule_8 rfl F_10_25 (shWalk_0 hb0) rfl ?_
  refine gw_iconst 12 d_X10_takeRule_11 rfl rfl ?_
  refine gw_iload_n 13 d_X10_takeRule_12 rfl rfl ?_
  refine gw_iastore 14 d_X10_takeRule_13 rfl (shWalk_10 hb0) (gw_inN (k := 1) rfl) ?_
  refine gw_aload_n 15 d_X10_takeRule_14 rfl rfl ?_
  refine gw_getR 18 d_X10_takeRule_15 rfl F_10_25 (shWalk_0 hb0) rfl ?_
  refine gw_iconst 19 d_X10_takeRule_18 rfl rfl ?_
  refine gw_iload_n 20 d_X10_takeRule_19 rfl rfl ?_
  refine gw_iastore 21 d_X10_takeRule_20 rfl (shWalk_10 hb0) (gw_inN (k := 2) rfl) ?_
  exact gw_return d_X10_takeRule_21 rfl h
set_option maxRecDepth 100000 in
set_option maxHeartbeats 4000000 in
theorem r_X10_start_0 {d : Nat} {QR : Option gw_SV → gw_Mem → Prop} {Γ : gw_Ga} (b0 : Nat) (hb0 : gw_isWalk b0) (m : gw_Mem) (h : gw_CV d M_X2_clear [gR (b0 + 11)] m (fun m1 => gw_CI d M_X5_tailNumber [gR (b0 + 6)] (gw_up (gw_up (gw_up m1 b0 4 0) b0 5 (-4)) b0 6 (-4)) (fun v3 m4 => gw_G M_X10_start d QR Γ 61 [some (gR b0), some (gI 0)] [] (gw_up (gw_up (gw_up m4 b0 7 v3) b0 8 0) b0 9 (if (gw_up (gw_up m4 b0 7 v3) b0 8 0) (b0 + 6) 0 ≤ 0 then (-1 : Int) else (0 : Int)))))) : gw_G M_X10_start d QR Γ 0 [some (gR b0), none] [] m := by
  refine gw_aload_n 1 d_X10_start_0 rfl rfl ?_
  refine gw_getR 4 d_X10_start_1 rfl F_10_32 (shWalk_0 hb0) rfl ?_
  refine gw_cVV (a := []) (rest := []) 7 d_X10_start_4 rfl ml_10_98 v_X2_clear rfl (shWalk_11 hb0) rfl rfl rfl h (fun m1 h2 => ?_)
  refine gw_aload_n 8 d_X10_start_7 rfl rfl ?_
  refine gw_iconst 9 d_X10_start_8 rfl rfl ?_
  refine gw_putI 12 d_X10_start_9 rfl P_10_36 (Or.inl rfl) (shWalk_0 hb0) rfl (kz := 4) rfl ?_
  refine gw_aload_n 13 d_X10_start_12 rfl rfl ?_
  refine gw_bipush 15 d_X10_start_13 rfl rfl (by decide) ?_
  refine gw_putI 18 d_X10_start_15 rfl P_10_40 (Or.inl rfl) (shWalk_0 hb0) rfl (kz := 5) rfl ?_
  refine gw_aload_n 19 d_X10_start_18 rfl rfl ?_
  refine gw_bipush 21 d_X10_start_19 rfl rfl (by decide) ?_
  refine gw_putI 24 d_X10_start_21 rfl P_10_43 (Or.inl rfl) (shWalk_0 hb0) rfl (kz := 6) rfl ?_
  refine gw_aload_n 25 d_X10_start_24 rfl rfl ?_
  refine gw_aload_n 26 d_X10_start_25 rfl rfl ?_
  refine gw_getR 29 d_X10_start_26 rfl F_10_21 (shWalk_0 hb0) rfl ?_
  refine gw_cVI (a := []) (rest := [gR b0]) 32 d_X10_start_29 rfl ml_10_101 v_X5_tailNumber rfl (shWalk_6 hb0) rfl rfl rfl h2 (fun v3 m4 h5 => ?_)
  refine gw_putI 35 d_X10_start_32 rfl P_10_46 (Or.inl rfl) (shWalk_0 hb0) rfl (kz := 7) rfl ?_
  refine gw_aload_n 36 d_X10_start_35 rfl rfl ?_
  refine gw_iconst 37 d_X10_start_36 rfl rfl ?_
  refine gw_putI 40 d_X10_start_37 rfl P_10_49 (Or.inl rfl) (shWalk_0 hb0) rfl (kz := 8) rfl ?_
  refine gw_aload_n 41 d_X10_start_40 rfl rfl ?_
  refine gw_aload_n 42 d_X10_start_41 rfl rfl ?_
  refine gw_getR 45 d_X10_start_42 rfl F_10_21 (shWalk_0 hb0) rfl ?_
  refine gw_getI 48 d_X10_start_45 rfl F_10_105 (shWalk_6 hb0) rfl (kz := 0) rfl ?_
  have j6 : gw_G M_X10_start d QR Γ 56 [some (gR b0), none] [gI (if (gw_up (gw_up m4 b0 7 v3) b0 8 0) (b0 + 6) 0 ≤ 0 then (-1 : Int) else (0 : Int)), gR b0] (gw_up (gw_up m4 b0 7 v3) b0 8 0) := by
    refine gw_putI 59 d_X10_start_56 rfl P_10_52 (Or.inl rfl) (shWalk_0 hb0) rfl (kz := 9) rfl ?_
    refine gw_iconst 60 d_X10_start_59 rfl rfl ?_
    refine gw_istore_n (ls' := [some (gR b0), some (gI 0)]) 61 d_X10_start_60 rfl rfl rfl rfl ?_
    exact h5
  refine gw_if_le 55 51 d_X10_start_48 rfl rfl (fun c7 => ?_) (fun c7 => ?_)
  · skip
    refine gw_iconst 56 d_X10_start_55 rfl rfl ?_
    simpa only [if_pos c7] using j6
  · skip
    refine gw_iconst 52 d_X10_start_51 rfl rfl ?_
    refine gw_goto 56 d_X10_start_52 rfl ?_
    simpa only [if_neg c7] using j6
set_option maxRecDepth 100000 in
set_option maxHeartbeats 4000000 in
theorem r_X10_start_61 {d : Nat} {QR : Option gw_SV → gw_Mem → Prop} {Γ : gw_Ga} (b0 : Nat) (hb0 : gw_isWalk b0) (x1 : Int) (m : gw_Mem) (h : ((m (b0 + 6) 0 ≤ x1 → QR none m) ∧ (¬ (m (b0 + 6) 0 ≤ x1) → gw_in x1 10 ∧ gw_in x1 10 ∧ gw_in x1 10 ∧ gw_in x1 10 ∧ gw_in x1 10 ∧ gw_in x1 10 ∧ gw_G M_X10_start d QR Γ 61 [some (gR b0), some (gI (gw_w (x1 + 1)))] [] (gw_up (gw_up (gw_up (gw_up (gw_up (gw_up m (b0 + 12) x1 0) (b0 + 13) x1 0) (b0 + 14) x1 0) (b0 + 15) x1 0) (b0 + 16) x1 (-4)) (b0 + 17) x1 (-4))))) : gw_G M_X10_start d QR Γ 61 [some (gR b0), some (gI x1)] [] m := by
  refine gw_iload_n 62 d_X10_start_61 rfl rfl ?_
  refine gw_aload_n 63 d_X10_start_62 rfl rfl ?_
  refine gw_getR 66 d_X10_start_63 rfl F_10_21 (shWalk_0 hb0) rfl ?_
  refine gw_getI 69 d_X10_start_66 rfl F_10_105 (shWalk_6 hb0) rfl (kz := 0) rfl ?_
  refine gw_icmp_ge 122 72 d_X10_start_69 rfl rfl (fun c8 => ?_) (fun c8 => ?_)
  · skip
    exact gw_return d_X10_start_122 rfl (h.1 c8)
  · skip
    refine gw_aload_n 73 d_X10_start_72 rfl rfl ?_
    refine gw_getR 76 d_X10_start_73 rfl F_10_55 (shWalk_0 hb0) rfl ?_
    refine gw_iload_n 77 d_X10_start_76 rfl rfl ?_
    refine gw_iconst 78 d_X10_start_77 rfl rfl ?_
    refine gw_iastore 79 d_X10_start_78 rfl (shWalk_12 hb0) (h.2 c8).1 ?_
    refine gw_aload_n 80 d_X10_start_79 rfl rfl ?_
    refine gw_getR 83 d_X10_start_80 rfl F_10_58 (shWalk_0 hb0) rfl ?_
    refine gw_iload_n 84 d_X10_start_83 rfl rfl ?_
    refine gw_iconst 85 d_X10_start_84 rfl rfl ?_
    refine gw_iastore 86 d_X10_start_85 rfl (shWalk_13 hb0) (h.2 c8).2.1 ?_
    refine gw_aload_n 87 d_X10_start_86 rfl rfl ?_
    refine gw_getR 90 d_X10_start_87 rfl F_10_61 (shWalk_0 hb0) rfl ?_
    refine gw_iload_n 91 d_X10_start_90 rfl rfl ?_
    refine gw_iconst 92 d_X10_start_91 rfl rfl ?_
    refine gw_iastore 93 d_X10_start_92 rfl (shWalk_14 hb0) (h.2 c8).2.2.1 ?_
    refine gw_aload_n 94 d_X10_start_93 rfl rfl ?_
    refine gw_getR 97 d_X10_start_94 rfl F_10_64 (shWalk_0 hb0) rfl ?_
    refine gw_iload_n 98 d_X10_start_97 rfl rfl ?_
    refine gw_iconst 99 d_X10_start_98 rfl rfl ?_
    refine gw_iastore 100 d_X10_start_99 rfl (shWalk_15 hb0) (h.2 c8).2.2.2.1 ?_
    refine gw_aload_n 101 d_X10_start_100 rfl rfl ?_
    refine gw_getR 104 d_X10_start_101 rfl F_10_67 (shWalk_0 hb0) rfl ?_
    refine gw_iload_n 105 d_X10_start_104 rfl rfl ?_
    refine gw_bipush 107 d_X10_start_105 rfl rfl (by decide) ?_
    refine gw_iastore 108 d_X10_start_107 rfl (shWalk_16 hb0) (h.2 c8).2.2.2.2.1 ?_
    refine gw_aload_n 109 d_X10_start_108 rfl rfl ?_
    refine gw_getR 112 d_X10_start_109 rfl F_10_70 (shWalk_0 hb0) rfl ?_
    refine gw_iload_n 113 d_X10_start_112 rfl rfl ?_
    refine gw_bipush 115 d_X10_start_113 rfl rfl (by decide) ?_
    refine gw_iastore 116 d_X10_start_115 rfl (shWalk_17 hb0) (h.2 c8).2.2.2.2.2.1 ?_
    refine gw_iinc (ls' := [some (gR b0), some (gI (gw_w (x1 + 1)))]) 119 d_X10_start_116 rfl rfl rfl rfl rfl ?_
    refine gw_goto 61 d_X10_start_119 rfl ?_
    exact (h.2 c8).2.2.2.2.2.2
set_option maxRecDepth 100000 in
set_option maxHeartbeats 4000000 in
theorem r_X10_isOver_0 {d : Nat} {QR : Option gw_SV → gw_Mem → Prop} {Γ : gw_Ga} (b0 : Nat) (hb0 : gw_isWalk b0) (m : gw_Mem) (h : QR (some (gI (if m b0 4 = m (b0 + 1) 0 then (if m b0 9 < 0 then (1 : Int) else (if m b0 9 = m (b0 + 1) 0 then (1 : Int) else (0 : Int))) else (0 : Int)))) m) : gw_G M_X10_isOver d QR Γ 0 [some (gR b0)] [] m := by
  refine gw_aload_n 1 d_X10_isOver_0 rfl rfl ?_
  refine gw_getI 4 d_X10_isOver_1 rfl F_10_36 (shWalk_0 hb0) rfl (kz := 4) rfl ?_
  refine gw_aload_n 5 d_X10_isOver_4 rfl rfl ?_
  refine gw_getR 8 d_X10_isOver_5 rfl F_10_12 (shWalk_0 hb0) rfl ?_
  refine gw_getI 11 d_X10_isOver_8 rfl F_10_108 (shWalk_1 hb0) rfl (kz := 0) rfl ?_
  have j1 : gw_G M_X10_isOver d QR Γ 40 [some (gR b0)] [gI (if m b0 4 = m (b0 + 1) 0 then (if m b0 9 < 0 then (1 : Int) else (if m b0 9 = m (b0 + 1) 0 then (1 : Int) else (0 : Int))) else (0 : Int))] m := by
    exact gw_ireturn d_X10_isOver_40 (Or.inr ⟨rfl, (gw_bi (gw_bi gw_b1 (gw_bi gw_b1 gw_b0)) gw_b0)⟩) h
  refine gw_icmp_ne 39 14 d_X10_isOver_11 rfl rfl (fun c2 => ?_) (fun c2 => ?_)
  · skip
    refine gw_aload_n 15 d_X10_isOver_14 rfl rfl ?_
    refine gw_getI 18 d_X10_isOver_15 rfl F_10_52 (shWalk_0 hb0) rfl (kz := 9) rfl ?_
    refine gw_if_lt 35 21 d_X10_isOver_18 rfl rfl (fun c3 => ?_) (fun c3 => ?_)
    · skip
      refine gw_iconst 36 d_X10_isOver_35 rfl rfl ?_
      refine gw_goto 40 d_X10_isOver_36 rfl ?_
      simpa only [if_pos c2, if_pos c3] using j1
    · skip
      refine gw_aload_n 22 d_X10_isOver_21 rfl rfl ?_
      refine gw_getI 25 d_X10_isOver_22 rfl F_10_52 (shWalk_0 hb0) rfl (kz := 9) rfl ?_
      refine gw_aload_n 26 d_X10_isOver_25 rfl rfl ?_
      refine gw_getR 29 d_X10_isOver_26 rfl F_10_12 (shWalk_0 hb0) rfl ?_
      refine gw_getI 32 d_X10_isOver_29 rfl F_10_108 (shWalk_1 hb0) rfl (kz := 0) rfl ?_
      refine gw_icmp_ne 39 35 d_X10_isOver_32 rfl rfl (fun c4 => ?_) (fun c4 => ?_)
      · skip
        refine gw_iconst 36 d_X10_isOver_35 rfl rfl ?_
        refine gw_goto 40 d_X10_isOver_36 rfl ?_
        simpa only [if_pos c2, if_neg c3, if_pos c4] using j1
      · skip
        refine gw_iconst 40 d_X10_isOver_39 rfl rfl ?_
        simpa only [if_pos c2, if_neg c3, if_neg c4] using j1
  · skip
    refine gw_iconst 40 d_X10_isOver_39 rfl rfl ?_
    simpa only [if_neg c2] using j1
set_option maxRecDepth 100000 in
set_option maxHeartbeats 4000000 in
theorem r_X10_live_0 {d : Nat} {QR : Option gw_SV → gw_Mem → Prop} {Γ : gw_Ga} (b0 : Nat) (hb0 : gw_isWalk b0) (x1 : Int) (m : gw_Mem) (h : ((m (b0 + 1) 0 ≤ m b0 4 → gw_G M_X10_live d QR Γ 19 [some (gR b0), some (gI x1), none] [] m) ∧ (¬ (m (b0 + 1) 0 ≤ m b0 4) → gw_CV d M_X10_lead [gR b0, gI x1] m (fun m1 => gw_G M_X10_live d QR Γ 19 [some (gR b0), some (gI x1), none] [] m1)))) : gw_G M_X10_live d QR Γ 0 [some (gR b0), some (gI x1), none] [] m := by
  refine gw_aload_n 1 d_X10_live_0 rfl rfl ?_
  refine gw_getI 4 d_X10_live_1 rfl F_10_36 (shWalk_0 hb0) rfl (kz := 4) rfl ?_
  refine gw_aload_n 5 d_X10_live_4 rfl rfl ?_
  refine gw_getR 8 d_X10_live_5 rfl F_10_12 (shWalk_0 hb0) rfl ?_
  refine gw_getI 11 d_X10_live_8 rfl F_10_108 (shWalk_1 hb0) rfl (kz := 0) rfl ?_
  refine gw_icmp_ge 19 14 d_X10_live_11 rfl rfl (fun c7 => ?_) (fun c7 => ?_)
  · skip
    exact (h.1 c7)
  · skip
    refine gw_aload_n 15 d_X10_live_14 rfl rfl ?_
    refine gw_iload_n 16 d_X10_live_15 rfl rfl ?_
    refine gw_cVV (a := [gI x1]) (rest := []) 19 d_X10_live_16 rfl ml_10_109 v_X10_lead rfl (shWalk_0 hb0) rfl rfl rfl (h.2 c7) (fun m1 h2 => ?_)
    exact h2
set_option maxRecDepth 100000 in
set_option maxHeartbeats 4000000 in
theorem r_X10_live_19 {d : Nat} {QR : Option gw_SV → gw_Mem → Prop} {Γ : gw_Ga} (b0 : Nat) (hb0 : gw_isWalk b0) (x1 : Int) (y2 : Option gw_SV) (m : gw_Mem) (h : gw_G M_X10_live d QR Γ 21 [some (gR b0), some (gI x1), some (gI 0)] [] m) : gw_G M_X10_live d QR Γ 19 [some (gR b0), some (gI x1), y2] [] m := by
  refine gw_iconst 20 d_X10_live_19 rfl rfl ?_
  refine gw_istore_n (ls' := [some (gR b0), some (gI x1), some (gI 0)]) 21 d_X10_live_20 rfl rfl rfl rfl ?_
  exact h
set_option maxRecDepth 100000 in
set_option maxHeartbeats 4000000 in
theorem r_X10_live_21 {d : Nat} {QR : Option gw_SV → gw_Mem → Prop} {Γ : gw_Ga} (b0 : Nat) (hb0 : gw_isWalk b0) (x1 : Int) (x2 : Int) (m : gw_Mem) (h : ((m (b0 + 6) 0 ≤ x2 → gw_CV d M_X10_closeMinute [gR b0, gI x1] m (fun m3 => QR none m3)) ∧ (¬ (m (b0 + 6) 0 ≤ x2) → gw_in x2 10 ∧ ((0 ≤ m (b0 + 17) x2 → gw_G M_X10_live d QR Γ 47 [some (gR b0), some (gI x1), some (gI x2)] [] m) ∧ (¬ (0 ≤ m (b0 + 17) x2) → gw_CV d M_X10_follow [gR b0, gI x2, gI x1] m (fun m5 => gw_G M_X10_live d QR Γ 47 [some (gR b0), some (gI x1), some (gI x2)] [] m5)))))) : gw_G M_X10_live d QR Γ 21 [some (gR b0), some (gI x1), some (gI x2)] [] m := by
  refine gw_iload_n 22 d_X10_live_21 rfl rfl ?_
  refine gw_aload_n 23 d_X10_live_22 rfl rfl ?_
  refine gw_getR 26 d_X10_live_23 rfl F_10_21 (shWalk_0 hb0) rfl ?_
  refine gw_getI 29 d_X10_live_26 rfl F_10_105 (shWalk_6 hb0) rfl (kz := 0) rfl ?_
  refine gw_icmp_ge 53 32 d_X10_live_29 rfl rfl (fun c8 => ?_) (fun c8 => ?_)
  · skip
    refine gw_aload_n 54 d_X10_live_53 rfl rfl ?_
    refine gw_iload_n 55 d_X10_live_54 rfl rfl ?_
    refine gw_cVV (a := [gI x1]) (rest := []) 58 d_X10_live_55 rfl ml_10_117 v_X10_closeMinute rfl (shWalk_0 hb0) rfl rfl rfl (h.1 c8) (fun m3 h4 => ?_)
    exact gw_return d_X10_live_58 rfl h4
  · skip
    refine gw_aload_n 33 d_X10_live_32 rfl rfl ?_
    refine gw_getR 36 d_X10_live_33 rfl F_10_70 (shWalk_0 hb0) rfl ?_
    refine gw_iload_n 37 d_X10_live_36 rfl rfl ?_
    refine gw_iaload 38 d_X10_live_37 rfl (shWalk_17 hb0) (h.2 c8).1 ?_
    refine gw_if_ge 47 41 d_X10_live_38 rfl rfl (fun c9 => ?_) (fun c9 => ?_)
    · skip
      exact ((h.2 c8).2.1 c9)
    · skip
      refine gw_aload_n 42 d_X10_live_41 rfl rfl ?_
      refine gw_iload_n 43 d_X10_live_42 rfl rfl ?_
      refine gw_iload_n 44 d_X10_live_43 rfl rfl ?_
      refine gw_cVV (a := [gI x2, gI x1]) (rest := []) 47 d_X10_live_44 rfl ml_10_113 v_X10_follow rfl (shWalk_0 hb0) rfl rfl rfl ((h.2 c8).2.2 c9) (fun m5 h6 => ?_)
      exact h6
set_option maxRecDepth 100000 in
set_option maxHeartbeats 4000000 in
theorem r_X10_live_47 {d : Nat} {QR : Option gw_SV → gw_Mem → Prop} {Γ : gw_Ga} (b0 : Nat) (hb0 : gw_isWalk b0) (x1 : Int) (x2 : Int) (m : gw_Mem) (h : gw_G M_X10_live d QR Γ 21 [some (gR b0), some (gI x1), some (gI (gw_w (x2 + 1)))] [] m) : gw_G M_X10_live d QR Γ 47 [some (gR b0), some (gI x1), some (gI x2)] [] m := by
  refine gw_iinc (ls' := [some (gR b0), some (gI x1), some (gI (gw_w (x2 + 1)))]) 50 d_X10_live_47 rfl rfl rfl rfl rfl ?_
  refine gw_goto 21 d_X10_live_50 rfl ?_
  exact h
set_option maxRecDepth 100000 in
set_option maxHeartbeats 4000000 in
theorem r_X10_lead_0 {d : Nat} {QR : Option gw_SV → gw_Mem → Prop} {Γ : gw_Ga} (b0 : Nat) (hb0 : gw_isWalk b0) (x1 : Int) (m : gw_Mem) (h : gw_CI d M_X10_isAtOpenStop [gR b0] m (fun v1 m2 => ((v1 = 0 → gw_G M_X10_lead d QR Γ 15 [some (gR b0), some (gI x1), none] [] m2) ∧ (¬ (v1 = 0) → gw_CI d M_X10_isKept [gR b0] m2 (fun v4 m5 => ((v4 = 0 → gw_G M_X10_lead d QR Γ 15 [some (gR b0), some (gI x1), none] [] m5) ∧ (¬ (v4 = 0) → QR none m5))))))) : gw_G M_X10_lead d QR Γ 0 [some (gR b0), some (gI x1), none] [] m := by
  refine gw_aload_n 1 d_X10_lead_0 rfl rfl ?_
  refine gw_cVI (a := []) (rest := []) 4 d_X10_lead_1 rfl ml_10_120 v_X10_isAtOpenStop rfl (shWalk_0 hb0) rfl rfl rfl h (fun v1 m2 h3 => ?_)
  refine gw_if_eq 15 7 d_X10_lead_4 rfl rfl (fun c15 => ?_) (fun c15 => ?_)
  · skip
    exact (h3.1 c15)
  · skip
    refine gw_aload_n 8 d_X10_lead_7 rfl rfl ?_
    refine gw_cVI (a := []) (rest := []) 11 d_X10_lead_8 rfl ml_10_124 v_X10_isKept rfl (shWalk_0 hb0) rfl rfl rfl (h3.2 c15) (fun v4 m5 h6 => ?_)
    refine gw_if_eq 15 14 d_X10_lead_11 rfl rfl (fun c16 => ?_) (fun c16 => ?_)
    · skip
      exact (h6.1 c16)
    · skip
      exact gw_return d_X10_lead_14 rfl (h6.2 c16)
set_option maxRecDepth 100000 in
set_option maxHeartbeats 4000000 in
theorem r_X10_lead_15 {d : Nat} {QR : Option gw_SV → gw_Mem → Prop} {Γ : gw_Ga} (b0 : Nat) (hb0 : gw_isWalk b0) (x1 : Int) (y2 : Option gw_SV) (m : gw_Mem) (h : gw_G M_X10_lead d QR Γ 17 [some (gR b0), some (gI x1), some (gI 0)] [] m) : gw_G M_X10_lead d QR Γ 15 [some (gR b0), some (gI x1), y2] [] m := by
  refine gw_iconst 16 d_X10_lead_15 rfl rfl ?_
  refine gw_istore_n (ls' := [some (gR b0), some (gI x1), some (gI 0)]) 17 d_X10_lead_16 rfl rfl rfl rfl ?_
  exact h
set_option maxRecDepth 100000 in
set_option maxHeartbeats 4000000 in
theorem r_X10_lead_17 {d : Nat} {QR : Option gw_SV → gw_Mem → Prop} {Γ : gw_Ga} (b0 : Nat) (hb0 : gw_isWalk b0) (x1 : Int) (x2 : Int) (m : gw_Mem) (h : ((m (b0 + 10) 0 ≤ x2 → QR none m) ∧ (¬ (m (b0 + 10) 0 ≤ x2) → ((m (b0 + 1) 0 ≤ m b0 4 → QR none m) ∧ (¬ (m (b0 + 1) 0 ≤ m b0 4) → gw_CI d M_X10_isAtOpenStop [gR b0] m (fun v7 m8 => ((v7 = 0 → gw_CI d M_X4_isRed [gR (b0 + 1), gI (m8 b0 4), gI x1] m8 (fun v10 m11 => ((v10 = 0 → gw_CV d M_X2_clear [gR (b0 + 11)] (gw_up m11 b0 4 (gw_w ((m11 b0 4) + 1))) (fun m13 => gw_G M_X10_lead d QR Γ 17 [some (gR b0), some (gI x1), some (gI (gw_w (x2 + 1)))] [] m13)) ∧ (¬ (v10 = 0) → QR none m11)))) ∧ (¬ (v7 = 0) → QR none m8)))))))) : gw_G M_X10_lead d QR Γ 17 [some (gR b0), some (gI x1), some (gI x2)] [] m := by
  refine gw_iload_n 18 d_X10_lead_17 rfl rfl ?_
  refine gw_aload_n 19 d_X10_lead_18 rfl rfl ?_
  refine gw_getR 22 d_X10_lead_19 rfl F_10_25 (shWalk_0 hb0) rfl ?_
  refine gw_iconst 23 d_X10_lead_22 rfl rfl ?_
  refine gw_iaload 24 d_X10_lead_23 rfl (shWalk_10 hb0) (gw_inN (k := 0) rfl) ?_
  refine gw_icmp_ge 87 27 d_X10_lead_24 rfl rfl (fun c17 => ?_) (fun c17 => ?_)
  · skip
    exact gw_return d_X10_lead_87 rfl (h.1 c17)
  · skip
    refine gw_aload_n 28 d_X10_lead_27 rfl rfl ?_
    refine gw_getI 31 d_X10_lead_28 rfl F_10_36 (shWalk_0 hb0) rfl (kz := 4) rfl ?_
    refine gw_aload_n 32 d_X10_lead_31 rfl rfl ?_
    refine gw_getR 35 d_X10_lead_32 rfl F_10_12 (shWalk_0 hb0) rfl ?_
    refine gw_getI 38 d_X10_lead_35 rfl F_10_108 (shWalk_1 hb0) rfl (kz := 0) rfl ?_
    refine gw_icmp_ge 63 41 d_X10_lead_38 rfl rfl (fun c18 => ?_) (fun c18 => ?_)
    · skip
      exact gw_return d_X10_lead_63 rfl ((h.2 c17).1 c18)
    · skip
      refine gw_aload_n 42 d_X10_lead_41 rfl rfl ?_
      refine gw_cVI (a := []) (rest := []) 45 d_X10_lead_42 rfl ml_10_120 v_X10_isAtOpenStop rfl (shWalk_0 hb0) rfl rfl rfl ((h.2 c17).2 c18) (fun v7 m8 h9 => ?_)
      refine gw_if_ne 63 48 d_X10_lead_45 rfl rfl (fun c19 => ?_) (fun c19 => ?_)
      · skip
        refine gw_aload_n 49 d_X10_lead_48 rfl rfl ?_
        refine gw_getR 52 d_X10_lead_49 rfl F_10_12 (shWalk_0 hb0) rfl ?_
        refine gw_aload_n 53 d_X10_lead_52 rfl rfl ?_
        refine gw_getI 56 d_X10_lead_53 rfl F_10_36 (shWalk_0 hb0) rfl (kz := 4) rfl ?_
        refine gw_iload_n 57 d_X10_lead_56 rfl rfl ?_
        refine gw_cVI (a := [gI (m8 b0 4), gI x1]) (rest := []) 60 d_X10_lead_57 rfl ml_10_127 v_X4_isRed rfl (shWalk_1 hb0) rfl rfl rfl (h9.1 c19) (fun v10 m11 h12 => ?_)
        refine gw_if_eq 64 63 d_X10_lead_60 rfl rfl (fun c20 => ?_) (fun c20 => ?_)
        · skip
          refine gw_aload_n 65 d_X10_lead_64 rfl rfl ?_
          refine gw_dup 66 d_X10_lead_65 rfl rfl ?_
          refine gw_getI 69 d_X10_lead_66 rfl F_10_36 (shWalk_0 hb0) rfl (kz := 4) rfl ?_
          refine gw_iconst 70 d_X10_lead_69 rfl rfl ?_
          refine gw_iadd 71 d_X10_lead_70 rfl  ?_
          refine gw_putI 74 d_X10_lead_71 rfl P_10_36 (Or.inl rfl) (shWalk_0 hb0) rfl (kz := 4) rfl ?_
          refine gw_aload_n 75 d_X10_lead_74 rfl rfl ?_
          refine gw_getR 78 d_X10_lead_75 rfl F_10_32 (shWalk_0 hb0) rfl ?_
          refine gw_cVV (a := []) (rest := []) 81 d_X10_lead_78 rfl ml_10_98 v_X2_clear rfl (shWalk_11 hb0) rfl rfl rfl (h12.1 c20) (fun m13 h14 => ?_)
          refine gw_iinc (ls' := [some (gR b0), some (gI x1), some (gI (gw_w (x2 + 1)))]) 84 d_X10_lead_81 rfl rfl rfl rfl rfl ?_
          refine gw_goto 17 d_X10_lead_84 rfl ?_
          exact h14
        · skip
          exact gw_return d_X10_lead_63 rfl (h12.2 c20)
      · skip
        exact gw_return d_X10_lead_63 rfl (h9.2 c19)
set_option maxRecDepth 100000 in
set_option maxHeartbeats 4000000 in
theorem r_X10_isAtOpenStop_0 {d : Nat} {QR : Option gw_SV → gw_Mem → Prop} {Γ : gw_Ga} (b0 : Nat) (hb0 : gw_isWalk b0) (m : gw_Mem) (h : gw_in (m b0 4) 100 ∧ QR (some (gI (if m (b0 + 2) (m b0 4) ≤ 0 then (0 : Int) else (if m (b0 + 11) 1 = 0 then (1 : Int) else (0 : Int))))) m) : gw_G M_X10_isAtOpenStop d QR Γ 0 [some (gR b0)] [] m := by
  refine gw_aload_n 1 d_X10_isAtOpenStop_0 rfl rfl ?_
  refine gw_getR 4 d_X10_isAtOpenStop_1 rfl F_10_12 (shWalk_0 hb0) rfl ?_
  refine gw_getR 7 d_X10_isAtOpenStop_4 rfl F_10_131 (shWalk_1 hb0) rfl ?_
  refine gw_aload_n 8 d_X10_isAtOpenStop_7 rfl rfl ?_
  refine gw_getI 11 d_X10_isAtOpenStop_8 rfl F_10_36 (shWalk_0 hb0) rfl (kz := 4) rfl ?_
  refine gw_iaload 12 d_X10_isAtOpenStop_11 rfl (shWalk_2 hb0) h.1 ?_
  have j1 : gw_G M_X10_isAtOpenStop d QR Γ 30 [some (gR b0)] [gI (if m (b0 + 2) (m b0 4) ≤ 0 then (0 : Int) else (if m (b0 + 11) 1 = 0 then (1 : Int) else (0 : Int)))] m := by
    exact gw_ireturn d_X10_isAtOpenStop_30 (Or.inr ⟨rfl, (gw_bi gw_b0 (gw_bi gw_b1 gw_b0))⟩) h.2
  refine gw_if_le 29 15 d_X10_isAtOpenStop_12 rfl rfl (fun c2 => ?_) (fun c2 => ?_)
  · skip
    refine gw_iconst 30 d_X10_isAtOpenStop_29 rfl rfl ?_
    simpa only [if_pos c2] using j1
  · skip
    refine gw_aload_n 16 d_X10_isAtOpenStop_15 rfl rfl ?_
    refine gw_getR 19 d_X10_isAtOpenStop_16 rfl F_10_32 (shWalk_0 hb0) rfl ?_
    refine gw_getI 22 d_X10_isAtOpenStop_19 rfl F_10_134 (shWalk_11 hb0) rfl (kz := 1) rfl ?_
    refine gw_if_ne 29 25 d_X10_isAtOpenStop_22 rfl rfl (fun c3 => ?_) (fun c3 => ?_)
    · skip
      refine gw_iconst 26 d_X10_isAtOpenStop_25 rfl rfl ?_
      refine gw_goto 30 d_X10_isAtOpenStop_26 rfl ?_
      simpa only [if_neg c2, if_pos c3] using j1
    · skip
      refine gw_iconst 30 d_X10_isAtOpenStop_29 rfl rfl ?_
      simpa only [if_neg c2, if_neg c3] using j1
set_option maxRecDepth 100000 in
set_option maxHeartbeats 4000000 in
theorem r_X10_isKept_0 {d : Nat} {QR : Option gw_SV → gw_Mem → Prop} {Γ : gw_Ga} (b0 : Nat) (hb0 : gw_isWalk b0) (m : gw_Mem) (h : ((m (b0 + 11) 0 = 0 → gw_CI d M_X10_isToBegin [gR b0] m (fun v1 m2 => ((v1 = 0 → QR (some (gI 1)) (gw_up m2 (b0 + 11) 2 (gw_w ((m2 (b0 + 11) 2) + 1)))) ∧ (¬ (v1 = 0) → gw_G M_X10_isKept d QR Γ 40 [some (gR b0)] [] (gw_up m2 (b0 + 11) 0 1))))) ∧ (¬ (m (b0 + 11) 0 = 0) → gw_G M_X10_isKept d QR Γ 40 [some (gR b0)] [] m))) : gw_G M_X10_isKept d QR Γ 0 [some (gR b0)] [] m := by
  refine gw_aload_n 1 d_X10_isKept_0 rfl rfl ?_
  refine gw_getR 4 d_X10_isKept_1 rfl F_10_32 (shWalk_0 hb0) rfl ?_
  refine gw_getI 7 d_X10_isKept_4 rfl F_10_138 (shWalk_11 hb0) rfl (kz := 0) rfl ?_
  refine gw_if_ne 40 10 d_X10_isKept_7 rfl rfl (fun c6 => ?_) (fun c6 => ?_)
  · skip
    refine gw_aload_n 11 d_X10_isKept_10 rfl rfl ?_
    refine gw_cVI (a := []) (rest := []) 14 d_X10_isKept_11 rfl ml_10_141 v_X10_isToBegin rfl (shWalk_0 hb0) rfl rfl rfl (h.1 c6) (fun v1 m2 h3 => ?_)
    refine gw_if_ne 32 17 d_X10_isKept_14 rfl rfl (fun c7 => ?_) (fun c7 => ?_)
    · skip
      refine gw_aload_n 18 d_X10_isKept_17 rfl rfl ?_
      refine gw_getR 21 d_X10_isKept_18 rfl F_10_32 (shWalk_0 hb0) rfl ?_
      refine gw_dup 22 d_X10_isKept_21 rfl rfl ?_
      refine gw_getI 25 d_X10_isKept_22 rfl F_10_144 (shWalk_11 hb0) rfl (kz := 2) rfl ?_
      refine gw_iconst 26 d_X10_isKept_25 rfl rfl ?_
      refine gw_iadd 27 d_X10_isKept_26 rfl  ?_
      refine gw_putI 30 d_X10_isKept_27 rfl P_10_144 (Or.inl rfl) (shWalk_11 hb0) rfl (kz := 2) rfl ?_
      refine gw_iconst 31 d_X10_isKept_30 rfl rfl ?_
      exact gw_ireturn d_X10_isKept_31 (Or.inr ⟨rfl, gw_b1⟩) (h3.1 c7)
    · skip
      refine gw_aload_n 33 d_X10_isKept_32 rfl rfl ?_
      refine gw_getR 36 d_X10_isKept_33 rfl F_10_32 (shWalk_0 hb0) rfl ?_
      refine gw_iconst 37 d_X10_isKept_36 rfl rfl ?_
      refine gw_putI 40 d_X10_isKept_37 rfl P_10_138 (Or.inr ⟨rfl, gw_b1⟩) (shWalk_11 hb0) rfl (kz := 0) rfl ?_
      exact (h3.2 c7)
  · skip
    exact (h.2 c6)
set_option maxRecDepth 100000 in
set_option maxHeartbeats 4000000 in
theorem r_X10_isKept_40 {d : Nat} {QR : Option gw_SV → gw_Mem → Prop} {Γ : gw_Ga} (b0 : Nat) (hb0 : gw_isWalk b0) (m : gw_Mem) (h : gw_in (m b0 4) 100 ∧ ((m (b0 + 2) (m b0 4) ≤ m (b0 + 11) 3 → ((m (b0 + 10) 2 ≤ m (b0 + 11) 5 → gw_G M_X10_isKept d QR Γ 113 [some (gR b0)] [] m) ∧ (¬ (m (b0 + 10) 2 ≤ m (b0 + 11) 5) → ((m (b0 + 11) 4 < m (b0 + 10) 3 → QR (some (gI 1)) (gw_up m (b0 + 11) 4 (gw_w ((m (b0 + 11) 4) + 1)))) ∧ (¬ (m (b0 + 11) 4 < m (b0 + 10) 3) → gw_G M_X10_isKept d QR Γ 113 [some (gR b0)] [] m))))) ∧ (¬ (m (b0 + 2) (m b0 4) ≤ m (b0 + 11) 3) → gw_CV d M_X10_speak [gR b0] (gw_up m (b0 + 11) 3 (gw_w ((m (b0 + 11) 3) + 1))) (fun m4 => QR (some (gI 1)) m4)))) : gw_G M_X10_isKept d QR Γ 40 [some (gR b0)] [] m := by
  refine gw_aload_n 41 d_X10_isKept_40 rfl rfl ?_
  refine gw_getR 44 d_X10_isKept_41 rfl F_10_32 (shWalk_0 hb0) rfl ?_
  refine gw_getI 47 d_X10_isKept_44 rfl F_10_147 (shWalk_11 hb0) rfl (kz := 3) rfl ?_
  refine gw_aload_n 48 d_X10_isKept_47 rfl rfl ?_
  refine gw_getR 51 d_X10_isKept_48 rfl F_10_12 (shWalk_0 hb0) rfl ?_
  refine gw_getR 54 d_X10_isKept_51 rfl F_10_131 (shWalk_1 hb0) rfl ?_
  refine gw_aload_n 55 d_X10_isKept_54 rfl rfl ?_
  refine gw_getI 58 d_X10_isKept_55 rfl F_10_36 (shWalk_0 hb0) rfl (kz := 4) rfl ?_
  refine gw_iaload 59 d_X10_isKept_58 rfl (shWalk_2 hb0) h.1 ?_
  refine gw_icmp_ge 81 62 d_X10_isKept_59 rfl rfl (fun c8 => ?_) (fun c8 => ?_)
  · skip
    refine gw_aload_n 82 d_X10_isKept_81 rfl rfl ?_
    refine gw_getR 85 d_X10_isKept_82 rfl F_10_32 (shWalk_0 hb0) rfl ?_
    refine gw_getI 88 d_X10_isKept_85 rfl F_10_153 (shWalk_11 hb0) rfl (kz := 5) rfl ?_
    refine gw_aload_n 89 d_X10_isKept_88 rfl rfl ?_
    refine gw_getR 92 d_X10_isKept_89 rfl F_10_25 (shWalk_0 hb0) rfl ?_
    refine gw_iconst 93 d_X10_isKept_92 rfl rfl ?_
    refine gw_iaload 94 d_X10_isKept_93 rfl (shWalk_10 hb0) (gw_inN (k := 2) rfl) ?_
    refine gw_icmp_ge 113 97 d_X10_isKept_94 rfl rfl (fun c9 => ?_) (fun c9 => ?_)
    · skip
      exact ((h.2.1 c8).1 c9)
    · skip
      refine gw_aload_n 98 d_X10_isKept_97 rfl rfl ?_
      refine gw_getR 101 d_X10_isKept_98 rfl F_10_32 (shWalk_0 hb0) rfl ?_
      refine gw_getI 104 d_X10_isKept_101 rfl F_10_156 (shWalk_11 hb0) rfl (kz := 4) rfl ?_
      refine gw_aload_n 105 d_X10_isKept_104 rfl rfl ?_
      refine gw_getR 108 d_X10_isKept_105 rfl F_10_25 (shWalk_0 hb0) rfl ?_
      refine gw_iconst 109 d_X10_isKept_108 rfl rfl ?_
      refine gw_iaload 110 d_X10_isKept_109 rfl (shWalk_10 hb0) (gw_inN (k := 3) rfl) ?_
      refine gw_icmp_lt 123 113 d_X10_isKept_110 rfl rfl (fun c10 => ?_) (fun c10 => ?_)
      · skip
        refine gw_aload_n 124 d_X10_isKept_123 rfl rfl ?_
        refine gw_getR 127 d_X10_isKept_124 rfl F_10_32 (shWalk_0 hb0) rfl ?_
        refine gw_dup 128 d_X10_isKept_127 rfl rfl ?_
        refine gw_getI 131 d_X10_isKept_128 rfl F_10_156 (shWalk_11 hb0) rfl (kz := 4) rfl ?_
        refine gw_iconst 132 d_X10_isKept_131 rfl rfl ?_
        refine gw_iadd 133 d_X10_isKept_132 rfl  ?_
        refine gw_putI 136 d_X10_isKept_133 rfl P_10_156 (Or.inl rfl) (shWalk_11 hb0) rfl (kz := 4) rfl ?_
        refine gw_iconst 137 d_X10_isKept_136 rfl rfl ?_
        exact gw_ireturn d_X10_isKept_137 (Or.inr ⟨rfl, gw_b1⟩) (((h.2.1 c8).2 c9).1 c10)
      · skip
        exact (((h.2.1 c8).2 c9).2 c10)
  · skip
    refine gw_aload_n 63 d_X10_isKept_62 rfl rfl ?_
    refine gw_getR 66 d_X10_isKept_63 rfl F_10_32 (shWalk_0 hb0) rfl ?_
    refine gw_dup 67 d_X10_isKept_66 rfl rfl ?_
    refine gw_getI 70 d_X10_isKept_67 rfl F_10_147 (shWalk_11 hb0) rfl (kz := 3) rfl ?_
    refine gw_iconst 71 d_X10_isKept_70 rfl rfl ?_
    refine gw_iadd 72 d_X10_isKept_71 rfl  ?_
    refine gw_putI 75 d_X10_isKept_72 rfl P_10_147 (Or.inl rfl) (shWalk_11 hb0) rfl (kz := 3) rfl ?_
    refine gw_aload_n 76 d_X10_isKept_75 rfl rfl ?_
    refine gw_cVV (a := []) (rest := []) 79 d_X10_isKept_76 rfl ml_10_150 v_X10_speak rfl (shWalk_0 hb0) rfl rfl rfl (h.2.2 c8) (fun m4 h5 => ?_)
    refine gw_iconst 80 d_X10_isKept_79 rfl rfl ?_
    exact gw_ireturn d_X10_isKept_80 (Or.inr ⟨rfl, gw_b1⟩) h5
set_option maxRecDepth 100000 in
set_option maxHeartbeats 4000000 in
theorem r_X10_isKept_113 {d : Nat} {QR : Option gw_SV → gw_Mem → Prop} {Γ : gw_Ga} (b0 : Nat) (hb0 : gw_isWalk b0) (m : gw_Mem) (h : QR (some (gI 0)) (gw_up m (b0 + 11) 1 1)) : gw_G M_X10_isKept d QR Γ 113 [some (gR b0)] [] m := by
  refine gw_aload_n 114 d_X10_isKept_113 rfl rfl ?_
  refine gw_getR 117 d_X10_isKept_114 rfl F_10_32 (shWalk_0 hb0) rfl ?_
  refine gw_iconst 118 d_X10_isKept_117 rfl rfl ?_
  refine gw_putI 121 d_X10_isKept_118 rfl P_10_134 (Or.inr ⟨rfl, gw_b1⟩) (shWalk_11 hb0) rfl (kz := 1) rfl ?_
  refine gw_iconst 122 d_X10_isKept_121 rfl rfl ?_
  exact gw_ireturn d_X10_isKept_122 (Or.inr ⟨rfl, gw_b0⟩) h
set_option maxRecDepth 100000 in
set_option maxHeartbeats 4000000 in
theorem r_X10_isToBegin_0 {d : Nat} {QR : Option gw_SV → gw_Mem → Prop} {Γ : gw_Ga} (b0 : Nat) (hb0 : gw_isWalk b0) (m : gw_Mem) (h : gw_G M_X10_isToBegin d QR Γ 4 [some (gR b0), some (gI 0), some (gI 0)] [] m) : gw_G M_X10_isToBegin d QR Γ 0 [some (gR b0), none, none] [] m := by
  refine gw_iconst 1 d_X10_isToBegin_0 rfl rfl ?_
  refine gw_istore_n (ls' := [some (gR b0), some (gI 0), none]) 2 d_X10_isToBegin_1 rfl rfl rfl rfl ?_
  refine gw_iconst 3 d_X10_isToBegin_2 rfl rfl ?_
  refine gw_istore_n (ls' := [some (gR b0), some (gI 0), some (gI 0)]) 4 d_X10_isToBegin_3 rfl rfl rfl rfl ?_
  exact h
set_option maxRecDepth 100000 in
set_option maxHeartbeats 4000000 in
theorem r_X10_isToBegin_4 {d : Nat} {QR : Option gw_SV → gw_Mem → Prop} {Γ : gw_Ga} (b0 : Nat) (hb0 : gw_isWalk b0) (x1 : Int) (x2 : Int) (m : gw_Mem) (h : ((m (b0 + 6) 0 ≤ x2 → QR (some (gI (if m (b0 + 10) 1 ≤ x1 then (1 : Int) else (if x1 = gw_w ((m (b0 + 6) 0) - (m b0 8)) then (1 : Int) else (if m (b0 + 11) 2 < m (b0 + 10) 3 then (0 : Int) else (1 : Int)))))) m) ∧ (¬ (m (b0 + 6) 0 ≤ x2) → gw_in x2 10 ∧ (¬ (0 ≤ m (b0 + 17) x2) → gw_in x2 10) ∧ gw_G M_X10_isToBegin d QR Γ 4 [some (gR b0), some (gI (gw_w (x1 + (if 0 ≤ m (b0 + 17) x2 then (0 : Int) else (if m (b0 + 10) 4 < gw_w ((m b0 4) - (m (b0 + 12) x2)) then (0 : Int) else (1 : Int)))))), some (gI (gw_w (x2 + 1)))] [] m))) : gw_G M_X10_isToBegin d QR Γ 4 [some (gR b0), some (gI x1), some (gI x2)] [] m := by
  refine gw_iload_n 5 d_X10_isToBegin_4 rfl rfl ?_
  refine gw_aload_n 6 d_X10_isToBegin_5 rfl rfl ?_
  refine gw_getR 9 d_X10_isToBegin_6 rfl F_10_21 (shWalk_0 hb0) rfl ?_
  refine gw_getI 12 d_X10_isToBegin_9 rfl F_10_105 (shWalk_6 hb0) rfl (kz := 0) rfl ?_
  refine gw_icmp_ge 58 15 d_X10_isToBegin_12 rfl rfl (fun c1 => ?_) (fun c1 => ?_)
  · skip
    refine gw_iload_n 59 d_X10_isToBegin_58 rfl rfl ?_
    refine gw_aload_n 60 d_X10_isToBegin_59 rfl rfl ?_
    refine gw_getR 63 d_X10_isToBegin_60 rfl F_10_25 (shWalk_0 hb0) rfl ?_
    refine gw_iconst 64 d_X10_isToBegin_63 rfl rfl ?_
    refine gw_iaload 65 d_X10_isToBegin_64 rfl (shWalk_10 hb0) (gw_inN (k := 1) rfl) ?_
    have j2 : gw_G M_X10_isToBegin d QR Γ 105 [some (gR b0), some (gI x1), some (gI x2)] [gI (if m (b0 + 10) 1 ≤ x1 then (1 : Int) else (if x1 = gw_w ((m (b0 + 6) 0) - (m b0 8)) then (1 : Int) else (if m (b0 + 11) 2 < m (b0 + 10) 3 then (0 : Int) else (1 : Int))))] m := by
      exact gw_ireturn d_X10_isToBegin_105 (Or.inr ⟨rfl, (gw_bi gw_b1 (gw_bi gw_b1 (gw_bi gw_b0 gw_b1)))⟩) (h.1 c1)
    refine gw_icmp_ge 100 68 d_X10_isToBegin_65 rfl rfl (fun c3 => ?_) (fun c3 => ?_)
    · skip
      refine gw_iconst 101 d_X10_isToBegin_100 rfl rfl ?_
      refine gw_goto 105 d_X10_isToBegin_101 rfl ?_
      simpa only [if_pos c3] using j2
    · skip
      refine gw_iload_n 69 d_X10_isToBegin_68 rfl rfl ?_
      refine gw_aload_n 70 d_X10_isToBegin_69 rfl rfl ?_
      refine gw_getR 73 d_X10_isToBegin_70 rfl F_10_21 (shWalk_0 hb0) rfl ?_
      refine gw_getI 76 d_X10_isToBegin_73 rfl F_10_105 (shWalk_6 hb0) rfl (kz := 0) rfl ?_
      refine gw_aload_n 77 d_X10_isToBegin_76 rfl rfl ?_
      refine gw_getI 80 d_X10_isToBegin_77 rfl F_10_49 (shWalk_0 hb0) rfl (kz := 8) rfl ?_
      refine gw_isub 81 d_X10_isToBegin_80 rfl  ?_
      refine gw_icmp_eq 100 84 d_X10_isToBegin_81 rfl rfl (fun c4 => ?_) (fun c4 => ?_)
      · skip
        refine gw_iconst 101 d_X10_isToBegin_100 rfl rfl ?_
        refine gw_goto 105 d_X10_isToBegin_101 rfl ?_
        simpa only [if_neg c3, if_pos c4] using j2
      · skip
        refine gw_aload_n 85 d_X10_isToBegin_84 rfl rfl ?_
        refine gw_getR 88 d_X10_isToBegin_85 rfl F_10_32 (shWalk_0 hb0) rfl ?_
        refine gw_getI 91 d_X10_isToBegin_88 rfl F_10_144 (shWalk_11 hb0) rfl (kz := 2) rfl ?_
        refine gw_aload_n 92 d_X10_isToBegin_91 rfl rfl ?_
        refine gw_getR 95 d_X10_isToBegin_92 rfl F_10_25 (shWalk_0 hb0) rfl ?_
        refine gw_iconst 96 d_X10_isToBegin_95 rfl rfl ?_
        refine gw_iaload 97 d_X10_isToBegin_96 rfl (shWalk_10 hb0) (gw_inN (k := 3) rfl) ?_
        refine gw_icmp_lt 104 100 d_X10_isToBegin_97 rfl rfl (fun c5 => ?_) (fun c5 => ?_)
        · skip
          refine gw_iconst 105 d_X10_isToBegin_104 rfl rfl ?_
          simpa only [if_neg c3, if_neg c4, if_pos c5] using j2
        · skip
          refine gw_iconst 101 d_X10_isToBegin_100 rfl rfl ?_
          refine gw_goto 105 d_X10_isToBegin_101 rfl ?_
          simpa only [if_neg c3, if_neg c4, if_neg c5] using j2
  · skip
    refine gw_iload_n 16 d_X10_isToBegin_15 rfl rfl ?_
    refine gw_aload_n 17 d_X10_isToBegin_16 rfl rfl ?_
    refine gw_getR 20 d_X10_isToBegin_17 rfl F_10_70 (shWalk_0 hb0) rfl ?_
    refine gw_iload_n 21 d_X10_isToBegin_20 rfl rfl ?_
    refine gw_iaload 22 d_X10_isToBegin_21 rfl (shWalk_17 hb0) (h.2 c1).1 ?_
    have j6 : gw_G M_X10_isToBegin d QR Γ 50 [some (gR b0), some (gI x1), some (gI x2)] [gI (if 0 ≤ m (b0 + 17) x2 then (0 : Int) else (if m (b0 + 10) 4 < gw_w ((m b0 4) - (m (b0 + 12) x2)) then (0 : Int) else (1 : Int))), gI x1] m := by
      refine gw_iadd 51 d_X10_isToBegin_50 rfl  ?_
      refine gw_istore_n (ls' := [some (gR b0), some (gI (gw_w (x1 + (if 0 ≤ m (b0 + 17) x2 then (0 : Int) else (if m (b0 + 10) 4 < gw_w ((m b0 4) - (m (b0 + 12) x2)) then (0 : Int) else (1 : Int)))))), some (gI x2)]) 52 d_X10_isToBegin_51 rfl rfl rfl rfl ?_
      refine gw_iinc (ls' := [some (gR b0), some (gI (gw_w (x1 + (if 0 ≤ m (b0 + 17) x2 then (0 : Int) else (if m (b0 + 10) 4 < gw_w ((m b0 4) - (m (b0 + 12) x2)) then (0 : Int) else (1 : Int)))))), some (gI (gw_w (x2 + 1)))]) 55 d_X10_isToBegin_52 rfl rfl rfl rfl rfl ?_
      refine gw_goto 4 d_X10_isToBegin_55 rfl ?_
      exact (h.2 c1).2.2
    refine gw_if_ge 49 25 d_X10_isToBegin_22 rfl rfl (fun c7 => ?_) (fun c7 => ?_)
    · skip
      refine gw_iconst 50 d_X10_isToBegin_49 rfl rfl ?_
      simpa only [if_pos c7] using j6
    · skip
      refine gw_aload_n 26 d_X10_isToBegin_25 rfl rfl ?_
      refine gw_getI 29 d_X10_isToBegin_26 rfl F_10_36 (shWalk_0 hb0) rfl (kz := 4) rfl ?_
      refine gw_aload_n 30 d_X10_isToBegin_29 rfl rfl ?_
      refine gw_getR 33 d_X10_isToBegin_30 rfl F_10_55 (shWalk_0 hb0) rfl ?_
      refine gw_iload_n 34 d_X10_isToBegin_33 rfl rfl ?_
      refine gw_iaload 35 d_X10_isToBegin_34 rfl (shWalk_12 hb0) ((h.2 c1).2.1 c7) ?_
      refine gw_isub 36 d_X10_isToBegin_35 rfl  ?_
      refine gw_aload_n 37 d_X10_isToBegin_36 rfl rfl ?_
      refine gw_getR 40 d_X10_isToBegin_37 rfl F_10_25 (shWalk_0 hb0) rfl ?_
      refine gw_iconst 41 d_X10_isToBegin_40 rfl rfl ?_
      refine gw_iaload 42 d_X10_isToBegin_41 rfl (shWalk_10 hb0) (gw_inN (k := 4) rfl) ?_
      refine gw_icmp_gt 49 45 d_X10_isToBegin_42 rfl rfl (fun c8 => ?_) (fun c8 => ?_)
      · skip
        refine gw_iconst 50 d_X10_isToBegin_49 rfl rfl ?_
        simpa only [if_neg c7, if_pos c8] using j6
      · skip
        refine gw_iconst 46 d_X10_isToBegin_45 rfl rfl ?_
        refine gw_goto 50 d_X10_isToBegin_46 rfl ?_
        simpa only [if_neg c7, if_neg c8] using j6
set_option maxRecDepth 100000 in
set_option maxHeartbeats 4000000 in
theorem r_X10_speak_0 {d : Nat} {QR : Option gw_SV → gw_Mem → Prop} {Γ : gw_Ga} (b0 : Nat) (hb0 : gw_isWalk b0) (m : gw_Mem) (h : gw_G M_X10_speak d QR Γ 2 [some (gR b0), some (gI 0), none] [] m) : gw_G M_X10_speak d QR Γ 0 [some (gR b0), none, none] [] m := by
  refine gw_iconst 1 d_X10_speak_0 rfl rfl ?_
  refine gw_istore_n (ls' := [some (gR b0), some (gI 0), none]) 2 d_X10_speak_1 rfl rfl rfl rfl ?_
  exact h
set_option maxRecDepth 100000 in
set_option maxHeartbeats 4000000 in
theorem r_X10_speak_2 {d : Nat} {QR : Option gw_SV → gw_Mem → Prop} {Γ : gw_Ga} (b0 : Nat) (hb0 : gw_isWalk b0) (x1 : Int) (y2 : Option gw_SV) (m : gw_Mem) (h : ((m (b0 + 6) 0 ≤ x1 → QR none m) ∧ (¬ (m (b0 + 6) 0 ≤ x1) → gw_in x1 10 ∧ gw_in x1 10 ∧ gw_in x1 10 ∧ (¬ (0 ≤ m (b0 + 17) x1) → gw_in x1 10) ∧ gw_in x1 10 ∧ gw_G M_X10_speak d QR Γ 2 [some (gR b0), some (gI (gw_w (x1 + 1))), some (gI (if m (b0 + 9) x1 = 0 then m (b0 + 10) 4 else gw_w (3 * (m (b0 + 10) 4))))] [] (gw_up m (b0 + 14) x1 (gw_w ((m (b0 + 14) x1) + (if 0 ≤ m (b0 + 17) x1 then (0 : Int) else (if (if m (b0 + 9) x1 = 0 then m (b0 + 10) 4 else gw_w (3 * (m (b0 + 10) 4))) < gw_w ((m b0 4) - (m (b0 + 12) x1)) then (0 : Int) else (1 : Int))))))))) : gw_G M_X10_speak d QR Γ 2 [some (gR b0), some (gI x1), y2] [] m := by
  refine gw_iload_n 3 d_X10_speak_2 rfl rfl ?_
  refine gw_aload_n 4 d_X10_speak_3 rfl rfl ?_
  refine gw_getR 7 d_X10_speak_4 rfl F_10_21 (shWalk_0 hb0) rfl ?_
  refine gw_getI 10 d_X10_speak_7 rfl F_10_105 (shWalk_6 hb0) rfl (kz := 0) rfl ?_
  refine gw_icmp_ge 87 13 d_X10_speak_10 rfl rfl (fun c1 => ?_) (fun c1 => ?_)
  · skip
    exact gw_return d_X10_speak_87 rfl (h.1 c1)
  · skip
    refine gw_aload_n 14 d_X10_speak_13 rfl rfl ?_
    refine gw_getR 17 d_X10_speak_14 rfl F_10_21 (shWalk_0 hb0) rfl ?_
    refine gw_getR 20 d_X10_speak_17 rfl F_10_159 (shWalk_6 hb0) rfl ?_
    refine gw_iload_n 21 d_X10_speak_20 rfl rfl ?_
    refine gw_zaload 22 d_X10_speak_21 rfl (shWalk_9 hb0) (h.2 c1).1 ?_
    have j2 : gw_G M_X10_speak d QR Γ 42 [some (gR b0), some (gI x1), y2] [gI (if m (b0 + 9) x1 = 0 then m (b0 + 10) 4 else gw_w (3 * (m (b0 + 10) 4)))] m := by
      refine gw_istore_n (ls' := [some (gR b0), some (gI x1), some (gI (if m (b0 + 9) x1 = 0 then m (b0 + 10) 4 else gw_w (3 * (m (b0 + 10) 4))))]) 43 d_X10_speak_42 rfl rfl rfl rfl ?_
      refine gw_aload_n 44 d_X10_speak_43 rfl rfl ?_
      refine gw_getR 47 d_X10_speak_44 rfl F_10_61 (shWalk_0 hb0) rfl ?_
      refine gw_iload_n 48 d_X10_speak_47 rfl rfl ?_
      refine gw_dup2 49 d_X10_speak_48 rfl rfl rfl ?_
      refine gw_iaload 50 d_X10_speak_49 rfl (shWalk_14 hb0) (h.2 c1).2.1 ?_
      refine gw_aload_n 51 d_X10_speak_50 rfl rfl ?_
      refine gw_getR 54 d_X10_speak_51 rfl F_10_70 (shWalk_0 hb0) rfl ?_
      refine gw_iload_n 55 d_X10_speak_54 rfl rfl ?_
      refine gw_iaload 56 d_X10_speak_55 rfl (shWalk_17 hb0) (h.2 c1).2.2.1 ?_
      have j4 : gw_G M_X10_speak d QR Γ 79 [some (gR b0), some (gI x1), some (gI (if m (b0 + 9) x1 = 0 then m (b0 + 10) 4 else gw_w (3 * (m (b0 + 10) 4))))] [gI (if 0 ≤ m (b0 + 17) x1 then (0 : Int) else (if (if m (b0 + 9) x1 = 0 then m (b0 + 10) 4 else gw_w (3 * (m (b0 + 10) 4))) < gw_w ((m b0 4) - (m (b0 + 12) x1)) then (0 : Int) else (1 : Int))), gI (m (b0 + 14) x1), gI x1, gR (b0 + 14)] m := by
        refine gw_iadd 80 d_X10_speak_79 rfl  ?_
        refine gw_iastore 81 d_X10_speak_80 rfl (shWalk_14 hb0) (h.2 c1).2.2.2.2.1 ?_
        refine gw_iinc (ls' := [some (gR b0), some (gI (gw_w (x1 + 1))), some (gI (if m (b0 + 9) x1 = 0 then m (b0 + 10) 4 else gw_w (3 * (m (b0 + 10) 4))))]) 84 d_X10_speak_81 rfl rfl rfl rfl rfl ?_
        refine gw_goto 2 d_X10_speak_84 rfl ?_
        exact (h.2 c1).2.2.2.2.2
      refine gw_if_ge 78 59 d_X10_speak_56 rfl rfl (fun c5 => ?_) (fun c5 => ?_)
      · skip
        refine gw_iconst 79 d_X10_speak_78 rfl rfl ?_
        simpa only [if_pos c5] using j4
      · skip
        refine gw_aload_n 60 d_X10_speak_59 rfl rfl ?_
        refine gw_getI 63 d_X10_speak_60 rfl F_10_36 (shWalk_0 hb0) rfl (kz := 4) rfl ?_
        refine gw_aload_n 64 d_X10_speak_63 rfl rfl ?_
        refine gw_getR 67 d_X10_speak_64 rfl F_10_55 (shWalk_0 hb0) rfl ?_
        refine gw_iload_n 68 d_X10_speak_67 rfl rfl ?_
        refine gw_iaload 69 d_X10_speak_68 rfl (shWalk_12 hb0) ((h.2 c1).2.2.2.1 c5) ?_
        refine gw_isub 70 d_X10_speak_69 rfl  ?_
        refine gw_iload_n 71 d_X10_speak_70 rfl rfl ?_
        refine gw_icmp_gt 78 74 d_X10_speak_71 rfl rfl (fun c6 => ?_) (fun c6 => ?_)
        · skip
          refine gw_iconst 79 d_X10_speak_78 rfl rfl ?_
          simpa only [if_neg c5, if_pos c6] using j4
        · skip
          refine gw_iconst 75 d_X10_speak_74 rfl rfl ?_
          refine gw_goto 79 d_X10_speak_75 rfl ?_
          simpa only [if_neg c5, if_neg c6] using j4
    refine gw_if_eq 36 25 d_X10_speak_22 rfl rfl (fun c3 => ?_) (fun c3 => ?_)
    · skip
      refine gw_aload_n 37 d_X10_speak_36 rfl rfl ?_
      refine gw_getR 40 d_X10_speak_37 rfl F_10_25 (shWalk_0 hb0) rfl ?_
      refine gw_iconst 41 d_X10_speak_40 rfl rfl ?_
      refine gw_iaload 42 d_X10_speak_41 rfl (shWalk_10 hb0) (gw_inN (k := 4) rfl) ?_
      simpa only [if_pos c3] using j2
    · skip
      refine gw_iconst 26 d_X10_speak_25 rfl rfl ?_
      refine gw_aload_n 27 d_X10_speak_26 rfl rfl ?_
      refine gw_getR 30 d_X10_speak_27 rfl F_10_25 (shWalk_0 hb0) rfl ?_
      refine gw_iconst 31 d_X10_speak_30 rfl rfl ?_
      refine gw_iaload 32 d_X10_speak_31 rfl (shWalk_10 hb0) (gw_inN (k := 4) rfl) ?_
      refine gw_imul 33 d_X10_speak_32 rfl  ?_
      refine gw_goto 42 d_X10_speak_33 rfl ?_
      simpa only [if_neg c3] using j2
set_option maxRecDepth 100000 in
set_option maxHeartbeats 4000000 in
theorem r_X10_follow_0 {d : Nat} {QR : Option gw_SV → gw_Mem → Prop} {Γ : gw_Ga} (b0 : Nat) (hb0 : gw_isWalk b0) (x1 : Int) (x2 : Int) (m : gw_Mem) (hd : 8 ≤ d) (h : gw_in x1 10 ∧ ((m (b0 + 13) x1 ≤ 0 → gw_in x1 10 ∧ ((m (b0 + 7) x1 = 2 → ((x2.tmod 2 = 1 → QR none m) ∧ (¬ (x2.tmod 2 = 1) → gw_G M_X10_follow d QR Γ 43 [some (gR b0), some (gI x1), some (gI x2), some (gI (m (b0 + 7) x1)), none, none, none] [] m))) ∧ (¬ (m (b0 + 7) x1 = 2) → gw_G M_X10_follow d QR Γ 43 [some (gR b0), some (gI x1), some (gI x2), some (gI (m (b0 + 7) x1)), none, none, none] [] m))) ∧ (¬ (m (b0 + 13) x1 ≤ 0) → gw_in x1 10 ∧ gw_in x1 10 ∧ QR none (gw_up m (b0 + 13) x1 (gw_w ((m (b0 + 13) x1) - 1)))))) : gw_G M_X10_follow d QR Γ 0 [some (gR b0), some (gI x1), some (gI x2), none, none, none, none] [] m := by
  refine gw_aload_n 1 d_X10_follow_0 rfl rfl ?_
  refine gw_getR 4 d_X10_follow_1 rfl F_10_58 (shWalk_0 hb0) rfl ?_
  refine gw_iload_n 5 d_X10_follow_4 rfl rfl ?_
  refine gw_iaload 6 d_X10_follow_5 rfl (shWalk_13 hb0) h.1 ?_
  refine gw_if_le 20 9 d_X10_follow_6 rfl rfl (fun c10 => ?_) (fun c10 => ?_)
  · skip
    refine gw_aload_n 21 d_X10_follow_20 rfl rfl ?_
    refine gw_getR 24 d_X10_follow_21 rfl F_10_21 (shWalk_0 hb0) rfl ?_
    refine gw_getR 27 d_X10_follow_24 rfl F_10_163 (shWalk_6 hb0) rfl ?_
    refine gw_iload_n 28 d_X10_follow_27 rfl rfl ?_
    refine gw_iaload 29 d_X10_follow_28 rfl (shWalk_7 hb0) (h.2.1 c10).1 ?_
    refine gw_istore_n (ls' := [some (gR b0), some (gI x1), some (gI x2), some (gI (m (b0 + 7) x1)), none, none, none]) 30 d_X10_follow_29 rfl rfl rfl rfl ?_
    refine gw_iload_n 31 d_X10_follow_30 rfl rfl ?_
    refine gw_iconst 32 d_X10_follow_31 rfl rfl ?_
    refine gw_icmp_ne 43 35 d_X10_follow_32 rfl rfl (fun c11 => ?_) (fun c11 => ?_)
    · skip
      refine gw_iload_n 36 d_X10_follow_35 rfl rfl ?_
      refine gw_iconst 37 d_X10_follow_36 rfl rfl ?_
      refine gw_irem 38 d_X10_follow_37 rfl (by decide) ?_
      refine gw_iconst 39 d_X10_follow_38 rfl rfl ?_
      refine gw_icmp_ne 43 42 d_X10_follow_39 rfl rfl (fun c12 => ?_) (fun c12 => ?_)
      · skip
        exact gw_return d_X10_follow_42 rfl (((h.2.1 c10).2.1 c11).1 c12)
      · skip
        exact (((h.2.1 c10).2.1 c11).2 c12)
    · skip
      exact ((h.2.1 c10).2.2 c11)
  · skip
    refine gw_aload_n 10 d_X10_follow_9 rfl rfl ?_
    refine gw_getR 13 d_X10_follow_10 rfl F_10_58 (shWalk_0 hb0) rfl ?_
    refine gw_iload_n 14 d_X10_follow_13 rfl rfl ?_
    refine gw_dup2 15 d_X10_follow_14 rfl rfl rfl ?_
    refine gw_iaload 16 d_X10_follow_15 rfl (shWalk_13 hb0) (h.2.2 c10).1 ?_
    refine gw_iconst 17 d_X10_follow_16 rfl rfl ?_
    refine gw_isub 18 d_X10_follow_17 rfl  ?_
    refine gw_iastore 19 d_X10_follow_18 rfl (shWalk_13 hb0) (h.2.2 c10).2.1 ?_
    exact gw_return d_X10_follow_19 rfl (h.2.2 c10).2.2
set_option maxRecDepth 100000 in
set_option maxHeartbeats 4000000 in
theorem r_X10_follow_43 {d : Nat} {QR : Option gw_SV → gw_Mem → Prop} {Γ : gw_Ga} (b0 : Nat) (hb0 : gw_isWalk b0) (x1 : Int) (x2 : Int) (x3 : Int) (y4 : Option gw_SV) (y5 : Option gw_SV) (y6 : Option gw_SV) (m : gw_Mem) (hd : 8 ≤ d) (h : ((x3 = 3 → gw_CI d M_X10_lastBeside [gR b0, gI x1] m (fun v1 m2 => gw_G M_X10_follow d QR Γ 67 [some (gR b0), some (gI x1), some (gI x2), some (gI x3), y4, y5, y6] [gI (min (m b0 4) v1)] m2)) ∧ (¬ (x3 = 3) → gw_G M_X10_follow d QR Γ 67 [some (gR b0), some (gI x1), some (gI x2), some (gI x3), y4, y5, y6] [gI (m b0 4)] m))) : gw_G M_X10_follow d QR Γ 43 [some (gR b0), some (gI x1), some (gI x2), some (gI x3), y4, y5, y6] [] m := by
  refine gw_iload_n 44 d_X10_follow_43 rfl rfl ?_
  refine gw_iconst 45 d_X10_follow_44 rfl rfl ?_
  refine gw_icmp_ne 63 48 d_X10_follow_45 rfl rfl (fun c13 => ?_) (fun c13 => ?_)
  · skip
    refine gw_aload_n 49 d_X10_follow_48 rfl rfl ?_
    refine gw_getI 52 d_X10_follow_49 rfl F_10_36 (shWalk_0 hb0) rfl (kz := 4) rfl ?_
    refine gw_aload_n 53 d_X10_follow_52 rfl rfl ?_
    refine gw_iload_n 54 d_X10_follow_53 rfl rfl ?_
    refine gw_cVI (a := [gI x1]) (rest := [gI (m b0 4)]) 57 d_X10_follow_54 rfl ml_10_166 v_X10_lastBeside rfl (shWalk_0 hb0) rfl rfl rfl (h.1 c13) (fun v1 m2 h3 => ?_)
    refine gw_min 60 d_X10_follow_57 rfl mj_10_170 (gw_d1 hd) rfl rfl ?_
    refine gw_goto 67 d_X10_follow_60 rfl ?_
    exact h3
  · skip
    refine gw_aload_n 64 d_X10_follow_63 rfl rfl ?_
    refine gw_getI 67 d_X10_follow_64 rfl F_10_36 (shWalk_0 hb0) rfl (kz := 4) rfl ?_
    exact (h.2 c13)
set_option maxRecDepth 100000 in
set_option maxHeartbeats 4000000 in
theorem r_X10_follow_67 {d : Nat} {QR : Option gw_SV → gw_Mem → Prop} {Γ : gw_Ga} (b0 : Nat) (hb0 : gw_isWalk b0) (x1 : Int) (x2 : Int) (x3 : Int) (y4 : Option gw_SV) (y5 : Option gw_SV) (y6 : Option gw_SV) (z0 : Int) (m : gw_Mem) (hd : 8 ≤ d) (h : gw_G M_X10_follow d QR Γ 72 [some (gR b0), some (gI x1), some (gI x2), some (gI x3), some (gI z0), some (gI 0), y6] [] m) : gw_G M_X10_follow d QR Γ 67 [some (gR b0), some (gI x1), some (gI x2), some (gI x3), y4, y5, y6] [gI z0] m := by
  refine gw_istore (ls' := [some (gR b0), some (gI x1), some (gI x2), some (gI x3), some (gI z0), y5, y6]) 69 d_X10_follow_67 rfl rfl rfl rfl ?_
  refine gw_iconst 70 d_X10_follow_69 rfl rfl ?_
  refine gw_istore (ls' := [some (gR b0), some (gI x1), some (gI x2), some (gI x3), some (gI z0), some (gI 0), y6]) 72 d_X10_follow_70 rfl rfl rfl rfl ?_
  exact h
set_option maxRecDepth 100000 in
set_option maxHeartbeats 4000000 in
theorem r_X10_follow_72 {d : Nat} {QR : Option gw_SV → gw_Mem → Prop} {Γ : gw_Ga} (b0 : Nat) (hb0 : gw_isWalk b0) (x1 : Int) (x2 : Int) (x3 : Int) (x4 : Int) (x5 : Int) (y6 : Option gw_SV) (m : gw_Mem) (hd : 8 ≤ d) (h : gw_in x1 10 ∧ ((m (b0 + 8) x1 ≤ x5 → QR none m) ∧ (¬ (m (b0 + 8) x1 ≤ x5) → gw_in x1 10 ∧ ((x4 ≤ m (b0 + 12) x1 → QR none m) ∧ (¬ (x4 ≤ m (b0 + 12) x1) → gw_CI d M_X4_isRed [gR (b0 + 1), gI (m (b0 + 12) x1), gI x2] m (fun v4 m5 => ((v4 = 0 → gw_CI d M_X10_losesItsWay [gR b0, gI x1] m5 (fun v7 m8 => ((v7 = 0 → gw_in x1 10 ∧ ((x3 = 1 → gw_in (gw_w ((m (b0 + 12) x1) + 1)) 100 ∧ (((gw_up m8 (b0 + 12) x1 (gw_w ((m (b0 + 12) x1) + 1))) (b0 + 4) (gw_w ((m (b0 + 12) x1) + 1)) ≤ 0 → gw_G M_X10_follow d QR Γ 191 [some (gR b0), some (gI x1), some (gI x2), some (gI x3), some (gI x4), some (gI x5), some (gI (m (b0 + 12) x1))] [] (gw_up m8 (b0 + 12) x1 (gw_w ((m (b0 + 12) x1) + 1)))) ∧ (¬ ((gw_up m8 (b0 + 12) x1 (gw_w ((m (b0 + 12) x1) + 1))) (b0 + 4) (gw_w ((m (b0 + 12) x1) + 1)) ≤ 0) → gw_in (gw_w ((m (b0 + 12) x1) + 1)) 100 ∧ gw_in x1 10 ∧ QR none (gw_up (gw_up m8 (b0 + 12) x1 (gw_w ((m (b0 + 12) x1) + 1))) (b0 + 13) x1 ((gw_up m8 (b0 + 12) x1 (gw_w ((m (b0 + 12) x1) + 1))) (b0 + 4) (gw_w ((m (b0 + 12) x1) + 1))))))) ∧ (¬ (x3 = 1) → gw_G M_X10_follow d QR Γ 191 [some (gR b0), some (gI x1), some (gI x2), some (gI x3), some (gI x4), some (gI x5), some (gI (m (b0 + 12) x1))] [] (gw_up m8 (b0 + 12) x1 (gw_w ((m (b0 + 12) x1) + 1)))))) ∧ (¬ (v7 = 0) → gw_in x1 10 ∧ QR none (gw_up (gw_up m8 (b0 + 17) x1 (m (b0 + 12) x1)) b0 8 (gw_w (((gw_up m8 (b0 + 17) x1 (m (b0 + 12) x1)) b0 8) + 1))))))) ∧ (¬ (v4 = 0) → QR none m5)))))))) : gw_G M_X10_follow d QR Γ 72 [some (gR b0), some (gI x1), some (gI x2), some (gI x3), some (gI x4), some (gI x5), y6] [] m := by
  refine gw_iload 74 d_X10_follow_72 rfl rfl ?_
  refine gw_aload_n 75 d_X10_follow_74 rfl rfl ?_
  refine gw_getR 78 d_X10_follow_75 rfl F_10_21 (shWalk_0 hb0) rfl ?_
  refine gw_getR 81 d_X10_follow_78 rfl F_10_176 (shWalk_6 hb0) rfl ?_
  refine gw_iload_n 82 d_X10_follow_81 rfl rfl ?_
  refine gw_iaload 83 d_X10_follow_82 rfl (shWalk_8 hb0) h.1 ?_
  refine gw_icmp_ge 197 86 d_X10_follow_83 rfl rfl (fun c14 => ?_) (fun c14 => ?_)
  · skip
    exact gw_return d_X10_follow_197 rfl (h.2.1 c14)
  · skip
    refine gw_aload_n 87 d_X10_follow_86 rfl rfl ?_
    refine gw_getR 90 d_X10_follow_87 rfl F_10_55 (shWalk_0 hb0) rfl ?_
    refine gw_iload_n 91 d_X10_follow_90 rfl rfl ?_
    refine gw_iaload 92 d_X10_follow_91 rfl (shWalk_12 hb0) (h.2.2 c14).1 ?_
    refine gw_istore (ls' := [some (gR b0), some (gI x1), some (gI x2), some (gI x3), some (gI x4), some (gI x5), some (gI (m (b0 + 12) x1))]) 94 d_X10_follow_92 rfl rfl rfl rfl ?_
    refine gw_iload 96 d_X10_follow_94 rfl rfl ?_
    refine gw_iload 98 d_X10_follow_96 rfl rfl ?_
    refine gw_icmp_ge 114 101 d_X10_follow_98 rfl rfl (fun c15 => ?_) (fun c15 => ?_)
    · skip
      exact gw_return d_X10_follow_114 rfl ((h.2.2 c14).2.1 c15)
    · skip
      refine gw_aload_n 102 d_X10_follow_101 rfl rfl ?_
      refine gw_getR 105 d_X10_follow_102 rfl F_10_12 (shWalk_0 hb0) rfl ?_
      refine gw_iload 107 d_X10_follow_105 rfl rfl ?_
      refine gw_iload_n 108 d_X10_follow_107 rfl rfl ?_
      refine gw_cVI (a := [gI (m (b0 + 12) x1), gI x2]) (rest := []) 111 d_X10_follow_108 rfl ml_10_127 v_X4_isRed rfl (shWalk_1 hb0) rfl rfl rfl ((h.2.2 c14).2.2 c15) (fun v4 m5 h6 => ?_)
      refine gw_if_eq 115 114 d_X10_follow_111 rfl rfl (fun c16 => ?_) (fun c16 => ?_)
      · skip
        refine gw_aload_n 116 d_X10_follow_115 rfl rfl ?_
        refine gw_iload_n 117 d_X10_follow_116 rfl rfl ?_
        refine gw_cVI (a := [gI x1]) (rest := []) 120 d_X10_follow_117 rfl ml_10_179 v_X10_losesItsWay rfl (shWalk_0 hb0) rfl rfl rfl (h6.1 c16) (fun v7 m8 h9 => ?_)
        refine gw_if_eq 142 123 d_X10_follow_120 rfl rfl (fun c17 => ?_) (fun c17 => ?_)
        · skip
          refine gw_aload_n 143 d_X10_follow_142 rfl rfl ?_
          refine gw_getR 146 d_X10_follow_143 rfl F_10_55 (shWalk_0 hb0) rfl ?_
          refine gw_iload_n 147 d_X10_follow_146 rfl rfl ?_
          refine gw_iload 149 d_X10_follow_147 rfl rfl ?_
          refine gw_iconst 150 d_X10_follow_149 rfl rfl ?_
          refine gw_iadd 151 d_X10_follow_150 rfl  ?_
          refine gw_iastore 152 d_X10_follow_151 rfl (shWalk_12 hb0) (h9.1 c17).1 ?_
          refine gw_iload_n 153 d_X10_follow_152 rfl rfl ?_
          refine gw_iconst 154 d_X10_follow_153 rfl rfl ?_
          refine gw_icmp_ne 191 157 d_X10_follow_154 rfl rfl (fun c18 => ?_) (fun c18 => ?_)
          · skip
            refine gw_aload_n 158 d_X10_follow_157 rfl rfl ?_
            refine gw_getR 161 d_X10_follow_158 rfl F_10_12 (shWalk_0 hb0) rfl ?_
            refine gw_getR 164 d_X10_follow_161 rfl F_10_183 (shWalk_1 hb0) rfl ?_
            refine gw_iload 166 d_X10_follow_164 rfl rfl ?_
            refine gw_iconst 167 d_X10_follow_166 rfl rfl ?_
            refine gw_iadd 168 d_X10_follow_167 rfl  ?_
            refine gw_iaload 169 d_X10_follow_168 rfl (shWalk_4 hb0) ((h9.1 c17).2.1 c18).1 ?_
            refine gw_if_le 191 172 d_X10_follow_169 rfl rfl (fun c19 => ?_) (fun c19 => ?_)
            · skip
              exact (((h9.1 c17).2.1 c18).2.1 c19)
            · skip
              refine gw_aload_n 173 d_X10_follow_172 rfl rfl ?_
              refine gw_getR 176 d_X10_follow_173 rfl F_10_58 (shWalk_0 hb0) rfl ?_
              refine gw_iload_n 177 d_X10_follow_176 rfl rfl ?_
              refine gw_aload_n 178 d_X10_follow_177 rfl rfl ?_
              refine gw_getR 181 d_X10_follow_178 rfl F_10_12 (shWalk_0 hb0) rfl ?_
              refine gw_getR 184 d_X10_follow_181 rfl F_10_183 (shWalk_1 hb0) rfl ?_
              refine gw_iload 186 d_X10_follow_184 rfl rfl ?_
              refine gw_iconst 187 d_X10_follow_186 rfl rfl ?_
              refine gw_iadd 188 d_X10_follow_187 rfl  ?_
              refine gw_iaload 189 d_X10_follow_188 rfl (shWalk_4 hb0) (((h9.1 c17).2.1 c18).2.2 c19).1 ?_
              refine gw_iastore 190 d_X10_follow_189 rfl (shWalk_13 hb0) (((h9.1 c17).2.1 c18).2.2 c19).2.1 ?_
              exact gw_return d_X10_follow_190 rfl (((h9.1 c17).2.1 c18).2.2 c19).2.2
          · skip
            exact ((h9.1 c17).2.2 c18)
        · skip
          refine gw_aload_n 124 d_X10_follow_123 rfl rfl ?_
          refine gw_getR 127 d_X10_follow_124 rfl F_10_70 (shWalk_0 hb0) rfl ?_
          refine gw_iload_n 128 d_X10_follow_127 rfl rfl ?_
          refine gw_iload 130 d_X10_follow_128 rfl rfl ?_
          refine gw_iastore 131 d_X10_follow_130 rfl (shWalk_17 hb0) (h9.2 c17).1 ?_
          refine gw_aload_n 132 d_X10_follow_131 rfl rfl ?_
          refine gw_dup 133 d_X10_follow_132 rfl rfl ?_
          refine gw_getI 136 d_X10_follow_133 rfl F_10_49 (shWalk_0 hb0) rfl (kz := 8) rfl ?_
          refine gw_iconst 137 d_X10_follow_136 rfl rfl ?_
          refine gw_iadd 138 d_X10_follow_137 rfl  ?_
          refine gw_putI 141 d_X10_follow_138 rfl P_10_49 (Or.inl rfl) (shWalk_0 hb0) rfl (kz := 8) rfl ?_
          exact gw_return d_X10_follow_141 rfl (h9.2 c17).2
      · skip
        exact gw_return d_X10_follow_114 rfl (h6.2 c16)
set_option maxRecDepth 100000 in
set_option maxHeartbeats 4000000 in
theorem r_X10_follow_191 {d : Nat} {QR : Option gw_SV → gw_Mem → Prop} {Γ : gw_Ga} (b0 : Nat) (hb0 : gw_isWalk b0) (x1 : Int) (x2 : Int) (x3 : Int) (x4 : Int) (x5 : Int) (x6 : Int) (m : gw_Mem) (hd : 8 ≤ d) (h : gw_G M_X10_follow d QR Γ 72 [some (gR b0), some (gI x1), some (gI x2), some (gI x3), some (gI x4), some (gI (gw_w (x5 + 1))), some (gI x6)] [] m) : gw_G M_X10_follow d QR Γ 191 [some (gR b0), some (gI x1), some (gI x2), some (gI x3), some (gI x4), some (gI x5), some (gI x6)] [] m := by
  refine gw_iinc (ls' := [some (gR b0), some (gI x1), some (gI x2), some (gI x3), some (gI x4), some (gI (gw_w (x5 + 1))), some (gI x6)]) 194 d_X10_follow_191 rfl rfl rfl rfl rfl ?_
  refine gw_goto 72 d_X10_follow_194 rfl ?_
  exact h
set_option maxRecDepth 100000 in
set_option maxHeartbeats 4000000 in
theorem r_X10_lastBeside_0 {d : Nat} {QR : Option gw_SV → gw_Mem → Prop} {Γ : gw_Ga} (b0 : Nat) (hb0 : gw_isWalk b0) (x1 : Int) (m : gw_Mem) (hd : 8 ≤ d) (h : gw_G M_X10_lastBeside d QR Γ 5 [some (gR b0), some (gI x1), some (gI 100), some (gI 0)] [] m) : gw_G M_X10_lastBeside d QR Γ 0 [some (gR b0), some (gI x1), none, none] [] m := by
  refine gw_bipush 2 d_X10_lastBeside_0 rfl rfl (by decide) ?_
  refine gw_istore_n (ls' := [some (gR b0), some (gI x1), some (gI 100), none]) 3 d_X10_lastBeside_2 rfl rfl rfl rfl ?_
  refine gw_iconst 4 d_X10_lastBeside_3 rfl rfl ?_
  refine gw_istore_n (ls' := [some (gR b0), some (gI x1), some (gI 100), some (gI 0)]) 5 d_X10_lastBeside_4 rfl rfl rfl rfl ?_
  exact h
set_option maxRecDepth 100000 in
set_option maxHeartbeats 4000000 in
theorem r_X10_lastBeside_5 {d : Nat} {QR : Option gw_SV → gw_Mem → Prop} {Γ : gw_Ga} (b0 : Nat) (hb0 : gw_isWalk b0) (x1 : Int) (x2 : Int) (x3 : Int) (m : gw_Mem) (hd : 8 ≤ d) (h : ((m (b0 + 6) 0 ≤ x3 → QR (some (gI x2)) m) ∧ (¬ (m (b0 + 6) 0 ≤ x3) → (¬ (x3 = x1) → gw_in x3 10 ∧ (¬ (0 ≤ m (b0 + 17) x3) → gw_in x3 10)) ∧ gw_G M_X10_lastBeside d QR Γ 5 [some (gR b0), some (gI x1), some (gI (if x3 = x1 then x2 else (if 0 ≤ m (b0 + 17) x3 then x2 else min x2 (m (b0 + 12) x3)))), some (gI (gw_w (x3 + 1)))] [] m))) : gw_G M_X10_lastBeside d QR Γ 5 [some (gR b0), some (gI x1), some (gI x2), some (gI x3)] [] m := by
  refine gw_iload_n 6 d_X10_lastBeside_5 rfl rfl ?_
  refine gw_aload_n 7 d_X10_lastBeside_6 rfl rfl ?_
  refine gw_getR 10 d_X10_lastBeside_7 rfl F_10_21 (shWalk_0 hb0) rfl ?_
  refine gw_getI 13 d_X10_lastBeside_10 rfl F_10_105 (shWalk_6 hb0) rfl (kz := 0) rfl ?_
  refine gw_icmp_ge 47 16 d_X10_lastBeside_13 rfl rfl (fun c1 => ?_) (fun c1 => ?_)
  · skip
    refine gw_iload_n 48 d_X10_lastBeside_47 rfl rfl ?_
    exact gw_ireturn d_X10_lastBeside_48 (Or.inl rfl) (h.1 c1)
  · skip
    refine gw_iload_n 17 d_X10_lastBeside_16 rfl rfl ?_
    refine gw_iload_n 18 d_X10_lastBeside_17 rfl rfl ?_
    have j2 : gw_G M_X10_lastBeside d QR Γ 41 [some (gR b0), some (gI x1), some (gI (if x3 = x1 then x2 else (if 0 ≤ m (b0 + 17) x3 then x2 else min x2 (m (b0 + 12) x3)))), some (gI x3)] [] m := by
      refine gw_iinc (ls' := [some (gR b0), some (gI x1), some (gI (if x3 = x1 then x2 else (if 0 ≤ m (b0 + 17) x3 then x2 else min x2 (m (b0 + 12) x3)))), some (gI (gw_w (x3 + 1)))]) 44 d_X10_lastBeside_41 rfl rfl rfl rfl rfl ?_
      refine gw_goto 5 d_X10_lastBeside_44 rfl ?_
      exact (h.2 c1).2
    refine gw_icmp_eq 41 21 d_X10_lastBeside_18 rfl rfl (fun c3 => ?_) (fun c3 => ?_)
    · skip
      simpa only [if_pos c3] using j2
    · skip
      refine gw_aload_n 22 d_X10_lastBeside_21 rfl rfl ?_
      refine gw_getR 25 d_X10_lastBeside_22 rfl F_10_70 (shWalk_0 hb0) rfl ?_
      refine gw_iload_n 26 d_X10_lastBeside_25 rfl rfl ?_
      refine gw_iaload 27 d_X10_lastBeside_26 rfl (shWalk_17 hb0) ((h.2 c1).1 c3).1 ?_
      refine gw_if_ge 41 30 d_X10_lastBeside_27 rfl rfl (fun c4 => ?_) (fun c4 => ?_)
      · skip
        simpa only [if_neg c3, if_pos c4] using j2
      · skip
        refine gw_iload_n 31 d_X10_lastBeside_30 rfl rfl ?_
        refine gw_aload_n 32 d_X10_lastBeside_31 rfl rfl ?_
        refine gw_getR 35 d_X10_lastBeside_32 rfl F_10_55 (shWalk_0 hb0) rfl ?_
        refine gw_iload_n 36 d_X10_lastBeside_35 rfl rfl ?_
        refine gw_iaload 37 d_X10_lastBeside_36 rfl (shWalk_12 hb0) (((h.2 c1).1 c3).2 c4) ?_
        refine gw_min 40 d_X10_lastBeside_37 rfl mj_10_170 (gw_d1 hd) rfl rfl ?_
        refine gw_istore_n (ls' := [some (gR b0), some (gI x1), some (gI (min x2 (m (b0 + 12) x3))), some (gI x3)]) 41 d_X10_lastBeside_40 rfl rfl rfl rfl ?_
        simpa only [if_neg c3, if_neg c4] using j2
set_option maxRecDepth 100000 in
set_option maxHeartbeats 4000000 in
theorem r_X10_losesItsWay_0 {d : Nat} {QR : Option gw_SV → gw_Mem → Prop} {Γ : gw_Ga} (b0 : Nat) (hb0 : gw_isWalk b0) (x1 : Int) (m : gw_Mem) (h : gw_in x1 10 ∧ gw_in (m (b0 + 12) x1) 100 ∧ (¬ (m (b0 + 5) (m (b0 + 12) x1) ≤ 0) → (¬ (x1 = m b0 7) → (¬ (gw_w ((m b0 4) - (m (b0 + 12) x1)) ≤ m (b0 + 5) (m (b0 + 12) x1)) → (¬ (m b0 7 < 0) → gw_in (m b0 7) 10)))) ∧ QR (some (gI (if m (b0 + 5) (m (b0 + 12) x1) ≤ 0 then (0 : Int) else (if x1 = m b0 7 then (0 : Int) else (if gw_w ((m b0 4) - (m (b0 + 12) x1)) ≤ m (b0 + 5) (m (b0 + 12) x1) then (0 : Int) else (if m b0 7 < 0 then (1 : Int) else (if m (b0 + 12) (m b0 7) ≤ m (b0 + 12) x1 then (0 : Int) else (1 : Int)))))))) m) : gw_G M_X10_losesItsWay d QR Γ 0 [some (gR b0), some (gI x1), none, none] [] m := by
  refine gw_aload_n 1 d_X10_losesItsWay_0 rfl rfl ?_
  refine gw_getR 4 d_X10_losesItsWay_1 rfl F_10_55 (shWalk_0 hb0) rfl ?_
  refine gw_iload_n 5 d_X10_losesItsWay_4 rfl rfl ?_
  refine gw_iaload 6 d_X10_losesItsWay_5 rfl (shWalk_12 hb0) h.1 ?_
  refine gw_istore_n (ls' := [some (gR b0), some (gI x1), some (gI (m (b0 + 12) x1)), none]) 7 d_X10_losesItsWay_6 rfl rfl rfl rfl ?_
  refine gw_aload_n 8 d_X10_losesItsWay_7 rfl rfl ?_
  refine gw_getR 11 d_X10_losesItsWay_8 rfl F_10_12 (shWalk_0 hb0) rfl ?_
  refine gw_getR 14 d_X10_losesItsWay_11 rfl F_10_186 (shWalk_1 hb0) rfl ?_
  refine gw_iload_n 15 d_X10_losesItsWay_14 rfl rfl ?_
  refine gw_iaload 16 d_X10_losesItsWay_15 rfl (shWalk_5 hb0) h.2.1 ?_
  refine gw_istore_n (ls' := [some (gR b0), some (gI x1), some (gI (m (b0 + 12) x1)), some (gI (m (b0 + 5) (m (b0 + 12) x1)))]) 17 d_X10_losesItsWay_16 rfl rfl rfl rfl ?_
  refine gw_iload_n 18 d_X10_losesItsWay_17 rfl rfl ?_
  have j1 : gw_G M_X10_losesItsWay d QR Γ 64 [some (gR b0), some (gI x1), some (gI (m (b0 + 12) x1)), some (gI (m (b0 + 5) (m (b0 + 12) x1)))] [gI (if m (b0 + 5) (m (b0 + 12) x1) ≤ 0 then (0 : Int) else (if x1 = m b0 7 then (0 : Int) else (if gw_w ((m b0 4) - (m (b0 + 12) x1)) ≤ m (b0 + 5) (m (b0 + 12) x1) then (0 : Int) else (if m b0 7 < 0 then (1 : Int) else (if m (b0 + 12) (m b0 7) ≤ m (b0 + 12) x1 then (0 : Int) else (1 : Int))))))] m := by
    exact gw_ireturn d_X10_losesItsWay_64 (Or.inr ⟨rfl, (gw_bi gw_b0 (gw_bi gw_b0 (gw_bi gw_b0 (gw_bi gw_b1 (gw_bi gw_b0 gw_b1)))))⟩) h.2.2.2
  refine gw_if_le 63 21 d_X10_losesItsWay_18 rfl rfl (fun c2 => ?_) (fun c2 => ?_)
  · skip
    refine gw_iconst 64 d_X10_losesItsWay_63 rfl rfl ?_
    simpa only [if_pos c2] using j1
  · skip
    refine gw_iload_n 22 d_X10_losesItsWay_21 rfl rfl ?_
    refine gw_aload_n 23 d_X10_losesItsWay_22 rfl rfl ?_
    refine gw_getI 26 d_X10_losesItsWay_23 rfl F_10_46 (shWalk_0 hb0) rfl (kz := 7) rfl ?_
    refine gw_icmp_eq 63 29 d_X10_losesItsWay_26 rfl rfl (fun c3 => ?_) (fun c3 => ?_)
    · skip
      refine gw_iconst 64 d_X10_losesItsWay_63 rfl rfl ?_
      simpa only [if_neg c2, if_pos c3] using j1
    · skip
      refine gw_aload_n 30 d_X10_losesItsWay_29 rfl rfl ?_
      refine gw_getI 33 d_X10_losesItsWay_30 rfl F_10_36 (shWalk_0 hb0) rfl (kz := 4) rfl ?_
      refine gw_iload_n 34 d_X10_losesItsWay_33 rfl rfl ?_
      refine gw_isub 35 d_X10_losesItsWay_34 rfl  ?_
      refine gw_iload_n 36 d_X10_losesItsWay_35 rfl rfl ?_
      refine gw_icmp_le 63 39 d_X10_losesItsWay_36 rfl rfl (fun c4 => ?_) (fun c4 => ?_)
      · skip
        refine gw_iconst 64 d_X10_losesItsWay_63 rfl rfl ?_
        simpa only [if_neg c2, if_neg c3, if_pos c4] using j1
      · skip
        refine gw_aload_n 40 d_X10_losesItsWay_39 rfl rfl ?_
        refine gw_getI 43 d_X10_losesItsWay_40 rfl F_10_46 (shWalk_0 hb0) rfl (kz := 7) rfl ?_
        refine gw_if_lt 59 46 d_X10_losesItsWay_43 rfl rfl (fun c5 => ?_) (fun c5 => ?_)
        · skip
          refine gw_iconst 60 d_X10_losesItsWay_59 rfl rfl ?_
          refine gw_goto 64 d_X10_losesItsWay_60 rfl ?_
          simpa only [if_neg c2, if_neg c3, if_neg c4, if_pos c5] using j1
        · skip
          refine gw_aload_n 47 d_X10_losesItsWay_46 rfl rfl ?_
          refine gw_getR 50 d_X10_losesItsWay_47 rfl F_10_55 (shWalk_0 hb0) rfl ?_
          refine gw_aload_n 51 d_X10_losesItsWay_50 rfl rfl ?_
          refine gw_getI 54 d_X10_losesItsWay_51 rfl F_10_46 (shWalk_0 hb0) rfl (kz := 7) rfl ?_
          refine gw_iaload 55 d_X10_losesItsWay_54 rfl (shWalk_12 hb0) ((((h.2.2.1 c2) c3) c4) c5) ?_
          refine gw_iload_n 56 d_X10_losesItsWay_55 rfl rfl ?_
          refine gw_icmp_le 63 59 d_X10_losesItsWay_56 rfl rfl (fun c6 => ?_) (fun c6 => ?_)
          · skip
            refine gw_iconst 64 d_X10_losesItsWay_63 rfl rfl ?_
            simpa only [if_neg c2, if_neg c3, if_neg c4, if_neg c5, if_pos c6] using j1
          · skip
            refine gw_iconst 60 d_X10_losesItsWay_59 rfl rfl ?_
            refine gw_goto 64 d_X10_losesItsWay_60 rfl ?_
            simpa only [if_neg c2, if_neg c3, if_neg c4, if_neg c5, if_neg c6] using j1
set_option maxRecDepth 100000 in
set_option maxHeartbeats 4000000 in
theorem r_X10_closeMinute_0 {d : Nat} {QR : Option gw_SV → gw_Mem → Prop} {Γ : gw_Ga} (b0 : Nat) (hb0 : gw_isWalk b0) (x1 : Int) (m : gw_Mem) (hd : 8 ≤ d) (h : gw_G M_X10_closeMinute d QR Γ 27 [some (gR b0), some (gI x1), some (gI (if m (b0 + 1) 0 ≤ m b0 4 then (0 : Int) else (1 : Int))), some (gI 0), none] [] (gw_up m b0 9 (-1))) : gw_G M_X10_closeMinute d QR Γ 0 [some (gR b0), some (gI x1), none, none, none] [] m := by
  refine gw_aload_n 1 d_X10_closeMinute_0 rfl rfl ?_
  refine gw_getI 4 d_X10_closeMinute_1 rfl F_10_36 (shWalk_0 hb0) rfl (kz := 4) rfl ?_
  refine gw_aload_n 5 d_X10_closeMinute_4 rfl rfl ?_
  refine gw_getR 8 d_X10_closeMinute_5 rfl F_10_12 (shWalk_0 hb0) rfl ?_
  refine gw_getI 11 d_X10_closeMinute_8 rfl F_10_108 (shWalk_1 hb0) rfl (kz := 0) rfl ?_
  have j7 : gw_G M_X10_closeMinute d QR Γ 19 [some (gR b0), some (gI x1), none, none, none] [gI (if m (b0 + 1) 0 ≤ m b0 4 then (0 : Int) else (1 : Int))] m := by
    refine gw_istore_n (ls' := [some (gR b0), some (gI x1), some (gI (if m (b0 + 1) 0 ≤ m b0 4 then (0 : Int) else (1 : Int))), none, none]) 20 d_X10_closeMinute_19 rfl rfl rfl rfl ?_
    refine gw_aload_n 21 d_X10_closeMinute_20 rfl rfl ?_
    refine gw_iconst 22 d_X10_closeMinute_21 rfl rfl ?_
    refine gw_putI 25 d_X10_closeMinute_22 rfl P_10_52 (Or.inl rfl) (shWalk_0 hb0) rfl (kz := 9) rfl ?_
    refine gw_iconst 26 d_X10_closeMinute_25 rfl rfl ?_
    refine gw_istore_n (ls' := [some (gR b0), some (gI x1), some (gI (if m (b0 + 1) 0 ≤ m b0 4 then (0 : Int) else (1 : Int))), some (gI 0), none]) 27 d_X10_closeMinute_26 rfl rfl rfl rfl ?_
    exact h
  refine gw_icmp_ge 18 14 d_X10_closeMinute_11 rfl rfl (fun c8 => ?_) (fun c8 => ?_)
  · skip
    refine gw_iconst 19 d_X10_closeMinute_18 rfl rfl ?_
    simpa only [if_pos c8] using j7
  · skip
    refine gw_iconst 15 d_X10_closeMinute_14 rfl rfl ?_
    refine gw_goto 19 d_X10_closeMinute_15 rfl ?_
    simpa only [if_neg c8] using j7
set_option maxRecDepth 100000 in
set_option maxHeartbeats 4000000 in
theorem r_X10_closeMinute_27 {d : Nat} {QR : Option gw_SV → gw_Mem → Prop} {Γ : gw_Ga} (b0 : Nat) (hb0 : gw_isWalk b0) (x1 : Int) (x2 : Int) (x3 : Int) (y4 : Option gw_SV) (m : gw_Mem) (hd : 8 ≤ d) (h : ((m (b0 + 6) 0 ≤ x3 → ((x2 = 0 → ((0 ≤ m b0 5 → gw_G M_X10_closeMinute d QR Γ 166 [some (gR b0), some (gI x1), some (gI x2), some (gI x3), y4] [] m) ∧ (¬ (0 ≤ m b0 5) → gw_G M_X10_closeMinute d QR Γ 166 [some (gR b0), some (gI x1), some (gI x2), some (gI x3), y4] [] (gw_up m b0 5 x1)))) ∧ (¬ (x2 = 0) → gw_G M_X10_closeMinute d QR Γ 166 [some (gR b0), some (gI x1), some (gI x2), some (gI x3), y4] [] m))) ∧ (¬ (m (b0 + 6) 0 ≤ x3) → gw_in x3 10 ∧ ((0 ≤ m (b0 + 17) x3 → gw_G M_X10_closeMinute d QR Γ 144 [some (gR b0), some (gI x1), some (gI x2), some (gI x3), y4] [] m) ∧ (¬ (0 ≤ m (b0 + 17) x3) → gw_in x3 10 ∧ gw_in x3 10 ∧ gw_in x3 10 ∧ gw_in x3 10 ∧ (0 ≤ (gw_up (gw_up m b0 9 (if 0 ≤ m b0 9 then min (m b0 9) (m (b0 + 12) x3) else m (b0 + 12) x3)) (b0 + 15) x3 (gw_w (((gw_up m b0 9 (if 0 ≤ m b0 9 then min (m b0 9) (m (b0 + 12) x3) else m (b0 + 12) x3)) (b0 + 15) x3) + (if x2 = 0 then (0 : Int) else (if m (b0 + 12) x3 = (gw_up m b0 9 (if 0 ≤ m b0 9 then min (m b0 9) (m (b0 + 12) x3) else m (b0 + 12) x3)) b0 4 then (1 : Int) else (0 : Int)))))) (b0 + 16) x3 → gw_in x3 10) ∧ (¬ (0 ≤ (gw_up (gw_up m b0 9 (if 0 ≤ m b0 9 then min (m b0 9) (m (b0 + 12) x3) else m (b0 + 12) x3)) (b0 + 15) x3 (gw_w (((gw_up m b0 9 (if 0 ≤ m b0 9 then min (m b0 9) (m (b0 + 12) x3) else m (b0 + 12) x3)) (b0 + 15) x3) + (if x2 = 0 then (0 : Int) else (if m (b0 + 12) x3 = (gw_up m b0 9 (if 0 ≤ m b0 9 then min (m b0 9) (m (b0 + 12) x3) else m (b0 + 12) x3)) b0 4 then (1 : Int) else (0 : Int)))))) (b0 + 16) x3) → (¬ (m (b0 + 12) x3 = (gw_up (gw_up m b0 9 (if 0 ≤ m b0 9 then min (m b0 9) (m (b0 + 12) x3) else m (b0 + 12) x3)) (b0 + 15) x3 (gw_w (((gw_up m b0 9 (if 0 ≤ m b0 9 then min (m b0 9) (m (b0 + 12) x3) else m (b0 + 12) x3)) (b0 + 15) x3) + (if x2 = 0 then (0 : Int) else (if m (b0 + 12) x3 = (gw_up m b0 9 (if 0 ≤ m b0 9 then min (m b0 9) (m (b0 + 12) x3) else m (b0 + 12) x3)) b0 4 then (1 : Int) else (0 : Int)))))) (b0 + 1) 0) → gw_in x3 10)) ∧ gw_in x3 10 ∧ gw_G M_X10_closeMinute d QR Γ 144 [some (gR b0), some (gI x1), some (gI x2), some (gI x3), some (gI (m (b0 + 12) x3))] [] (gw_up (gw_up (gw_up m b0 9 (if 0 ≤ m b0 9 then min (m b0 9) (m (b0 + 12) x3) else m (b0 + 12) x3)) (b0 + 15) x3 (gw_w (((gw_up m b0 9 (if 0 ≤ m b0 9 then min (m b0 9) (m (b0 + 12) x3) else m (b0 + 12) x3)) (b0 + 15) x3) + (if x2 = 0 then (0 : Int) else (if m (b0 + 12) x3 = (gw_up m b0 9 (if 0 ≤ m b0 9 then min (m b0 9) (m (b0 + 12) x3) else m (b0 + 12) x3)) b0 4 then (1 : Int) else (0 : Int)))))) (b0 + 16) x3 (if 0 ≤ (gw_up (gw_up m b0 9 (if 0 ≤ m b0 9 then min (m b0 9) (m (b0 + 12) x3) else m (b0 + 12) x3)) (b0 + 15) x3 (gw_w (((gw_up m b0 9 (if 0 ≤ m b0 9 then min (m b0 9) (m (b0 + 12) x3) else m (b0 + 12) x3)) (b0 + 15) x3) + (if x2 = 0 then (0 : Int) else (if m (b0 + 12) x3 = (gw_up m b0 9 (if 0 ≤ m b0 9 then min (m b0 9) (m (b0 + 12) x3) else m (b0 + 12) x3)) b0 4 then (1 : Int) else (0 : Int)))))) (b0 + 16) x3 then (gw_up (gw_up m b0 9 (if 0 ≤ m b0 9 then min (m b0 9) (m (b0 + 12) x3) else m (b0 + 12) x3)) (b0 + 15) x3 (gw_w (((gw_up m b0 9 (if 0 ≤ m b0 9 then min (m b0 9) (m (b0 + 12) x3) else m (b0 + 12) x3)) (b0 + 15) x3) + (if x2 = 0 then (0 : Int) else (if m (b0 + 12) x3 = (gw_up m b0 9 (if 0 ≤ m b0 9 then min (m b0 9) (m (b0 + 12) x3) else m (b0 + 12) x3)) b0 4 then (1 : Int) else (0 : Int)))))) (b0 + 16) x3 else (if m (b0 + 12) x3 = (gw_up (gw_up m b0 9 (if 0 ≤ m b0 9 then min (m b0 9) (m (b0 + 12) x3) else m (b0 + 12) x3)) (b0 + 15) x3 (gw_w (((gw_up m b0 9 (if 0 ≤ m b0 9 then min (m b0 9) (m (b0 + 12) x3) else m (b0 + 12) x3)) (b0 + 15) x3) + (if x2 = 0 then (0 : Int) else (if m (b0 + 12) x3 = (gw_up m b0 9 (if 0 ≤ m b0 9 then min (m b0 9) (m (b0 + 12) x3) else m (b0 + 12) x3)) b0 4 then (1 : Int) else (0 : Int)))))) (b0 + 1) 0 then x1 else (gw_up (gw_up m b0 9 (if 0 ≤ m b0 9 then min (m b0 9) (m (b0 + 12) x3) else m (b0 + 12) x3)) (b0 + 15) x3 (gw_w (((gw_up m b0 9 (if 0 ≤ m b0 9 then min (m b0 9) (m (b0 + 12) x3) else m (b0 + 12) x3)) (b0 + 15) x3) + (if x2 = 0 then (0 : Int) else (if m (b0 + 12) x3 = (gw_up m b0 9 (if 0 ≤ m b0 9 then min (m b0 9) (m (b0 + 12) x3) else m (b0 + 12) x3)) b0 4 then (1 : Int) else (0 : Int)))))) (b0 + 16) x3)))))))) : gw_G M_X10_closeMinute d QR Γ 27 [some (gR b0), some (gI x1), some (gI x2), some (gI x3), y4] [] m := by
  refine gw_iload_n 28 d_X10_closeMinute_27 rfl rfl ?_
  refine gw_aload_n 29 d_X10_closeMinute_28 rfl rfl ?_
  refine gw_getR 32 d_X10_closeMinute_29 rfl F_10_21 (shWalk_0 hb0) rfl ?_
  refine gw_getI 35 d_X10_closeMinute_32 rfl F_10_105 (shWalk_6 hb0) rfl (kz := 0) rfl ?_
  refine gw_icmp_ge 150 38 d_X10_closeMinute_35 rfl rfl (fun c9 => ?_) (fun c9 => ?_)
  · skip
    refine gw_iload_n 151 d_X10_closeMinute_150 rfl rfl ?_
    refine gw_if_ne 166 154 d_X10_closeMinute_151 rfl rfl (fun c10 => ?_) (fun c10 => ?_)
    · skip
      refine gw_aload_n 155 d_X10_closeMinute_154 rfl rfl ?_
      refine gw_getI 158 d_X10_closeMinute_155 rfl F_10_40 (shWalk_0 hb0) rfl (kz := 5) rfl ?_
      refine gw_if_ge 166 161 d_X10_closeMinute_158 rfl rfl (fun c11 => ?_) (fun c11 => ?_)
      · skip
        exact (((h.1 c9).1 c10).1 c11)
      · skip
        refine gw_aload_n 162 d_X10_closeMinute_161 rfl rfl ?_
        refine gw_iload_n 163 d_X10_closeMinute_162 rfl rfl ?_
        refine gw_putI 166 d_X10_closeMinute_163 rfl P_10_40 (Or.inl rfl) (shWalk_0 hb0) rfl (kz := 5) rfl ?_
        exact (((h.1 c9).1 c10).2 c11)
    · skip
      exact ((h.1 c9).2 c10)
  · skip
    refine gw_aload_n 39 d_X10_closeMinute_38 rfl rfl ?_
    refine gw_getR 42 d_X10_closeMinute_39 rfl F_10_70 (shWalk_0 hb0) rfl ?_
    refine gw_iload_n 43 d_X10_closeMinute_42 rfl rfl ?_
    refine gw_iaload 44 d_X10_closeMinute_43 rfl (shWalk_17 hb0) (h.2 c9).1 ?_
    refine gw_if_ge 144 47 d_X10_closeMinute_44 rfl rfl (fun c12 => ?_) (fun c12 => ?_)
    · skip
      exact ((h.2 c9).2.1 c12)
    · skip
      refine gw_aload_n 48 d_X10_closeMinute_47 rfl rfl ?_
      refine gw_getR 51 d_X10_closeMinute_48 rfl F_10_55 (shWalk_0 hb0) rfl ?_
      refine gw_iload_n 52 d_X10_closeMinute_51 rfl rfl ?_
      refine gw_iaload 53 d_X10_closeMinute_52 rfl (shWalk_12 hb0) ((h.2 c9).2.2 c12).1 ?_
      refine gw_istore (ls' := [some (gR b0), some (gI x1), some (gI x2), some (gI x3), some (gI (m (b0 + 12) x3))]) 55 d_X10_closeMinute_53 rfl rfl rfl rfl ?_
      refine gw_aload_n 56 d_X10_closeMinute_55 rfl rfl ?_
      refine gw_aload_n 57 d_X10_closeMinute_56 rfl rfl ?_
      refine gw_getI 60 d_X10_closeMinute_57 rfl F_10_52 (shWalk_0 hb0) rfl (kz := 9) rfl ?_
      have j13 : gw_G M_X10_closeMinute d QR Γ 77 [some (gR b0), some (gI x1), some (gI x2), some (gI x3), some (gI (m (b0 + 12) x3))] [gI (if 0 ≤ m b0 9 then min (m b0 9) (m (b0 + 12) x3) else m (b0 + 12) x3), gR b0] m := by
        refine gw_putI 80 d_X10_closeMinute_77 rfl P_10_52 (Or.inl rfl) (shWalk_0 hb0) rfl (kz := 9) rfl ?_
        refine gw_aload_n 81 d_X10_closeMinute_80 rfl rfl ?_
        refine gw_getR 84 d_X10_closeMinute_81 rfl F_10_64 (shWalk_0 hb0) rfl ?_
        refine gw_iload_n 85 d_X10_closeMinute_84 rfl rfl ?_
        refine gw_dup2 86 d_X10_closeMinute_85 rfl rfl rfl ?_
        refine gw_iaload 87 d_X10_closeMinute_86 rfl (shWalk_15 hb0) ((h.2 c9).2.2 c12).2.1 ?_
        refine gw_iload_n 88 d_X10_closeMinute_87 rfl rfl ?_
        have j15 : gw_G M_X10_closeMinute d QR Γ 105 [some (gR b0), some (gI x1), some (gI x2), some (gI x3), some (gI (m (b0 + 12) x3))] [gI (if x2 = 0 then (0 : Int) else (if m (b0 + 12) x3 = (gw_up m b0 9 (if 0 ≤ m b0 9 then min (m b0 9) (m (b0 + 12) x3) else m (b0 + 12) x3)) b0 4 then (1 : Int) else (0 : Int))), gI ((gw_up m b0 9 (if 0 ≤ m b0 9 then min (m b0 9) (m (b0 + 12) x3) else m (b0 + 12) x3)) (b0 + 15) x3), gI x3, gR (b0 + 15)] (gw_up m b0 9 (if 0 ≤ m b0 9 then min (m b0 9) (m (b0 + 12) x3) else m (b0 + 12) x3)) := by
          refine gw_iadd 106 d_X10_closeMinute_105 rfl  ?_
          refine gw_iastore 107 d_X10_closeMinute_106 rfl (shWalk_15 hb0) ((h.2 c9).2.2 c12).2.2.1 ?_
          refine gw_aload_n 108 d_X10_closeMinute_107 rfl rfl ?_
          refine gw_getR 111 d_X10_closeMinute_108 rfl F_10_67 (shWalk_0 hb0) rfl ?_
          refine gw_iload_n 112 d_X10_closeMinute_111 rfl rfl ?_
          refine gw_aload_n 113 d_X10_closeMinute_112 rfl rfl ?_
          refine gw_getR 116 d_X10_closeMinute_113 rfl F_10_67 (shWalk_0 hb0) rfl ?_
          refine gw_iload_n 117 d_X10_closeMinute_116 rfl rfl ?_
          refine gw_iaload 118 d_X10_closeMinute_117 rfl (shWalk_16 hb0) ((h.2 c9).2.2 c12).2.2.2.1 ?_
          have j17 : gw_G M_X10_closeMinute d QR Γ 143 [some (gR b0), some (gI x1), some (gI x2), some (gI x3), some (gI (m (b0 + 12) x3))] [gI (if 0 ≤ (gw_up (gw_up m b0 9 (if 0 ≤ m b0 9 then min (m b0 9) (m (b0 + 12) x3) else m (b0 + 12) x3)) (b0 + 15) x3 (gw_w (((gw_up m b0 9 (if 0 ≤ m b0 9 then min (m b0 9) (m (b0 + 12) x3) else m (b0 + 12) x3)) (b0 + 15) x3) + (if x2 = 0 then (0 : Int) else (if m (b0 + 12) x3 = (gw_up m b0 9 (if 0 ≤ m b0 9 then min (m b0 9) (m (b0 + 12) x3) else m (b0 + 12) x3)) b0 4 then (1 : Int) else (0 : Int)))))) (b0 + 16) x3 then (gw_up (gw_up m b0 9 (if 0 ≤ m b0 9 then min (m b0 9) (m (b0 + 12) x3) else m (b0 + 12) x3)) (b0 + 15) x3 (gw_w (((gw_up m b0 9 (if 0 ≤ m b0 9 then min (m b0 9) (m (b0 + 12) x3) else m (b0 + 12) x3)) (b0 + 15) x3) + (if x2 = 0 then (0 : Int) else (if m (b0 + 12) x3 = (gw_up m b0 9 (if 0 ≤ m b0 9 then min (m b0 9) (m (b0 + 12) x3) else m (b0 + 12) x3)) b0 4 then (1 : Int) else (0 : Int)))))) (b0 + 16) x3 else (if m (b0 + 12) x3 = (gw_up (gw_up m b0 9 (if 0 ≤ m b0 9 then min (m b0 9) (m (b0 + 12) x3) else m (b0 + 12) x3)) (b0 + 15) x3 (gw_w (((gw_up m b0 9 (if 0 ≤ m b0 9 then min (m b0 9) (m (b0 + 12) x3) else m (b0 + 12) x3)) (b0 + 15) x3) + (if x2 = 0 then (0 : Int) else (if m (b0 + 12) x3 = (gw_up m b0 9 (if 0 ≤ m b0 9 then min (m b0 9) (m (b0 + 12) x3) else m (b0 + 12) x3)) b0 4 then (1 : Int) else (0 : Int)))))) (b0 + 1) 0 then x1 else (gw_up (gw_up m b0 9 (if 0 ≤ m b0 9 then min (m b0 9) (m (b0 + 12) x3) else m (b0 + 12) x3)) (b0 + 15) x3 (gw_w (((gw_up m b0 9 (if 0 ≤ m b0 9 then min (m b0 9) (m (b0 + 12) x3) else m (b0 + 12) x3)) (b0 + 15) x3) + (if x2 = 0 then (0 : Int) else (if m (b0 + 12) x3 = (gw_up m b0 9 (if 0 ≤ m b0 9 then min (m b0 9) (m (b0 + 12) x3) else m (b0 + 12) x3)) b0 4 then (1 : Int) else (0 : Int)))))) (b0 + 16) x3)), gI x3, gR (b0 + 16)] (gw_up (gw_up m b0 9 (if 0 ≤ m b0 9 then min (m b0 9) (m (b0 + 12) x3) else m (b0 + 12) x3)) (b0 + 15) x3 (gw_w (((gw_up m b0 9 (if 0 ≤ m b0 9 then min (m b0 9) (m (b0 + 12) x3) else m (b0 + 12) x3)) (b0 + 15) x3) + (if x2 = 0 then (0 : Int) else (if m (b0 + 12) x3 = (gw_up m b0 9 (if 0 ≤ m b0 9 then min (m b0 9) (m (b0 + 12) x3) else m (b0 + 12) x3)) b0 4 then (1 : Int) else (0 : Int)))))) := by
            refine gw_iastore 144 d_X10_closeMinute_143 rfl (shWalk_16 hb0) ((h.2 c9).2.2 c12).2.2.2.2.2.2.1 ?_
            exact ((h.2 c9).2.2 c12).2.2.2.2.2.2.2
          refine gw_if_ge 137 121 d_X10_closeMinute_118 rfl rfl (fun c18 => ?_) (fun c18 => ?_)
          · skip
            refine gw_aload_n 138 d_X10_closeMinute_137 rfl rfl ?_
            refine gw_getR 141 d_X10_closeMinute_138 rfl F_10_67 (shWalk_0 hb0) rfl ?_
            refine gw_iload_n 142 d_X10_closeMinute_141 rfl rfl ?_
            refine gw_iaload 143 d_X10_closeMinute_142 rfl (shWalk_16 hb0) (((h.2 c9).2.2 c12).2.2.2.2.1 c18) ?_
            simpa only [if_pos c18] using j17
          · skip
            refine gw_iload 123 d_X10_closeMinute_121 rfl rfl ?_
            refine gw_aload_n 124 d_X10_closeMinute_123 rfl rfl ?_
            refine gw_getR 127 d_X10_closeMinute_124 rfl F_10_12 (shWalk_0 hb0) rfl ?_
            refine gw_getI 130 d_X10_closeMinute_127 rfl F_10_108 (shWalk_1 hb0) rfl (kz := 0) rfl ?_
            refine gw_icmp_ne 137 133 d_X10_closeMinute_130 rfl rfl (fun c19 => ?_) (fun c19 => ?_)
            · skip
              refine gw_iload_n 134 d_X10_closeMinute_133 rfl rfl ?_
              refine gw_goto 143 d_X10_closeMinute_134 rfl ?_
              simpa only [if_neg c18, if_pos c19] using j17
            · skip
              refine gw_aload_n 138 d_X10_closeMinute_137 rfl rfl ?_
              refine gw_getR 141 d_X10_closeMinute_138 rfl F_10_67 (shWalk_0 hb0) rfl ?_
              refine gw_iload_n 142 d_X10_closeMinute_141 rfl rfl ?_
              refine gw_iaload 143 d_X10_closeMinute_142 rfl (shWalk_16 hb0) ((((h.2 c9).2.2 c12).2.2.2.2.2.1 c18) c19) ?_
              simpa only [if_neg c18, if_neg c19] using j17
        refine gw_if_eq 104 91 d_X10_closeMinute_88 rfl rfl (fun c16 => ?_) (fun c16 => ?_)
        · skip
          refine gw_iconst 105 d_X10_closeMinute_104 rfl rfl ?_
          simpa only [if_pos c16] using j15
        · skip
          refine gw_iload 93 d_X10_closeMinute_91 rfl rfl ?_
          refine gw_aload_n 94 d_X10_closeMinute_93 rfl rfl ?_
          refine gw_getI 97 d_X10_closeMinute_94 rfl F_10_36 (shWalk_0 hb0) rfl (kz := 4) rfl ?_
          refine gw_icmp_ne 104 100 d_X10_closeMinute_97 rfl rfl (fun c20 => ?_) (fun c20 => ?_)
          · skip
            refine gw_iconst 101 d_X10_closeMinute_100 rfl rfl ?_
            refine gw_goto 105 d_X10_closeMinute_101 rfl ?_
            simpa only [if_neg c16, if_pos c20] using j15
          · skip
            refine gw_iconst 105 d_X10_closeMinute_104 rfl rfl ?_
            simpa only [if_neg c16, if_neg c20] using j15
      refine gw_if_ge 68 63 d_X10_closeMinute_60 rfl rfl (fun c14 => ?_) (fun c14 => ?_)
      · skip
        refine gw_aload_n 69 d_X10_closeMinute_68 rfl rfl ?_
        refine gw_getI 72 d_X10_closeMinute_69 rfl F_10_52 (shWalk_0 hb0) rfl (kz := 9) rfl ?_
        refine gw_iload 74 d_X10_closeMinute_72 rfl rfl ?_
        refine gw_min 77 d_X10_closeMinute_74 rfl mj_10_170 (gw_d1 hd) rfl rfl ?_
        simpa only [if_pos c14] using j13
      · skip
        refine gw_iload 65 d_X10_closeMinute_63 rfl rfl ?_
        refine gw_goto 77 d_X10_closeMinute_65 rfl ?_
        simpa only [if_neg c14] using j13
set_option maxRecDepth 100000 in
set_option maxHeartbeats 4000000 in
theorem r_X10_closeMinute_144 {d : Nat} {QR : Option gw_SV → gw_Mem → Prop} {Γ : gw_Ga} (b0 : Nat) (hb0 : gw_isWalk b0) (x1 : Int) (x2 : Int) (x3 : Int) (y4 : Option gw_SV) (m : gw_Mem) (hd : 8 ≤ d) (h : gw_G M_X10_closeMinute d QR Γ 27 [some (gR b0), some (gI x1), some (gI x2), some (gI (gw_w (x3 + 1))), y4] [] m) : gw_G M_X10_closeMinute d QR Γ 144 [some (gR b0), some (gI x1), some (gI x2), some (gI x3), y4] [] m := by
  refine gw_iinc (ls' := [some (gR b0), some (gI x1), some (gI x2), some (gI (gw_w (x3 + 1))), y4]) 147 d_X10_closeMinute_144 rfl rfl rfl rfl rfl ?_
  refine gw_goto 27 d_X10_closeMinute_147 rfl ?_
  exact h
set_option maxRecDepth 100000 in
set_option maxHeartbeats 4000000 in
theorem r_X10_closeMinute_166 {d : Nat} {QR : Option gw_SV → gw_Mem → Prop} {Γ : gw_Ga} (b0 : Nat) (hb0 : gw_isWalk b0) (x1 : Int) (x2 : Int) (x3 : Int) (y4 : Option gw_SV) (m : gw_Mem) (hd : 8 ≤ d) (h : gw_CI d M_X10_out [gR b0] m (fun v1 m2 => gw_in ((gw_up m2 b0 6 (max (m b0 6) v1)) b0 4) 100 ∧ (((gw_up m2 b0 6 (max (m b0 6) v1)) (b0 + 2) ((gw_up m2 b0 6 (max (m b0 6) v1)) b0 4) ≤ 0 → QR none (gw_up m2 b0 6 (max (m b0 6) v1))) ∧ (¬ ((gw_up m2 b0 6 (max (m b0 6) v1)) (b0 + 2) ((gw_up m2 b0 6 (max (m b0 6) v1)) b0 4) ≤ 0) → gw_CI d M_X10_out [gR b0] (gw_up m2 b0 6 (max (m b0 6) v1)) (fun v4 m5 => QR none (gw_up m5 (b0 + 11) 5 (if m5 (b0 + 10) 4 < v4 then (0 : Int) else gw_w ((m5 (b0 + 11) 5) + 1)))))))) : gw_G M_X10_closeMinute d QR Γ 166 [some (gR b0), some (gI x1), some (gI x2), some (gI x3), y4] [] m := by
  refine gw_aload_n 167 d_X10_closeMinute_166 rfl rfl ?_
  refine gw_aload_n 168 d_X10_closeMinute_167 rfl rfl ?_
  refine gw_getI 171 d_X10_closeMinute_168 rfl F_10_43 (shWalk_0 hb0) rfl (kz := 6) rfl ?_
  refine gw_aload_n 172 d_X10_closeMinute_171 rfl rfl ?_
  refine gw_cVI (a := []) (rest := [gI (m b0 6), gR b0]) 175 d_X10_closeMinute_172 rfl ml_10_189 v_X10_out rfl (shWalk_0 hb0) rfl rfl rfl h (fun v1 m2 h3 => ?_)
  refine gw_max 178 d_X10_closeMinute_175 rfl mj_10_192 (gw_d1 hd) rfl rfl ?_
  refine gw_putI 181 d_X10_closeMinute_178 rfl P_10_43 (Or.inl rfl) (shWalk_0 hb0) rfl (kz := 6) rfl ?_
  refine gw_aload_n 182 d_X10_closeMinute_181 rfl rfl ?_
  refine gw_getR 185 d_X10_closeMinute_182 rfl F_10_12 (shWalk_0 hb0) rfl ?_
  refine gw_getR 188 d_X10_closeMinute_185 rfl F_10_131 (shWalk_1 hb0) rfl ?_
  refine gw_aload_n 189 d_X10_closeMinute_188 rfl rfl ?_
  refine gw_getI 192 d_X10_closeMinute_189 rfl F_10_36 (shWalk_0 hb0) rfl (kz := 4) rfl ?_
  refine gw_iaload 193 d_X10_closeMinute_192 rfl (shWalk_2 hb0) h3.1 ?_
  refine gw_if_le 229 196 d_X10_closeMinute_193 rfl rfl (fun c21 => ?_) (fun c21 => ?_)
  · skip
    exact gw_return d_X10_closeMinute_229 rfl (h3.2.1 c21)
  · skip
    refine gw_aload_n 197 d_X10_closeMinute_196 rfl rfl ?_
    refine gw_getR 200 d_X10_closeMinute_197 rfl F_10_32 (shWalk_0 hb0) rfl ?_
    refine gw_aload_n 201 d_X10_closeMinute_200 rfl rfl ?_
    refine gw_cVI (a := []) (rest := [gR (b0 + 11)]) 204 d_X10_closeMinute_201 rfl ml_10_189 v_X10_out rfl (shWalk_0 hb0) rfl rfl rfl (h3.2.2 c21) (fun v4 m5 h6 => ?_)
    refine gw_aload_n 205 d_X10_closeMinute_204 rfl rfl ?_
    refine gw_getR 208 d_X10_closeMinute_205 rfl F_10_25 (shWalk_0 hb0) rfl ?_
    refine gw_iconst 209 d_X10_closeMinute_208 rfl rfl ?_
    refine gw_iaload 210 d_X10_closeMinute_209 rfl (shWalk_10 hb0) (gw_inN (k := 4) rfl) ?_
    have j22 : gw_G M_X10_closeMinute d QR Γ 226 [some (gR b0), some (gI x1), some (gI x2), some (gI x3), y4] [gI (if m5 (b0 + 10) 4 < v4 then (0 : Int) else gw_w ((m5 (b0 + 11) 5) + 1)), gR (b0 + 11)] m5 := by
      refine gw_putI 229 d_X10_closeMinute_226 rfl P_10_153 (Or.inl rfl) (shWalk_11 hb0) rfl (kz := 5) rfl ?_
      exact gw_return d_X10_closeMinute_229 rfl h6
    refine gw_icmp_gt 225 213 d_X10_closeMinute_210 rfl rfl (fun c23 => ?_) (fun c23 => ?_)
    · skip
      refine gw_iconst 226 d_X10_closeMinute_225 rfl rfl ?_
      simpa only [if_pos c23] using j22
    · skip
      refine gw_aload_n 214 d_X10_closeMinute_213 rfl rfl ?_
      refine gw_getR 217 d_X10_closeMinute_214 rfl F_10_32 (shWalk_0 hb0) rfl ?_
      refine gw_getI 220 d_X10_closeMinute_217 rfl F_10_153 (shWalk_11 hb0) rfl (kz := 5) rfl ?_
      refine gw_iconst 221 d_X10_closeMinute_220 rfl rfl ?_
      refine gw_iadd 222 d_X10_closeMinute_221 rfl  ?_
      refine gw_goto 226 d_X10_closeMinute_222 rfl ?_
      simpa only [if_neg c23] using j22
set_option maxRecDepth 100000 in
set_option maxHeartbeats 4000000 in
theorem r_X10_out_0 {d : Nat} {QR : Option gw_SV → gw_Mem → Prop} {Γ : gw_Ga} (b0 : Nat) (hb0 : gw_isWalk b0) (m : gw_Mem) (h : QR (some (gI (if 0 ≤ m b0 9 then gw_w ((m b0 4) - (m b0 9)) else (-4 : Int)))) m) : gw_G M_X10_out d QR Γ 0 [some (gR b0)] [] m := by
  refine gw_aload_n 1 d_X10_out_0 rfl rfl ?_
  refine gw_getI 4 d_X10_out_1 rfl F_10_52 (shWalk_0 hb0) rfl (kz := 9) rfl ?_
  have j1 : gw_G M_X10_out d QR Γ 21 [some (gR b0)] [gI (if 0 ≤ m b0 9 then gw_w ((m b0 4) - (m b0 9)) else (-4 : Int))] m := by
    exact gw_ireturn d_X10_out_21 (Or.inl rfl) h
  refine gw_if_ge 12 7 d_X10_out_4 rfl rfl (fun c2 => ?_) (fun c2 => ?_)
  · skip
    refine gw_aload_n 13 d_X10_out_12 rfl rfl ?_
    refine gw_getI 16 d_X10_out_13 rfl F_10_36 (shWalk_0 hb0) rfl (kz := 4) rfl ?_
    refine gw_aload_n 17 d_X10_out_16 rfl rfl ?_
    refine gw_getI 20 d_X10_out_17 rfl F_10_52 (shWalk_0 hb0) rfl (kz := 9) rfl ?_
    refine gw_isub 21 d_X10_out_20 rfl  ?_
    simpa only [if_pos c2] using j1
  · skip
    refine gw_bipush 9 d_X10_out_7 rfl rfl (by decide) ?_
    refine gw_goto 21 d_X10_out_9 rfl ?_
    simpa only [if_neg c2] using j1
set_option maxRecDepth 100000 in
set_option maxHeartbeats 4000000 in
theorem r_X10_leastHeardInTime_0 {d : Nat} {QR : Option gw_SV → gw_Mem → Prop} {Γ : gw_Ga} (b0 : Nat) (hb0 : gw_isWalk b0) (x1 : Int) (m : gw_Mem) (h : gw_CV d M_X10_start [gR b0] m (fun m1 => gw_G M_X10_leastHeardInTime d QR Γ 6 [some (gR b0), some (gI x1), some (gI 0)] [] m1)) : gw_G M_X10_leastHeardInTime d QR Γ 0 [some (gR b0), some (gI x1), none] [] m := by
  refine gw_aload_n 1 d_X10_leastHeardInTime_0 rfl rfl ?_
  refine gw_cVV (a := []) (rest := []) 4 d_X10_leastHeardInTime_1 rfl ml_10_195 v_X10_start rfl (shWalk_0 hb0) rfl rfl rfl h (fun m1 h2 => ?_)
  refine gw_iconst 5 d_X10_leastHeardInTime_4 rfl rfl ?_
  refine gw_istore_n (ls' := [some (gR b0), some (gI x1), some (gI 0)]) 6 d_X10_leastHeardInTime_5 rfl rfl rfl rfl ?_
  exact h2
set_option maxRecDepth 100000 in
set_option maxHeartbeats 4000000 in
theorem r_X10_leastHeardInTime_6 {d : Nat} {QR : Option gw_SV → gw_Mem → Prop} {Γ : gw_Ga} (b0 : Nat) (hb0 : gw_isWalk b0) (x1 : Int) (x2 : Int) (m : gw_Mem) (h : ((x1 < x2 → QR (some (gI (-1))) m) ∧ (¬ (x1 < x2) → ((m b0 8 = 0 → gw_CV d M_X10_live [gR b0, gI x2] m (fun m3 => gw_CI d M_X10_isOver [gR b0] m3 (fun v5 m6 => ((v5 = 0 → gw_G M_X10_leastHeardInTime d QR Γ 6 [some (gR b0), some (gI x1), some (gI (gw_w (x2 + 1)))] [] m6) ∧ (¬ (v5 = 0) → ((m6 b0 8 = 0 → gw_CI d M_X10_leastHeard [gR b0] m6 (fun v8 m9 => QR (some (gI v8)) m9)) ∧ (¬ (m6 b0 8 = 0) → QR (some (gI (-1))) m6))))))) ∧ (¬ (m b0 8 = 0) → QR (some (gI (-1))) m))))) : gw_G M_X10_leastHeardInTime d QR Γ 6 [some (gR b0), some (gI x1), some (gI x2)] [] m := by
  refine gw_iload_n 7 d_X10_leastHeardInTime_6 rfl rfl ?_
  refine gw_iload_n 8 d_X10_leastHeardInTime_7 rfl rfl ?_
  refine gw_icmp_gt 52 11 d_X10_leastHeardInTime_8 rfl rfl (fun c11 => ?_) (fun c11 => ?_)
  · skip
    refine gw_iconst 53 d_X10_leastHeardInTime_52 rfl rfl ?_
    exact gw_ireturn d_X10_leastHeardInTime_53 (Or.inl rfl) (h.1 c11)
  · skip
    refine gw_aload_n 12 d_X10_leastHeardInTime_11 rfl rfl ?_
    refine gw_getI 15 d_X10_leastHeardInTime_12 rfl F_10_49 (shWalk_0 hb0) rfl (kz := 8) rfl ?_
    refine gw_if_ne 52 18 d_X10_leastHeardInTime_15 rfl rfl (fun c12 => ?_) (fun c12 => ?_)
    · skip
      refine gw_aload_n 19 d_X10_leastHeardInTime_18 rfl rfl ?_
      refine gw_iload_n 20 d_X10_leastHeardInTime_19 rfl rfl ?_
      refine gw_cVV (a := [gI x2]) (rest := []) 23 d_X10_leastHeardInTime_20 rfl ml_10_198 v_X10_live rfl (shWalk_0 hb0) rfl rfl rfl ((h.2 c11).1 c12) (fun m3 h4 => ?_)
      refine gw_aload_n 24 d_X10_leastHeardInTime_23 rfl rfl ?_
      refine gw_cVI (a := []) (rest := []) 27 d_X10_leastHeardInTime_24 rfl ml_10_201 v_X10_isOver rfl (shWalk_0 hb0) rfl rfl rfl h4 (fun v5 m6 h7 => ?_)
      refine gw_if_eq 46 30 d_X10_leastHeardInTime_27 rfl rfl (fun c13 => ?_) (fun c13 => ?_)
      · skip
        refine gw_iinc (ls' := [some (gR b0), some (gI x1), some (gI (gw_w (x2 + 1)))]) 49 d_X10_leastHeardInTime_46 rfl rfl rfl rfl rfl ?_
        refine gw_goto 6 d_X10_leastHeardInTime_49 rfl ?_
        exact (h7.1 c13)
      · skip
        refine gw_aload_n 31 d_X10_leastHeardInTime_30 rfl rfl ?_
        refine gw_getI 34 d_X10_leastHeardInTime_31 rfl F_10_49 (shWalk_0 hb0) rfl (kz := 8) rfl ?_
        refine gw_if_ne 44 37 d_X10_leastHeardInTime_34 rfl rfl (fun c14 => ?_) (fun c14 => ?_)
        · skip
          refine gw_aload_n 38 d_X10_leastHeardInTime_37 rfl rfl ?_
          refine gw_cVI (a := []) (rest := []) 41 d_X10_leastHeardInTime_38 rfl ml_10_204 v_X10_leastHeard rfl (shWalk_0 hb0) rfl rfl rfl ((h7.2 c13).1 c14) (fun v8 m9 h10 => ?_)
          refine gw_goto 45 d_X10_leastHeardInTime_41 rfl ?_
          exact gw_ireturn d_X10_leastHeardInTime_45 (Or.inl rfl) h10
        · skip
          refine gw_iconst 45 d_X10_leastHeardInTime_44 rfl rfl ?_
          exact gw_ireturn d_X10_leastHeardInTime_45 (Or.inl rfl) ((h7.2 c13).2 c14)
    · skip
      refine gw_iconst 53 d_X10_leastHeardInTime_52 rfl rfl ?_
      exact gw_ireturn d_X10_leastHeardInTime_53 (Or.inl rfl) ((h.2 c11).2 c12)
set_option maxRecDepth 100000 in
set_option maxHeartbeats 4000000 in
theorem r_X10_heardTogether_0 {d : Nat} {QR : Option gw_SV → gw_Mem → Prop} {Γ : gw_Ga} (b0 : Nat) (hb0 : gw_isWalk b0) (m : gw_Mem) (h : gw_G M_X10_heardTogether d QR Γ 4 [some (gR b0), some (gI 0), some (gI 0)] [] m) : gw_G M_X10_heardTogether d QR Γ 0 [some (gR b0), none, none] [] m := by
  refine gw_iconst 1 d_X10_heardTogether_0 rfl rfl ?_
  refine gw_istore_n (ls' := [some (gR b0), some (gI 0), none]) 2 d_X10_heardTogether_1 rfl rfl rfl rfl ?_
  refine gw_iconst 3 d_X10_heardTogether_2 rfl rfl ?_
  refine gw_istore_n (ls' := [some (gR b0), some (gI 0), some (gI 0)]) 4 d_X10_heardTogether_3 rfl rfl rfl rfl ?_
  exact h
set_option maxRecDepth 100000 in
set_option maxHeartbeats 4000000 in
theorem r_X10_heardTogether_4 {d : Nat} {QR : Option gw_SV → gw_Mem → Prop} {Γ : gw_Ga} (b0 : Nat) (hb0 : gw_isWalk b0) (x1 : Int) (x2 : Int) (m : gw_Mem) (h : ((m (b0 + 6) 0 ≤ x2 → QR (some (gI x1)) m) ∧ (¬ (m (b0 + 6) 0 ≤ x2) → gw_in x2 10 ∧ gw_G M_X10_heardTogether d QR Γ 4 [some (gR b0), some (gI (gw_w (x1 + (m (b0 + 14) x2)))), some (gI (gw_w (x2 + 1)))] [] m))) : gw_G M_X10_heardTogether d QR Γ 4 [some (gR b0), some (gI x1), some (gI x2)] [] m := by
  refine gw_iload_n 5 d_X10_heardTogether_4 rfl rfl ?_
  refine gw_aload_n 6 d_X10_heardTogether_5 rfl rfl ?_
  refine gw_getR 9 d_X10_heardTogether_6 rfl F_10_21 (shWalk_0 hb0) rfl ?_
  refine gw_getI 12 d_X10_heardTogether_9 rfl F_10_105 (shWalk_6 hb0) rfl (kz := 0) rfl ?_
  refine gw_icmp_ge 30 15 d_X10_heardTogether_12 rfl rfl (fun c1 => ?_) (fun c1 => ?_)
  · skip
    refine gw_iload_n 31 d_X10_heardTogether_30 rfl rfl ?_
    exact gw_ireturn d_X10_heardTogether_31 (Or.inl rfl) (h.1 c1)
  · skip
    refine gw_iload_n 16 d_X10_heardTogether_15 rfl rfl ?_
    refine gw_aload_n 17 d_X10_heardTogether_16 rfl rfl ?_
    refine gw_getR 20 d_X10_heardTogether_17 rfl F_10_61 (shWalk_0 hb0) rfl ?_
    refine gw_iload_n 21 d_X10_heardTogether_20 rfl rfl ?_
    refine gw_iaload 22 d_X10_heardTogether_21 rfl (shWalk_14 hb0) (h.2 c1).1 ?_
    refine gw_iadd 23 d_X10_heardTogether_22 rfl  ?_
    refine gw_istore_n (ls' := [some (gR b0), some (gI (gw_w (x1 + (m (b0 + 14) x2)))), some (gI x2)]) 24 d_X10_heardTogether_23 rfl rfl rfl rfl ?_
    refine gw_iinc (ls' := [some (gR b0), some (gI (gw_w (x1 + (m (b0 + 14) x2)))), some (gI (gw_w (x2 + 1)))]) 27 d_X10_heardTogether_24 rfl rfl rfl rfl rfl ?_
    refine gw_goto 4 d_X10_heardTogether_27 rfl ?_
    exact (h.2 c1).2
set_option maxRecDepth 100000 in
set_option maxHeartbeats 4000000 in
theorem r_X10_leastHeard_0 {d : Nat} {QR : Option gw_SV → gw_Mem → Prop} {Γ : gw_Ga} (b0 : Nat) (hb0 : gw_isWalk b0) (m : gw_Mem) (hd : 8 ≤ d) (h : gw_G M_X10_leastHeard d QR Γ 5 [some (gR b0), some (gI (-4)), some (gI 0)] [] m) : gw_G M_X10_leastHeard d QR Γ 0 [some (gR b0), none, none] [] m := by
  refine gw_bipush 2 d_X10_leastHeard_0 rfl rfl (by decide) ?_
  refine gw_istore_n (ls' := [some (gR b0), some (gI (-4)), none]) 3 d_X10_leastHeard_2 rfl rfl rfl rfl ?_
  refine gw_iconst 4 d_X10_leastHeard_3 rfl rfl ?_
  refine gw_istore_n (ls' := [some (gR b0), some (gI (-4)), some (gI 0)]) 5 d_X10_leastHeard_4 rfl rfl rfl rfl ?_
  exact h
set_option maxRecDepth 100000 in
set_option maxHeartbeats 4000000 in
theorem r_X10_leastHeard_5 {d : Nat} {QR : Option gw_SV → gw_Mem → Prop} {Γ : gw_Ga} (b0 : Nat) (hb0 : gw_isWalk b0) (x1 : Int) (x2 : Int) (m : gw_Mem) (hd : 8 ≤ d) (h : ((m (b0 + 6) 0 ≤ x2 → QR (some (gI x1)) m) ∧ (¬ (m (b0 + 6) 0 ≤ x2) → (x2 = 0 → gw_in x2 10) ∧ (¬ (x2 = 0) → gw_in x2 10) ∧ gw_G M_X10_leastHeard d QR Γ 5 [some (gR b0), some (gI (if x2 = 0 then m (b0 + 14) x2 else min x1 (m (b0 + 14) x2))), some (gI (gw_w (x2 + 1)))] [] m))) : gw_G M_X10_leastHeard d QR Γ 5 [some (gR b0), some (gI x1), some (gI x2)] [] m := by
  refine gw_iload_n 6 d_X10_leastHeard_5 rfl rfl ?_
  refine gw_aload_n 7 d_X10_leastHeard_6 rfl rfl ?_
  refine gw_getR 10 d_X10_leastHeard_7 rfl F_10_21 (shWalk_0 hb0) rfl ?_
  refine gw_getI 13 d_X10_leastHeard_10 rfl F_10_105 (shWalk_6 hb0) rfl (kz := 0) rfl ?_
  refine gw_icmp_ge 46 16 d_X10_leastHeard_13 rfl rfl (fun c1 => ?_) (fun c1 => ?_)
  · skip
    refine gw_iload_n 47 d_X10_leastHeard_46 rfl rfl ?_
    exact gw_ireturn d_X10_leastHeard_47 (Or.inl rfl) (h.1 c1)
  · skip
    refine gw_iload_n 17 d_X10_leastHeard_16 rfl rfl ?_
    have j2 : gw_G M_X10_leastHeard d QR Γ 39 [some (gR b0), some (gI x1), some (gI x2)] [gI (if x2 = 0 then m (b0 + 14) x2 else min x1 (m (b0 + 14) x2))] m := by
      refine gw_istore_n (ls' := [some (gR b0), some (gI (if x2 = 0 then m (b0 + 14) x2 else min x1 (m (b0 + 14) x2))), some (gI x2)]) 40 d_X10_leastHeard_39 rfl rfl rfl rfl ?_
      refine gw_iinc (ls' := [some (gR b0), some (gI (if x2 = 0 then m (b0 + 14) x2 else min x1 (m (b0 + 14) x2))), some (gI (gw_w (x2 + 1)))]) 43 d_X10_leastHeard_40 rfl rfl rfl rfl rfl ?_
      refine gw_goto 5 d_X10_leastHeard_43 rfl ?_
      exact (h.2 c1).2.2
    refine gw_if_ne 29 20 d_X10_leastHeard_17 rfl rfl (fun c3 => ?_) (fun c3 => ?_)
    · skip
      refine gw_aload_n 21 d_X10_leastHeard_20 rfl rfl ?_
      refine gw_getR 24 d_X10_leastHeard_21 rfl F_10_61 (shWalk_0 hb0) rfl ?_
      refine gw_iload_n 25 d_X10_leastHeard_24 rfl rfl ?_
      refine gw_iaload 26 d_X10_leastHeard_25 rfl (shWalk_14 hb0) ((h.2 c1).1 c3) ?_
      refine gw_goto 39 d_X10_leastHeard_26 rfl ?_
      simpa only [if_pos c3] using j2
    · skip
      refine gw_iload_n 30 d_X10_leastHeard_29 rfl rfl ?_
      refine gw_aload_n 31 d_X10_leastHeard_30 rfl rfl ?_
      refine gw_getR 34 d_X10_leastHeard_31 rfl F_10_61 (shWalk_0 hb0) rfl ?_
      refine gw_iload_n 35 d_X10_leastHeard_34 rfl rfl ?_
      refine gw_iaload 36 d_X10_leastHeard_35 rfl (shWalk_14 hb0) ((h.2 c1).2.1 c3) ?_
      refine gw_min 39 d_X10_leastHeard_36 rfl mj_10_170 (gw_d1 hd) rfl rfl ?_
      simpa only [if_neg c3] using j2
set_option maxRecDepth 100000 in
set_option maxHeartbeats 4000000 in
theorem r_X10_allThere_0 {d : Nat} {QR : Option gw_SV → gw_Mem → Prop} {Γ : gw_Ga} (b0 : Nat) (hb0 : gw_isWalk b0) (m : gw_Mem) (hd : 8 ≤ d) (h : gw_G M_X10_allThere d QR Γ 5 [some (gR b0), some (gI (-4)), some (gI 0)] [] m) : gw_G M_X10_allThere d QR Γ 0 [some (gR b0), none, none] [] m := by
  refine gw_bipush 2 d_X10_allThere_0 rfl rfl (by decide) ?_
  refine gw_istore_n (ls' := [some (gR b0), some (gI (-4)), none]) 3 d_X10_allThere_2 rfl rfl rfl rfl ?_
  refine gw_iconst 4 d_X10_allThere_3 rfl rfl ?_
  refine gw_istore_n (ls' := [some (gR b0), some (gI (-4)), some (gI 0)]) 5 d_X10_allThere_4 rfl rfl rfl rfl ?_
  exact h
set_option maxRecDepth 100000 in
set_option maxHeartbeats 4000000 in
theorem r_X10_allThere_5 {d : Nat} {QR : Option gw_SV → gw_Mem → Prop} {Γ : gw_Ga} (b0 : Nat) (hb0 : gw_isWalk b0) (x1 : Int) (x2 : Int) (m : gw_Mem) (hd : 8 ≤ d) (h : ((m (b0 + 6) 0 ≤ x2 → QR (some (gI x1)) m) ∧ (¬ (m (b0 + 6) 0 ≤ x2) → gw_in x2 10 ∧ ((0 ≤ m (b0 + 16) x2 → gw_in x2 10 ∧ gw_G M_X10_allThere d QR Γ 5 [some (gR b0), some (gI (max x1 (m (b0 + 16) x2))), some (gI (gw_w (x2 + 1)))] [] m) ∧ (¬ (0 ≤ m (b0 + 16) x2) → QR (some (gI (-4))) m))))) : gw_G M_X10_allThere d QR Γ 5 [some (gR b0), some (gI x1), some (gI x2)] [] m := by
  refine gw_iload_n 6 d_X10_allThere_5 rfl rfl ?_
  refine gw_aload_n 7 d_X10_allThere_6 rfl rfl ?_
  refine gw_getR 10 d_X10_allThere_7 rfl F_10_21 (shWalk_0 hb0) rfl ?_
  refine gw_getI 13 d_X10_allThere_10 rfl F_10_105 (shWalk_6 hb0) rfl (kz := 0) rfl ?_
  refine gw_icmp_ge 45 16 d_X10_allThere_13 rfl rfl (fun c1 => ?_) (fun c1 => ?_)
  · skip
    refine gw_iload_n 46 d_X10_allThere_45 rfl rfl ?_
    exact gw_ireturn d_X10_allThere_46 (Or.inl rfl) (h.1 c1)
  · skip
    refine gw_aload_n 17 d_X10_allThere_16 rfl rfl ?_
    refine gw_getR 20 d_X10_allThere_17 rfl F_10_67 (shWalk_0 hb0) rfl ?_
    refine gw_iload_n 21 d_X10_allThere_20 rfl rfl ?_
    refine gw_iaload 22 d_X10_allThere_21 rfl (shWalk_16 hb0) (h.2 c1).1 ?_
    refine gw_if_ge 28 25 d_X10_allThere_22 rfl rfl (fun c2 => ?_) (fun c2 => ?_)
    · skip
      refine gw_iload_n 29 d_X10_allThere_28 rfl rfl ?_
      refine gw_aload_n 30 d_X10_allThere_29 rfl rfl ?_
      refine gw_getR 33 d_X10_allThere_30 rfl F_10_67 (shWalk_0 hb0) rfl ?_
      refine gw_iload_n 34 d_X10_allThere_33 rfl rfl ?_
      refine gw_iaload 35 d_X10_allThere_34 rfl (shWalk_16 hb0) ((h.2 c1).2.1 c2).1 ?_
      refine gw_max 38 d_X10_allThere_35 rfl mj_10_192 (gw_d1 hd) rfl rfl ?_
      refine gw_istore_n (ls' := [some (gR b0), some (gI (max x1 (m (b0 + 16) x2))), some (gI x2)]) 39 d_X10_allThere_38 rfl rfl rfl rfl ?_
      refine gw_iinc (ls' := [some (gR b0), some (gI (max x1 (m (b0 + 16) x2))), some (gI (gw_w (x2 + 1)))]) 42 d_X10_allThere_39 rfl rfl rfl rfl rfl ?_
      refine gw_goto 5 d_X10_allThere_42 rfl ?_
      exact ((h.2 c1).2.1 c2).2
    · skip
      refine gw_bipush 27 d_X10_allThere_25 rfl rfl (by decide) ?_
      exact gw_ireturn d_X10_allThere_27 (Or.inl rfl) ((h.2 c1).2.2 c2)
set_option maxRecDepth 100000 in
set_option maxHeartbeats 4000000 in
theorem r_X10_lostSet_0 {d : Nat} {QR : Option gw_SV → gw_Mem → Prop} {Γ : gw_Ga} (b0 : Nat) (hb0 : gw_isWalk b0) (m : gw_Mem) (h : gw_G M_X10_lostSet d QR Γ 4 [some (gR b0), some (gI 0), some (gI 0)] [] m) : gw_G M_X10_lostSet d QR Γ 0 [some (gR b0), none, none] [] m := by
  refine gw_iconst 1 d_X10_lostSet_0 rfl rfl ?_
  refine gw_istore_n (ls' := [some (gR b0), some (gI 0), none]) 2 d_X10_lostSet_1 rfl rfl rfl rfl ?_
  refine gw_iconst 3 d_X10_lostSet_2 rfl rfl ?_
  refine gw_istore_n (ls' := [some (gR b0), some (gI 0), some (gI 0)]) 4 d_X10_lostSet_3 rfl rfl rfl rfl ?_
  exact h
set_option maxRecDepth 100000 in
set_option maxHeartbeats 4000000 in
theorem r_X10_lostSet_4 {d : Nat} {QR : Option gw_SV → gw_Mem → Prop} {Γ : gw_Ga} (b0 : Nat) (hb0 : gw_isWalk b0) (x1 : Int) (x2 : Int) (m : gw_Mem) (h : ((m (b0 + 6) 0 ≤ x2 → QR (some (gI x1)) m) ∧ (¬ (m (b0 + 6) 0 ≤ x2) → gw_in x2 10 ∧ gw_G M_X10_lostSet d QR Γ 4 [some (gR b0), some (gI (gw_or x1 (if m (b0 + 17) x2 < 0 then (0 : Int) else gw_shl 1 x2))), some (gI (gw_w (x2 + 1)))] [] m))) : gw_G M_X10_lostSet d QR Γ 4 [some (gR b0), some (gI x1), some (gI x2)] [] m := by
  refine gw_iload_n 5 d_X10_lostSet_4 rfl rfl ?_
  refine gw_aload_n 6 d_X10_lostSet_5 rfl rfl ?_
  refine gw_getR 9 d_X10_lostSet_6 rfl F_10_21 (shWalk_0 hb0) rfl ?_
  refine gw_getI 12 d_X10_lostSet_9 rfl F_10_105 (shWalk_6 hb0) rfl (kz := 0) rfl ?_
  refine gw_icmp_ge 40 15 d_X10_lostSet_12 rfl rfl (fun c1 => ?_) (fun c1 => ?_)
  · skip
    refine gw_iload_n 41 d_X10_lostSet_40 rfl rfl ?_
    exact gw_ireturn d_X10_lostSet_41 (Or.inl rfl) (h.1 c1)
  · skip
    refine gw_iload_n 16 d_X10_lostSet_15 rfl rfl ?_
    refine gw_aload_n 17 d_X10_lostSet_16 rfl rfl ?_
    refine gw_getR 20 d_X10_lostSet_17 rfl F_10_70 (shWalk_0 hb0) rfl ?_
    refine gw_iload_n 21 d_X10_lostSet_20 rfl rfl ?_
    refine gw_iaload 22 d_X10_lostSet_21 rfl (shWalk_17 hb0) (h.2 c1).1 ?_
    have j2 : gw_G M_X10_lostSet d QR Γ 32 [some (gR b0), some (gI x1), some (gI x2)] [gI (if m (b0 + 17) x2 < 0 then (0 : Int) else gw_shl 1 x2), gI x1] m := by
      refine gw_ior 33 d_X10_lostSet_32 rfl  ?_
      refine gw_istore_n (ls' := [some (gR b0), some (gI (gw_or x1 (if m (b0 + 17) x2 < 0 then (0 : Int) else gw_shl 1 x2))), some (gI x2)]) 34 d_X10_lostSet_33 rfl rfl rfl rfl ?_
      refine gw_iinc (ls' := [some (gR b0), some (gI (gw_or x1 (if m (b0 + 17) x2 < 0 then (0 : Int) else gw_shl 1 x2))), some (gI (gw_w (x2 + 1)))]) 37 d_X10_lostSet_34 rfl rfl rfl rfl rfl ?_
      refine gw_goto 4 d_X10_lostSet_37 rfl ?_
      exact (h.2 c1).2
    refine gw_if_lt 31 25 d_X10_lostSet_22 rfl rfl (fun c3 => ?_) (fun c3 => ?_)
    · skip
      refine gw_iconst 32 d_X10_lostSet_31 rfl rfl ?_
      simpa only [if_pos c3] using j2
    · skip
      refine gw_iconst 26 d_X10_lostSet_25 rfl rfl ?_
      refine gw_iload_n 27 d_X10_lostSet_26 rfl rfl ?_
      refine gw_ishl 28 d_X10_lostSet_27 rfl  ?_
      refine gw_goto 32 d_X10_lostSet_28 rfl ?_
      simpa only [if_neg c3] using j2
