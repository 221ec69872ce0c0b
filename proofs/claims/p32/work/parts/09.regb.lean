set_option maxRecDepth 100000 in
set_option maxHeartbeats 4000000 in
theorem r_X11_end_0 {d : Nat} {QR : Option gw_SV → gw_Mem → Prop} {Γ : gw_Ga} (x1 : Int) (m : gw_Mem) (h : gw_CI d M_X11_within [gI x1, gI 10, gI 99] m (fun v1 m2 => ((v1 = 0 → QR (some (gI (-1))) m2) ∧ (¬ (v1 = 0) → gw_CV d M_X11_forget [gR 0] (gw_up m2 4 0 x1) (fun m4 => QR (some (gI (m2 4 0))) m4))))) : gw_G M_X11_end d QR Γ 0 [some (gR 0), some (gI x1), none] [] m := by
  refine gw_iload_n 1 d_X11_end_0 rfl rfl ?_
  refine gw_bipush 3 d_X11_end_1 rfl rfl (by decide) ?_
  refine gw_bipush 5 d_X11_end_3 rfl rfl (by decide) ?_
  refine gw_cSI (a := [gI x1, gI 10, gI 99]) (rest := []) 8 d_X11_end_5 rfl ml_11_92 v_X11_within rfl rfl rfl h (fun v1 m2 h3 => ?_)
  refine gw_if_ne 13 11 d_X11_end_8 rfl rfl (fun c6 => ?_) (fun c6 => ?_)
  · skip
    refine gw_iconst 12 d_X11_end_11 rfl rfl ?_
    exact gw_ireturn d_X11_end_12 (Or.inl rfl) (h3.1 c6)
  · skip
    refine gw_aload_n 14 d_X11_end_13 rfl rfl ?_
    refine gw_getR 17 d_X11_end_14 rfl F_11_10 sh_0 rfl ?_
    refine gw_getI 20 d_X11_end_17 rfl F_11_96 sh_4 rfl (kz := 0) rfl ?_
    refine gw_istore_n (ls' := [some (gR 0), some (gI x1), some (gI (m2 4 0))]) 21 d_X11_end_20 rfl rfl rfl rfl ?_
    refine gw_aload_n 22 d_X11_end_21 rfl rfl ?_
    refine gw_getR 25 d_X11_end_22 rfl F_11_10 sh_0 rfl ?_
    refine gw_iload_n 26 d_X11_end_25 rfl rfl ?_
    refine gw_putI 29 d_X11_end_26 rfl P_11_96 (Or.inl rfl) sh_4 rfl (kz := 0) rfl ?_
    refine gw_aload_n 30 d_X11_end_29 rfl rfl ?_
    refine gw_cVV (a := []) (rest := []) 33 d_X11_end_30 rfl ml_11_99 v_X11_forget rfl sh_0 rfl rfl rfl (h3.2 c6) (fun m4 h5 => ?_)
    refine gw_iload_n 34 d_X11_end_33 rfl rfl ?_
    exact gw_ireturn d_X11_end_34 (Or.inl rfl) h5
set_option maxRecDepth 100000 in
set_option maxHeartbeats 4000000 in
theorem r_X11_mark_0 {d : Nat} {QR : Option gw_SV → gw_Mem → Prop} {Γ : gw_Ga} (x1 : Int) (x2 : Int) (x3 : Int) (m : gw_Mem) (h : gw_CI d M_X11_within [gI x1, gI 0, gI 3] m (fun v1 m2 => ((v1 = 0 → QR (some (gI (-1))) m2) ∧ (¬ (v1 = 0) → gw_CI d M_X11_within [gI x2, gI 0, gI 99] m2 (fun v4 m5 => ((v4 = 0 → QR (some (gI (-1))) m5) ∧ (¬ (v4 = 0) → gw_in x1 4 ∧ gw_in x1 4 ∧ gw_CI d M_X11_within [gI x3, gI ((gw_sv 0).getD x1.toNat 0), gI ((gw_sv 1).getD x1.toNat 0)] m5 (fun v7 m8 => ((v7 = 0 → QR (some (gI (-1))) m8) ∧ (¬ (v7 = 0) → gw_CI d M_X3_add [gR 5, gI x1, gI x2, gI x3] m8 (fun v10 m11 => ((v10 < 0 → QR (some (gI v10)) m11) ∧ (¬ (v10 < 0) → gw_CV d M_X11_forget [gR 0] m11 (fun m13 => QR (some (gI v10)) m13)))))))))))))) : gw_G M_X11_mark d QR Γ 0 [some (gR 0), some (gI x1), some (gI x2), some (gI x3), none] [] m := by
  refine gw_iload_n 1 d_X11_mark_0 rfl rfl ?_
  refine gw_iconst 2 d_X11_mark_1 rfl rfl ?_
  refine gw_iconst 3 d_X11_mark_2 rfl rfl ?_
  refine gw_cSI (a := [gI x1, gI 0, gI 3]) (rest := []) 6 d_X11_mark_3 rfl ml_11_92 v_X11_within rfl rfl rfl h (fun v1 m2 h3 => ?_)
  refine gw_if_eq 36 9 d_X11_mark_6 rfl rfl (fun c15 => ?_) (fun c15 => ?_)
  · skip
    refine gw_iconst 37 d_X11_mark_36 rfl rfl ?_
    exact gw_ireturn d_X11_mark_37 (Or.inl rfl) (h3.1 c15)
  · skip
    refine gw_iload_n 10 d_X11_mark_9 rfl rfl ?_
    refine gw_iconst 11 d_X11_mark_10 rfl rfl ?_
    refine gw_bipush 13 d_X11_mark_11 rfl rfl (by decide) ?_
    refine gw_cSI (a := [gI x2, gI 0, gI 99]) (rest := []) 16 d_X11_mark_13 rfl ml_11_92 v_X11_within rfl rfl rfl (h3.2 c15) (fun v4 m5 h6 => ?_)
    refine gw_if_eq 36 19 d_X11_mark_16 rfl rfl (fun c16 => ?_) (fun c16 => ?_)
    · skip
      refine gw_iconst 37 d_X11_mark_36 rfl rfl ?_
      exact gw_ireturn d_X11_mark_37 (Or.inl rfl) (h6.1 c16)
    · skip
      refine gw_iload_n 20 d_X11_mark_19 rfl rfl ?_
      refine gw_gets (i := 0) 23 d_X11_mark_20 rfl (by decide) sf_11_102 ?_
      refine gw_iload_n 24 d_X11_mark_23 rfl rfl ?_
      refine gw_ialoadS (i := 0) 25 d_X11_mark_24 rfl (by decide) (h6.2 c16).1 rfl ?_
      refine gw_gets (i := 1) 28 d_X11_mark_25 rfl (by decide) sf_11_105 ?_
      refine gw_iload_n 29 d_X11_mark_28 rfl rfl ?_
      refine gw_ialoadS (i := 1) 30 d_X11_mark_29 rfl (by decide) (h6.2 c16).2.1 rfl ?_
      refine gw_cSI (a := [gI x3, gI ((gw_sv 0).getD x1.toNat 0), gI ((gw_sv 1).getD x1.toNat 0)]) (rest := []) 33 d_X11_mark_30 rfl ml_11_92 v_X11_within rfl rfl rfl (h6.2 c16).2.2 (fun v7 m8 h9 => ?_)
      refine gw_if_ne 38 36 d_X11_mark_33 rfl rfl (fun c17 => ?_) (fun c17 => ?_)
      · skip
        refine gw_iconst 37 d_X11_mark_36 rfl rfl ?_
        exact gw_ireturn d_X11_mark_37 (Or.inl rfl) (h9.1 c17)
      · skip
        refine gw_aload_n 39 d_X11_mark_38 rfl rfl ?_
        refine gw_getR 42 d_X11_mark_39 rfl F_11_10 sh_0 rfl ?_
        refine gw_getR 45 d_X11_mark_42 rfl F_11_108 sh_4 rfl ?_
        refine gw_iload_n 46 d_X11_mark_45 rfl rfl ?_
        refine gw_iload_n 47 d_X11_mark_46 rfl rfl ?_
        refine gw_iload_n 48 d_X11_mark_47 rfl rfl ?_
        refine gw_cVI (a := [gI x1, gI x2, gI x3]) (rest := []) 51 d_X11_mark_48 rfl ml_11_111 v_X3_add rfl sh_5 rfl rfl rfl (h9.2 c17) (fun v10 m11 h12 => ?_)
        refine gw_istore (ls' := [some (gR 0), some (gI x1), some (gI x2), some (gI x3), some (gI v10)]) 53 d_X11_mark_51 rfl rfl rfl rfl ?_
        refine gw_iload 55 d_X11_mark_53 rfl rfl ?_
        refine gw_if_lt 62 58 d_X11_mark_55 rfl rfl (fun c18 => ?_) (fun c18 => ?_)
        · skip
          refine gw_iload 64 d_X11_mark_62 rfl rfl ?_
          exact gw_ireturn d_X11_mark_64 (Or.inl rfl) (h12.1 c18)
        · skip
          refine gw_aload_n 59 d_X11_mark_58 rfl rfl ?_
          refine gw_cVV (a := []) (rest := []) 62 d_X11_mark_59 rfl ml_11_99 v_X11_forget rfl sh_0 rfl rfl rfl (h12.2 c18) (fun m13 h14 => ?_)
          refine gw_iload 64 d_X11_mark_62 rfl rfl ?_
          exact gw_ireturn d_X11_mark_64 (Or.inl rfl) h14
set_option maxRecDepth 100000 in
set_option maxHeartbeats 4000000 in
theorem r_X11_person_0 {d : Nat} {QR : Option gw_SV → gw_Mem → Prop} {Γ : gw_Ga} (x1 : Int) (x2 : Int) (x3 : Int) (m : gw_Mem) (h : gw_CI d M_X11_within [gI x1, gI 0, gI 3] m (fun v1 m2 => ((v1 = 0 → QR (some (gI (-1))) m2) ∧ (¬ (v1 = 0) → gw_CI d M_X11_within [gI x2, gI 1, gI 4] m2 (fun v4 m5 => ((v4 = 0 → QR (some (gI (-1))) m5) ∧ (¬ (v4 = 0) → gw_CI d M_X5_add [gR 18, gI x1, gI x2, gI x3] m5 (fun v7 m8 => ((v7 < 0 → QR (some (gI v7)) m8) ∧ (¬ (v7 < 0) → gw_CV d M_X11_forget [gR 0] m8 (fun m10 => QR (some (gI v7)) m10))))))))))) : gw_G M_X11_person d QR Γ 0 [some (gR 0), some (gI x1), some (gI x2), some (gI x3), none] [] m := by
  refine gw_iload_n 1 d_X11_person_0 rfl rfl ?_
  refine gw_iconst 2 d_X11_person_1 rfl rfl ?_
  refine gw_iconst 3 d_X11_person_2 rfl rfl ?_
  refine gw_cSI (a := [gI x1, gI 0, gI 3]) (rest := []) 6 d_X11_person_3 rfl ml_11_92 v_X11_within rfl rfl rfl h (fun v1 m2 h3 => ?_)
  refine gw_if_eq 18 9 d_X11_person_6 rfl rfl (fun c12 => ?_) (fun c12 => ?_)
  · skip
    refine gw_iconst 19 d_X11_person_18 rfl rfl ?_
    exact gw_ireturn d_X11_person_19 (Or.inl rfl) (h3.1 c12)
  · skip
    refine gw_iload_n 10 d_X11_person_9 rfl rfl ?_
    refine gw_iconst 11 d_X11_person_10 rfl rfl ?_
    refine gw_iconst 12 d_X11_person_11 rfl rfl ?_
    refine gw_cSI (a := [gI x2, gI 1, gI 4]) (rest := []) 15 d_X11_person_12 rfl ml_11_92 v_X11_within rfl rfl rfl (h3.2 c12) (fun v4 m5 h6 => ?_)
    refine gw_if_ne 20 18 d_X11_person_15 rfl rfl (fun c13 => ?_) (fun c13 => ?_)
    · skip
      refine gw_iconst 19 d_X11_person_18 rfl rfl ?_
      exact gw_ireturn d_X11_person_19 (Or.inl rfl) (h6.1 c13)
    · skip
      refine gw_aload_n 21 d_X11_person_20 rfl rfl ?_
      refine gw_getR 24 d_X11_person_21 rfl F_11_10 sh_0 rfl ?_
      refine gw_getR 27 d_X11_person_24 rfl F_11_128 sh_4 rfl ?_
      refine gw_iload_n 28 d_X11_person_27 rfl rfl ?_
      refine gw_iload_n 29 d_X11_person_28 rfl rfl ?_
      refine gw_iload_n 30 d_X11_person_29 rfl rfl ?_
      refine gw_cVI (a := [gI x1, gI x2, gI x3]) (rest := []) 33 d_X11_person_30 rfl ml_11_131 v_X5_add rfl sh_18 rfl rfl rfl (h6.2 c13) (fun v7 m8 h9 => ?_)
      refine gw_istore (ls' := [some (gR 0), some (gI x1), some (gI x2), some (gI x3), some (gI v7)]) 35 d_X11_person_33 rfl rfl rfl rfl ?_
      refine gw_iload 37 d_X11_person_35 rfl rfl ?_
      refine gw_if_lt 44 40 d_X11_person_37 rfl rfl (fun c14 => ?_) (fun c14 => ?_)
      · skip
        refine gw_iload 46 d_X11_person_44 rfl rfl ?_
        exact gw_ireturn d_X11_person_46 (Or.inl rfl) (h9.1 c14)
      · skip
        refine gw_aload_n 41 d_X11_person_40 rfl rfl ?_
        refine gw_cVV (a := []) (rest := []) 44 d_X11_person_41 rfl ml_11_99 v_X11_forget rfl sh_0 rfl rfl rfl (h9.2 c14) (fun m10 h11 => ?_)
        refine gw_iload 46 d_X11_person_44 rfl rfl ?_
        exact gw_ireturn d_X11_person_46 (Or.inl rfl) h11
set_option maxRecDepth 100000 in
set_option maxHeartbeats 4000000 in
theorem r_X11_rule_0 {d : Nat} {QR : Option gw_SV → gw_Mem → Prop} {Γ : gw_Ga} (x1 : Int) (x2 : Int) (m : gw_Mem) (h : gw_CI d M_X11_within [gI x1, gI 0, gI 4] m (fun v1 m2 => ((v1 = 0 → QR (some (gI (-1))) m2) ∧ (¬ (v1 = 0) → gw_in x1 5 ∧ gw_in x1 5 ∧ gw_CI d M_X11_within [gI x2, gI ((gw_sv 2).getD x1.toNat 0), gI ((gw_sv 3).getD x1.toNat 0)] m2 (fun v4 m5 => ((v4 = 0 → QR (some (gI (-1))) m5) ∧ (¬ (v4 = 0) → gw_in x1 5 ∧ gw_in x1 5 ∧ gw_CV d M_X11_forget [gR 0] (gw_up m5 22 x1 x2) (fun m7 => QR (some (gI (m5 22 x1))) m7)))))))) : gw_G M_X11_rule d QR Γ 0 [some (gR 0), some (gI x1), some (gI x2), none] [] m := by
  refine gw_iload_n 1 d_X11_rule_0 rfl rfl ?_
  refine gw_iconst 2 d_X11_rule_1 rfl rfl ?_
  refine gw_iconst 3 d_X11_rule_2 rfl rfl ?_
  refine gw_cSI (a := [gI x1, gI 0, gI 4]) (rest := []) 6 d_X11_rule_3 rfl ml_11_92 v_X11_within rfl rfl rfl h (fun v1 m2 h3 => ?_)
  refine gw_if_eq 26 9 d_X11_rule_6 rfl rfl (fun c9 => ?_) (fun c9 => ?_)
  · skip
    refine gw_iconst 27 d_X11_rule_26 rfl rfl ?_
    exact gw_ireturn d_X11_rule_27 (Or.inl rfl) (h3.1 c9)
  · skip
    refine gw_iload_n 10 d_X11_rule_9 rfl rfl ?_
    refine gw_gets (i := 2) 13 d_X11_rule_10 rfl (by decide) sf_11_148 ?_
    refine gw_iload_n 14 d_X11_rule_13 rfl rfl ?_
    refine gw_ialoadS (i := 2) 15 d_X11_rule_14 rfl (by decide) (h3.2 c9).1 rfl ?_
    refine gw_gets (i := 3) 18 d_X11_rule_15 rfl (by decide) sf_11_151 ?_
    refine gw_iload_n 19 d_X11_rule_18 rfl rfl ?_
    refine gw_ialoadS (i := 3) 20 d_X11_rule_19 rfl (by decide) (h3.2 c9).2.1 rfl ?_
    refine gw_cSI (a := [gI x2, gI ((gw_sv 2).getD x1.toNat 0), gI ((gw_sv 3).getD x1.toNat 0)]) (rest := []) 23 d_X11_rule_20 rfl ml_11_92 v_X11_within rfl rfl rfl (h3.2 c9).2.2 (fun v4 m5 h6 => ?_)
    refine gw_if_ne 28 26 d_X11_rule_23 rfl rfl (fun c10 => ?_) (fun c10 => ?_)
    · skip
      refine gw_iconst 27 d_X11_rule_26 rfl rfl ?_
      exact gw_ireturn d_X11_rule_27 (Or.inl rfl) (h6.1 c10)
    · skip
      refine gw_aload_n 29 d_X11_rule_28 rfl rfl ?_
      refine gw_getR 32 d_X11_rule_29 rfl F_11_10 sh_0 rfl ?_
      refine gw_getR 35 d_X11_rule_32 rfl F_11_154 sh_4 rfl ?_
      refine gw_iload_n 36 d_X11_rule_35 rfl rfl ?_
      refine gw_iaload 37 d_X11_rule_36 rfl sh_22 (h6.2 c10).1 ?_
      refine gw_istore_n (ls' := [some (gR 0), some (gI x1), some (gI x2), some (gI (m5 22 x1))]) 38 d_X11_rule_37 rfl rfl rfl rfl ?_
      refine gw_aload_n 39 d_X11_rule_38 rfl rfl ?_
      refine gw_getR 42 d_X11_rule_39 rfl F_11_10 sh_0 rfl ?_
      refine gw_getR 45 d_X11_rule_42 rfl F_11_154 sh_4 rfl ?_
      refine gw_iload_n 46 d_X11_rule_45 rfl rfl ?_
      refine gw_iload_n 47 d_X11_rule_46 rfl rfl ?_
      refine gw_iastore 48 d_X11_rule_47 rfl sh_22 (h6.2 c10).2.1 ?_
      refine gw_aload_n 49 d_X11_rule_48 rfl rfl ?_
      refine gw_cVV (a := []) (rest := []) 52 d_X11_rule_49 rfl ml_11_99 v_X11_forget rfl sh_0 rfl rfl rfl (h6.2 c10).2.2 (fun m7 h8 => ?_)
      refine gw_iload_n 53 d_X11_rule_52 rfl rfl ?_
      exact gw_ireturn d_X11_rule_53 (Or.inl rfl) h8
set_option maxRecDepth 100000 in
set_option maxHeartbeats 4000000 in
theorem r_X11_fate_0 {d : Nat} {QR : Option gw_SV → gw_Mem → Prop} {Γ : gw_Ga} (x1 : Int) (x2 : Int) (m : gw_Mem) (h : gw_CI d M_X11_isPerson [gR 0, gI x1] m (fun v1 m2 => ((v1 = 0 → QR (some (gI (-1))) m2) ∧ (¬ (v1 = 0) → gw_CI d M_X11_within [gI x2, gI 0, gI 3] m2 (fun v4 m5 => ((v4 = 0 → QR (some (gI (-1))) m5) ∧ (¬ (v4 = 0) → gw_CV d M_X11_goAlong [gR 0] m5 (fun m7 => ((x2 = 0 → gw_in x1 10 ∧ QR (some (gI (m7 79 x1))) m7) ∧ (x2 = 1 → gw_in x1 10 ∧ QR (some (gI (m7 80 x1))) m7) ∧ (x2 = 2 → gw_in x1 10 ∧ QR (some (gI (m7 81 x1))) m7) ∧ ((x2 < 0 ∨ 2 < x2) → gw_in x1 10 ∧ QR (some (gI (m7 82 x1))) m7)))))))))) : gw_G M_X11_fate d QR Γ 0 [some (gR 0), some (gI x1), some (gI x2)] [] m := by
  refine gw_aload_n 1 d_X11_fate_0 rfl rfl ?_
  refine gw_iload_n 2 d_X11_fate_1 rfl rfl ?_
  refine gw_cVI (a := [gI x1]) (rest := []) 5 d_X11_fate_2 rfl ml_11_134 v_X11_isPerson rfl sh_0 rfl rfl rfl h (fun v1 m2 h3 => ?_)
  refine gw_if_eq 17 8 d_X11_fate_5 rfl rfl (fun c9 => ?_) (fun c9 => ?_)
  · skip
    refine gw_iconst 18 d_X11_fate_17 rfl rfl ?_
    exact gw_ireturn d_X11_fate_18 (Or.inl rfl) (h3.1 c9)
  · skip
    refine gw_iload_n 9 d_X11_fate_8 rfl rfl ?_
    refine gw_iconst 10 d_X11_fate_9 rfl rfl ?_
    refine gw_iconst 11 d_X11_fate_10 rfl rfl ?_
    refine gw_cSI (a := [gI x2, gI 0, gI 3]) (rest := []) 14 d_X11_fate_11 rfl ml_11_92 v_X11_within rfl rfl rfl (h3.2 c9) (fun v4 m5 h6 => ?_)
    refine gw_if_ne 19 17 d_X11_fate_14 rfl rfl (fun c10 => ?_) (fun c10 => ?_)
    · skip
      refine gw_iconst 18 d_X11_fate_17 rfl rfl ?_
      exact gw_ireturn d_X11_fate_18 (Or.inl rfl) (h6.1 c10)
    · skip
      refine gw_aload_n 20 d_X11_fate_19 rfl rfl ?_
      refine gw_cVV (a := []) (rest := []) 23 d_X11_fate_20 rfl ml_11_187 v_X11_goAlong rfl sh_0 rfl rfl rfl (h6.2 c10) (fun m7 h8 => ?_)
      refine gw_iload_n 24 d_X11_fate_23 rfl rfl ?_
      refine (Decidable.em (x2 = 0)).elim (fun c11 => ?_) (fun c11 => ?_)
      · refine gw_tswIn (k := 0) 52 d_X11_fate_24 (by omega) (by omega) rfl rfl ?_
        refine gw_aload_n 53 d_X11_fate_52 rfl rfl ?_
        refine gw_getR 56 d_X11_fate_53 rfl F_11_47 sh_0 rfl ?_
        refine gw_getR 59 d_X11_fate_56 rfl F_11_190 sh_65 rfl ?_
        refine gw_iload_n 60 d_X11_fate_59 rfl rfl ?_
        refine gw_iaload 61 d_X11_fate_60 rfl sh_79 (h8.1 c11).1 ?_
        exact gw_ireturn d_X11_fate_61 (Or.inl rfl) (h8.1 c11).2
      refine (Decidable.em (x2 = 1)).elim (fun c12 => ?_) (fun c12 => ?_)
      · refine gw_tswIn (k := 1) 62 d_X11_fate_24 (by omega) (by omega) rfl rfl ?_
        refine gw_aload_n 63 d_X11_fate_62 rfl rfl ?_
        refine gw_getR 66 d_X11_fate_63 rfl F_11_47 sh_0 rfl ?_
        refine gw_getR 69 d_X11_fate_66 rfl F_11_193 sh_65 rfl ?_
        refine gw_iload_n 70 d_X11_fate_69 rfl rfl ?_
        refine gw_iaload 71 d_X11_fate_70 rfl sh_80 (h8.2.1 c12).1 ?_
        exact gw_ireturn d_X11_fate_71 (Or.inl rfl) (h8.2.1 c12).2
      refine (Decidable.em (x2 = 2)).elim (fun c13 => ?_) (fun c13 => ?_)
      · refine gw_tswIn (k := 2) 72 d_X11_fate_24 (by omega) (by omega) rfl rfl ?_
        refine gw_aload_n 73 d_X11_fate_72 rfl rfl ?_
        refine gw_getR 76 d_X11_fate_73 rfl F_11_47 sh_0 rfl ?_
        refine gw_getR 79 d_X11_fate_76 rfl F_11_196 sh_65 rfl ?_
        refine gw_iload_n 80 d_X11_fate_79 rfl rfl ?_
        refine gw_iaload 81 d_X11_fate_80 rfl sh_81 (h8.2.2.1 c13).1 ?_
        exact gw_ireturn d_X11_fate_81 (Or.inl rfl) (h8.2.2.1 c13).2
      have c14 : x2 < 0 ∨ 2 < x2 := by omega
      refine gw_tswOut 82 d_X11_fate_24 c14 rfl ?_
      refine gw_aload_n 83 d_X11_fate_82 rfl rfl ?_
      refine gw_getR 86 d_X11_fate_83 rfl F_11_47 sh_0 rfl ?_
      refine gw_getR 89 d_X11_fate_86 rfl F_11_199 sh_65 rfl ?_
      refine gw_iload_n 90 d_X11_fate_89 rfl rfl ?_
      refine gw_iaload 91 d_X11_fate_90 rfl sh_82 (h8.2.2.2 c14).1 ?_
      exact gw_ireturn d_X11_fate_91 (Or.inl rfl) (h8.2.2.2 c14).2
set_option maxRecDepth 100000 in
set_option maxHeartbeats 4000000 in
theorem r_X11_at_0 {d : Nat} {QR : Option gw_SV → gw_Mem → Prop} {Γ : gw_Ga} (x1 : Int) (x2 : Int) (m : gw_Mem) (hd : 8 ≤ d) (h : gw_CI d M_X11_within [gI x1, gI 0, gI 299] m (fun v1 m2 => ((v1 = 0 → QR (some (gI (-1))) m2) ∧ (¬ (v1 = 0) → gw_CI d M_X11_within [gI x2, gI (-2), gI (gw_w ((m2 18 0) - 1))] m2 (fun v4 m5 => ((v4 = 0 → QR (some (gI (-1))) m5) ∧ (¬ (v4 = 0) → gw_CV d M_X11_goAlong [gR 0] m5 (fun m7 => gw_in (gw_w ((gw_w ((gw_w ((max 0 (min x1 (gw_w ((m7 0 10) - 1)))) * 12)) + x2)) + 2)) 3600 ∧ QR (some (gI (m7 1 (gw_w ((gw_w ((gw_w ((max 0 (min x1 (gw_w ((m7 0 10) - 1)))) * 12)) + x2)) + 2))))) m7)))))))) : gw_G M_X11_at d QR Γ 0 [some (gR 0), some (gI x1), some (gI x2), none] [] m := by
  refine gw_iload_n 1 d_X11_at_0 rfl rfl ?_
  refine gw_iconst 2 d_X11_at_1 rfl rfl ?_
  refine gw_sipush 5 d_X11_at_2 rfl rfl (by decide) ?_
  refine gw_cSI (a := [gI x1, gI 0, gI 299]) (rest := []) 8 d_X11_at_5 rfl ml_11_92 v_X11_within rfl rfl rfl h (fun v1 m2 h3 => ?_)
  refine gw_if_eq 32 11 d_X11_at_8 rfl rfl (fun c9 => ?_) (fun c9 => ?_)
  · skip
    refine gw_iconst 33 d_X11_at_32 rfl rfl ?_
    exact gw_ireturn d_X11_at_33 (Or.inl rfl) (h3.1 c9)
  · skip
    refine gw_iload_n 12 d_X11_at_11 rfl rfl ?_
    refine gw_bipush 14 d_X11_at_12 rfl rfl (by decide) ?_
    refine gw_aload_n 15 d_X11_at_14 rfl rfl ?_
    refine gw_getR 18 d_X11_at_15 rfl F_11_10 sh_0 rfl ?_
    refine gw_getR 21 d_X11_at_18 rfl F_11_128 sh_4 rfl ?_
    refine gw_getI 24 d_X11_at_21 rfl F_11_180 sh_18 rfl (kz := 0) rfl ?_
    refine gw_iconst 25 d_X11_at_24 rfl rfl ?_
    refine gw_isub 26 d_X11_at_25 rfl  ?_
    refine gw_cSI (a := [gI x2, gI (-2), gI (gw_w ((m2 18 0) - 1))]) (rest := []) 29 d_X11_at_26 rfl ml_11_92 v_X11_within rfl rfl rfl (h3.2 c9) (fun v4 m5 h6 => ?_)
    refine gw_if_ne 34 32 d_X11_at_29 rfl rfl (fun c10 => ?_) (fun c10 => ?_)
    · skip
      refine gw_iconst 33 d_X11_at_32 rfl rfl ?_
      exact gw_ireturn d_X11_at_33 (Or.inl rfl) (h6.1 c10)
    · skip
      refine gw_aload_n 35 d_X11_at_34 rfl rfl ?_
      refine gw_cVV (a := []) (rest := []) 38 d_X11_at_35 rfl ml_11_187 v_X11_goAlong rfl sh_0 rfl rfl rfl (h6.2 c10) (fun m7 h8 => ?_)
      refine gw_iconst 39 d_X11_at_38 rfl rfl ?_
      refine gw_iload_n 40 d_X11_at_39 rfl rfl ?_
      refine gw_aload_n 41 d_X11_at_40 rfl rfl ?_
      refine gw_getI 44 d_X11_at_41 rfl F_11_61 sh_0 rfl (kz := 10) rfl ?_
      refine gw_iconst 45 d_X11_at_44 rfl rfl ?_
      refine gw_isub 46 d_X11_at_45 rfl  ?_
      refine gw_min 49 d_X11_at_46 rfl mj_11_202 (gw_d1 hd) rfl rfl ?_
      refine gw_max 52 d_X11_at_49 rfl mj_11_208 (gw_d1 hd) rfl rfl ?_
      refine gw_istore_n (ls' := [some (gR 0), some (gI x1), some (gI x2), some (gI (max 0 (min x1 (gw_w ((m7 0 10) - 1)))))]) 53 d_X11_at_52 rfl rfl rfl rfl ?_
      refine gw_aload_n 54 d_X11_at_53 rfl rfl ?_
      refine gw_getR 57 d_X11_at_54 rfl F_11_57 sh_0 rfl ?_
      refine gw_iload_n 58 d_X11_at_57 rfl rfl ?_
      refine gw_bipush 60 d_X11_at_58 rfl rfl (by decide) ?_
      refine gw_imul 61 d_X11_at_60 rfl  ?_
      refine gw_iload_n 62 d_X11_at_61 rfl rfl ?_
      refine gw_iadd 63 d_X11_at_62 rfl  ?_
      refine gw_iconst 64 d_X11_at_63 rfl rfl ?_
      refine gw_iadd 65 d_X11_at_64 rfl  ?_
      refine gw_iaload 66 d_X11_at_65 rfl sh_1 h8.1 ?_
      exact gw_ireturn d_X11_at_66 (Or.inl rfl) h8.2
set_option maxRecDepth 100000 in
set_option maxHeartbeats 4000000 in
theorem r_X11_all_0 {d : Nat} {QR : Option gw_SV → gw_Mem → Prop} {Γ : gw_Ga} (x1 : Int) (m : gw_Mem) (h : gw_CI d M_X11_within [gI x1, gI 0, gI 5] m (fun v1 m2 => ((v1 = 0 → QR (some (gI (-1))) m2) ∧ (¬ (v1 = 0) → gw_CV d M_X11_goAlong [gR 0] m2 (fun m4 => ((x1 = 0 → gw_CI d M_X10_heardTogether [gR 65] m4 (fun v6 m7 => QR (some (gI v6)) m7)) ∧ (x1 = 1 → gw_CI d M_X10_leastHeard [gR 65] m4 (fun v9 m10 => QR (some (gI v9)) m10)) ∧ (x1 = 2 → QR (some (gI (m4 65 5))) m4) ∧ (x1 = 3 → gw_CI d M_X10_allThere [gR 65] m4 (fun v12 m13 => QR (some (gI v12)) m13)) ∧ (x1 = 4 → QR (some (gI (m4 65 6))) m4) ∧ ((x1 < 0 ∨ 4 < x1) → gw_CI d M_X10_lostSet [gR 65] m4 (fun v15 m16 => QR (some (gI v15)) m16)))))))) : gw_G M_X11_all d QR Γ 0 [some (gR 0), some (gI x1)] [] m := by
  refine gw_iload_n 1 d_X11_all_0 rfl rfl ?_
  refine gw_iconst 2 d_X11_all_1 rfl rfl ?_
  refine gw_iconst 3 d_X11_all_2 rfl rfl ?_
  refine gw_cSI (a := [gI x1, gI 0, gI 5]) (rest := []) 6 d_X11_all_3 rfl ml_11_92 v_X11_within rfl rfl rfl h (fun v1 m2 h3 => ?_)
  refine gw_if_ne 11 9 d_X11_all_6 rfl rfl (fun c18 => ?_) (fun c18 => ?_)
  · skip
    refine gw_iconst 10 d_X11_all_9 rfl rfl ?_
    exact gw_ireturn d_X11_all_10 (Or.inl rfl) (h3.1 c18)
  · skip
    refine gw_aload_n 12 d_X11_all_11 rfl rfl ?_
    refine gw_cVV (a := []) (rest := []) 15 d_X11_all_12 rfl ml_11_187 v_X11_goAlong rfl sh_0 rfl rfl rfl (h3.2 c18) (fun m4 h5 => ?_)
    refine gw_iload_n 16 d_X11_all_15 rfl rfl ?_
    refine (Decidable.em (x1 = 0)).elim (fun c19 => ?_) (fun c19 => ?_)
    · refine gw_tswIn (k := 0) 52 d_X11_all_16 (by omega) (by omega) rfl rfl ?_
      refine gw_aload_n 53 d_X11_all_52 rfl rfl ?_
      refine gw_getR 56 d_X11_all_53 rfl F_11_47 sh_0 rfl ?_
      refine gw_cVI (a := []) (rest := []) 59 d_X11_all_56 rfl ml_11_211 v_X10_heardTogether rfl sh_65 rfl rfl rfl (h5.1 c19) (fun v6 m7 h8 => ?_)
      exact gw_ireturn d_X11_all_59 (Or.inl rfl) h8
    refine (Decidable.em (x1 = 1)).elim (fun c20 => ?_) (fun c20 => ?_)
    · refine gw_tswIn (k := 1) 60 d_X11_all_16 (by omega) (by omega) rfl rfl ?_
      refine gw_aload_n 61 d_X11_all_60 rfl rfl ?_
      refine gw_getR 64 d_X11_all_61 rfl F_11_47 sh_0 rfl ?_
      refine gw_cVI (a := []) (rest := []) 67 d_X11_all_64 rfl ml_11_214 v_X10_leastHeard rfl sh_65 rfl rfl rfl (h5.2.1 c20) (fun v9 m10 h11 => ?_)
      exact gw_ireturn d_X11_all_67 (Or.inl rfl) h11
    refine (Decidable.em (x1 = 2)).elim (fun c21 => ?_) (fun c21 => ?_)
    · refine gw_tswIn (k := 2) 68 d_X11_all_16 (by omega) (by omega) rfl rfl ?_
      refine gw_aload_n 69 d_X11_all_68 rfl rfl ?_
      refine gw_getR 72 d_X11_all_69 rfl F_11_47 sh_0 rfl ?_
      refine gw_getI 75 d_X11_all_72 rfl F_11_217 sh_65 rfl (kz := 5) rfl ?_
      exact gw_ireturn d_X11_all_75 (Or.inl rfl) (h5.2.2.1 c21)
    refine (Decidable.em (x1 = 3)).elim (fun c22 => ?_) (fun c22 => ?_)
    · refine gw_tswIn (k := 3) 76 d_X11_all_16 (by omega) (by omega) rfl rfl ?_
      refine gw_aload_n 77 d_X11_all_76 rfl rfl ?_
      refine gw_getR 80 d_X11_all_77 rfl F_11_47 sh_0 rfl ?_
      refine gw_cVI (a := []) (rest := []) 83 d_X11_all_80 rfl ml_11_220 v_X10_allThere rfl sh_65 rfl rfl rfl (h5.2.2.2.1 c22) (fun v12 m13 h14 => ?_)
      exact gw_ireturn d_X11_all_83 (Or.inl rfl) h14
    refine (Decidable.em (x1 = 4)).elim (fun c23 => ?_) (fun c23 => ?_)
    · refine gw_tswIn (k := 4) 84 d_X11_all_16 (by omega) (by omega) rfl rfl ?_
      refine gw_aload_n 85 d_X11_all_84 rfl rfl ?_
      refine gw_getR 88 d_X11_all_85 rfl F_11_47 sh_0 rfl ?_
      refine gw_getI 91 d_X11_all_88 rfl F_11_223 sh_65 rfl (kz := 6) rfl ?_
      exact gw_ireturn d_X11_all_91 (Or.inl rfl) (h5.2.2.2.2.1 c23)
    have c24 : x1 < 0 ∨ 4 < x1 := by omega
    refine gw_tswOut 92 d_X11_all_16 c24 rfl ?_
    refine gw_aload_n 93 d_X11_all_92 rfl rfl ?_
    refine gw_getR 96 d_X11_all_93 rfl F_11_47 sh_0 rfl ?_
    refine gw_cVI (a := []) (rest := []) 99 d_X11_all_96 rfl ml_11_226 v_X10_lostSet rfl sh_65 rfl rfl rfl (h5.2.2.2.2.2 c24) (fun v15 m16 h17 => ?_)
    exact gw_ireturn d_X11_all_99 (Or.inl rfl) h17
set_option maxRecDepth 100000 in
set_option maxHeartbeats 4000000 in
theorem r_X11_best_0 {d : Nat} {QR : Option gw_SV → gw_Mem → Prop} {Γ : gw_Ga} (x1 : Int) (x2 : Int) (m : gw_Mem) (h : gw_CI d M_X11_within [gI x1, gI 0, gI 299] m (fun v1 m2 => ((v1 = 0 → QR (some (gI (-1))) m2) ∧ (¬ (v1 = 0) → gw_CI d M_X11_within [gI x2, gI 0, gI 3] m2 (fun v4 m5 => ((v4 = 0 → QR (some (gI (-1))) m5) ∧ (¬ (v4 = 0) → ((m5 18 0 = 0 → QR (some (gI (-2))) m5) ∧ (¬ (m5 18 0 = 0) → ((m5 0 12 = x1 → gw_G M_X11_best d QR Γ 56 [some (gR 0), some (gI x1), some (gI x2)] [] m5) ∧ (¬ (m5 0 12 = x1) → gw_CV d M_X11_seekBest [gR 0, gI x1] m5 (fun m7 => gw_G M_X11_best d QR Γ 56 [some (gR 0), some (gI x1), some (gI x2)] [] (gw_up m7 0 12 x1))))))))))))) : gw_G M_X11_best d QR Γ 0 [some (gR 0), some (gI x1), some (gI x2)] [] m := by
  refine gw_iload_n 1 d_X11_best_0 rfl rfl ?_
  refine gw_iconst 2 d_X11_best_1 rfl rfl ?_
  refine gw_sipush 5 d_X11_best_2 rfl rfl (by decide) ?_
  refine gw_cSI (a := [gI x1, gI 0, gI 299]) (rest := []) 8 d_X11_best_5 rfl ml_11_92 v_X11_within rfl rfl rfl h (fun v1 m2 h3 => ?_)
  refine gw_if_eq 20 11 d_X11_best_8 rfl rfl (fun c9 => ?_) (fun c9 => ?_)
  · skip
    refine gw_iconst 21 d_X11_best_20 rfl rfl ?_
    exact gw_ireturn d_X11_best_21 (Or.inl rfl) (h3.1 c9)
  · skip
    refine gw_iload_n 12 d_X11_best_11 rfl rfl ?_
    refine gw_iconst 13 d_X11_best_12 rfl rfl ?_
    refine gw_iconst 14 d_X11_best_13 rfl rfl ?_
    refine gw_cSI (a := [gI x2, gI 0, gI 3]) (rest := []) 17 d_X11_best_14 rfl ml_11_92 v_X11_within rfl rfl rfl (h3.2 c9) (fun v4 m5 h6 => ?_)
    refine gw_if_ne 22 20 d_X11_best_17 rfl rfl (fun c10 => ?_) (fun c10 => ?_)
    · skip
      refine gw_iconst 21 d_X11_best_20 rfl rfl ?_
      exact gw_ireturn d_X11_best_21 (Or.inl rfl) (h6.1 c10)
    · skip
      refine gw_aload_n 23 d_X11_best_22 rfl rfl ?_
      refine gw_getR 26 d_X11_best_23 rfl F_11_10 sh_0 rfl ?_
      refine gw_getR 29 d_X11_best_26 rfl F_11_128 sh_4 rfl ?_
      refine gw_getI 32 d_X11_best_29 rfl F_11_180 sh_18 rfl (kz := 0) rfl ?_
      refine gw_if_ne 38 35 d_X11_best_32 rfl rfl (fun c11 => ?_) (fun c11 => ?_)
      · skip
        refine gw_bipush 37 d_X11_best_35 rfl rfl (by decide) ?_
        exact gw_ireturn d_X11_best_37 (Or.inl rfl) ((h6.2 c10).1 c11)
      · skip
        refine gw_aload_n 39 d_X11_best_38 rfl rfl ?_
        refine gw_getI 42 d_X11_best_39 rfl F_11_68 sh_0 rfl (kz := 12) rfl ?_
        refine gw_iload_n 43 d_X11_best_42 rfl rfl ?_
        refine gw_icmp_eq 56 46 d_X11_best_43 rfl rfl (fun c12 => ?_) (fun c12 => ?_)
        · skip
          exact (((h6.2 c10).2 c11).1 c12)
        · skip
          refine gw_aload_n 47 d_X11_best_46 rfl rfl ?_
          refine gw_iload_n 48 d_X11_best_47 rfl rfl ?_
          refine gw_cVV (a := [gI x1]) (rest := []) 51 d_X11_best_48 rfl ml_11_229 v_X11_seekBest rfl sh_0 rfl rfl rfl (((h6.2 c10).2 c11).2 c12) (fun m7 h8 => ?_)
          refine gw_aload_n 52 d_X11_best_51 rfl rfl ?_
          refine gw_iload_n 53 d_X11_best_52 rfl rfl ?_
          refine gw_putI 56 d_X11_best_53 rfl P_11_68 (Or.inl rfl) sh_0 rfl (kz := 12) rfl ?_
          exact h8
set_option maxRecDepth 100000 in
set_option maxHeartbeats 4000000 in
theorem r_X11_best_56 {d : Nat} {QR : Option gw_SV → gw_Mem → Prop} {Γ : gw_Ga} (x1 : Int) (x2 : Int) (m : gw_Mem) (h : (0 ≤ m 2 3 → gw_in x2 4) ∧ QR (some (gI (if 0 ≤ m 2 3 then m 2 x2 else (-4 : Int)))) m) : gw_G M_X11_best d QR Γ 56 [some (gR 0), some (gI x1), some (gI x2)] [] m := by
  refine gw_aload_n 57 d_X11_best_56 rfl rfl ?_
  refine gw_getR 60 d_X11_best_57 rfl F_11_65 sh_0 rfl ?_
  refine gw_iconst 61 d_X11_best_60 rfl rfl ?_
  refine gw_iaload 62 d_X11_best_61 rfl sh_2 (gw_inN (k := 3) rfl) ?_
  have j13 : gw_G M_X11_best d QR Γ 76 [some (gR 0), some (gI x1), some (gI x2)] [gI (if 0 ≤ m 2 3 then m 2 x2 else (-4 : Int))] m := by
    exact gw_ireturn d_X11_best_76 (Or.inl rfl) h.2
  refine gw_if_ge 70 65 d_X11_best_62 rfl rfl (fun c14 => ?_) (fun c14 => ?_)
  · skip
    refine gw_aload_n 71 d_X11_best_70 rfl rfl ?_
    refine gw_getR 74 d_X11_best_71 rfl F_11_65 sh_0 rfl ?_
    refine gw_iload_n 75 d_X11_best_74 rfl rfl ?_
    refine gw_iaload 76 d_X11_best_75 rfl sh_2 (h.1 c14) ?_
    simpa only [if_pos c14] using j13
  · skip
    refine gw_bipush 67 d_X11_best_65 rfl rfl (by decide) ?_
    refine gw_goto 76 d_X11_best_67 rfl ?_
    simpa only [if_neg c14] using j13
set_option maxRecDepth 100000 in
set_option maxHeartbeats 4000000 in
theorem r_X11_worth_0 {d : Nat} {QR : Option gw_SV → gw_Mem → Prop} {Γ : gw_Ga} (x1 : Int) (m : gw_Mem) (h : gw_CI d M_X11_isPerson [gR 0, gI x1] m (fun v1 m2 => ((v1 = 0 → QR (some (gI (-100001))) m2) ∧ (¬ (v1 = 0) → gw_in x1 10 ∧ (((if m2 19 x1 = 3 then (1 : Int) else (0 : Int)) = 0 → gw_in x1 10 ∧ ((m2 21 x1 = 0 → QR (some (gI (-100002))) m2) ∧ (¬ (m2 21 x1 = 0) → gw_G M_X11_worth d QR Γ 55 [some (gR 0), some (gI x1), some (gI (if m2 19 x1 = 3 then (1 : Int) else (0 : Int))), none] [] m2))) ∧ (¬ ((if m2 19 x1 = 3 then (1 : Int) else (0 : Int)) = 0) → gw_G M_X11_worth d QR Γ 55 [some (gR 0), some (gI x1), some (gI (if m2 19 x1 = 3 then (1 : Int) else (0 : Int))), none] [] m2)))))) : gw_G M_X11_worth d QR Γ 0 [some (gR 0), some (gI x1), none, none] [] m := by
  refine gw_aload_n 1 d_X11_worth_0 rfl rfl ?_
  refine gw_iload_n 2 d_X11_worth_1 rfl rfl ?_
  refine gw_cVI (a := [gI x1]) (rest := []) 5 d_X11_worth_2 rfl ml_11_134 v_X11_isPerson rfl sh_0 rfl rfl rfl h (fun v1 m2 h3 => ?_)
  refine gw_if_ne 11 8 d_X11_worth_5 rfl rfl (fun c21 => ?_) (fun c21 => ?_)
  · skip
    refine gw_ldc 10 d_X11_worth_8 rfl ct_11_233 (n := (-100001)) rfl (by decide) ?_
    exact gw_ireturn d_X11_worth_10 (Or.inl rfl) (h3.1 c21)
  · skip
    refine gw_aload_n 12 d_X11_worth_11 rfl rfl ?_
    refine gw_getR 15 d_X11_worth_12 rfl F_11_10 sh_0 rfl ?_
    refine gw_getR 18 d_X11_worth_15 rfl F_11_128 sh_4 rfl ?_
    refine gw_getR 21 d_X11_worth_18 rfl F_11_138 sh_18 rfl ?_
    refine gw_iload_n 22 d_X11_worth_21 rfl rfl ?_
    refine gw_iaload 23 d_X11_worth_22 rfl sh_19 (h3.2 c21).1 ?_
    refine gw_iconst 24 d_X11_worth_23 rfl rfl ?_
    have j22 : gw_G M_X11_worth d QR Γ 32 [some (gR 0), some (gI x1), none, none] [gI (if m2 19 x1 = 3 then (1 : Int) else (0 : Int))] m2 := by
      refine gw_istore_n (ls' := [some (gR 0), some (gI x1), some (gI (if m2 19 x1 = 3 then (1 : Int) else (0 : Int))), none]) 33 d_X11_worth_32 rfl rfl rfl rfl ?_
      refine gw_iload_n 34 d_X11_worth_33 rfl rfl ?_
      refine gw_if_ne 55 37 d_X11_worth_34 rfl rfl (fun c24 => ?_) (fun c24 => ?_)
      · skip
        refine gw_aload_n 38 d_X11_worth_37 rfl rfl ?_
        refine gw_getR 41 d_X11_worth_38 rfl F_11_10 sh_0 rfl ?_
        refine gw_getR 44 d_X11_worth_41 rfl F_11_128 sh_4 rfl ?_
        refine gw_getR 47 d_X11_worth_44 rfl F_11_144 sh_18 rfl ?_
        refine gw_iload_n 48 d_X11_worth_47 rfl rfl ?_
        refine gw_zaload 49 d_X11_worth_48 rfl sh_21 ((h3.2 c21).2.1 c24).1 ?_
        refine gw_if_ne 55 52 d_X11_worth_49 rfl rfl (fun c25 => ?_) (fun c25 => ?_)
        · skip
          refine gw_ldc 54 d_X11_worth_52 rfl ct_11_234 (n := (-100002)) rfl (by decide) ?_
          exact gw_ireturn d_X11_worth_54 (Or.inl rfl) (((h3.2 c21).2.1 c24).2.1 c25)
        · skip
          exact (((h3.2 c21).2.1 c24).2.2 c25)
      · skip
        exact ((h3.2 c21).2.2 c24)
    refine gw_icmp_ne 31 27 d_X11_worth_24 rfl rfl (fun c23 => ?_) (fun c23 => ?_)
    · skip
      refine gw_iconst 28 d_X11_worth_27 rfl rfl ?_
      refine gw_goto 32 d_X11_worth_28 rfl ?_
      simpa only [if_pos c23] using j22
    · skip
      refine gw_iconst 32 d_X11_worth_31 rfl rfl ?_
      simpa only [if_neg c23] using j22
set_option maxRecDepth 100000 in
set_option maxHeartbeats 4000000 in
theorem r_X11_worth_55 {d : Nat} {QR : Option gw_SV → gw_Mem → Prop} {Γ : gw_Ga} (x1 : Int) (x2 : Int) (y3 : Option gw_SV) (m : gw_Mem) (h : gw_CV d M_X11_goAlong [gR 0] m (fun m4 => gw_CV d M_X10_load [gR 83, gR 4] m4 (fun m6 => ((x2 = 0 → gw_in x1 10 ∧ gw_G M_X11_worth d QR Γ 103 [some (gR 0), some (gI x1), some (gI x2), y3] [] (gw_up m6 92 x1 0)) ∧ (¬ (x2 = 0) → gw_in x1 10 ∧ gw_G M_X11_worth d QR Γ 103 [some (gR 0), some (gI x1), some (gI x2), y3] [] (gw_up m6 90 x1 0)))))) : gw_G M_X11_worth d QR Γ 55 [some (gR 0), some (gI x1), some (gI x2), y3] [] m := by
  refine gw_aload_n 56 d_X11_worth_55 rfl rfl ?_
  refine gw_cVV (a := []) (rest := []) 59 d_X11_worth_56 rfl ml_11_187 v_X11_goAlong rfl sh_0 rfl rfl rfl h (fun m4 h5 => ?_)
  refine gw_aload_n 60 d_X11_worth_59 rfl rfl ?_
  refine gw_getR 63 d_X11_worth_60 rfl F_11_51 sh_0 rfl ?_
  refine gw_aload_n 64 d_X11_worth_63 rfl rfl ?_
  refine gw_getR 67 d_X11_worth_64 rfl F_11_10 sh_0 rfl ?_
  refine gw_cVV (a := [gR 4]) (rest := []) 70 d_X11_worth_67 rfl ml_11_235 v_X10_load rfl sh_83 rfl rfl rfl h5 (fun m6 h7 => ?_)
  refine gw_iload_n 71 d_X11_worth_70 rfl rfl ?_
  refine gw_if_eq 90 74 d_X11_worth_71 rfl rfl (fun c26 => ?_) (fun c26 => ?_)
  · skip
    refine gw_aload_n 91 d_X11_worth_90 rfl rfl ?_
    refine gw_getR 94 d_X11_worth_91 rfl F_11_51 sh_0 rfl ?_
    refine gw_getR 97 d_X11_worth_94 rfl F_11_239 sh_83 rfl ?_
    refine gw_getR 100 d_X11_worth_97 rfl F_11_144 sh_89 rfl ?_
    refine gw_iload_n 101 d_X11_worth_100 rfl rfl ?_
    refine gw_iconst 102 d_X11_worth_101 rfl rfl ?_
    refine gw_zastore 103 d_X11_worth_102 rfl sh_92 (h7.1 c26).1 gw_b0 ?_
    exact (h7.1 c26).2
  · skip
    refine gw_aload_n 75 d_X11_worth_74 rfl rfl ?_
    refine gw_getR 78 d_X11_worth_75 rfl F_11_51 sh_0 rfl ?_
    refine gw_getR 81 d_X11_worth_78 rfl F_11_239 sh_83 rfl ?_
    refine gw_getR 84 d_X11_worth_81 rfl F_11_138 sh_89 rfl ?_
    refine gw_iload_n 85 d_X11_worth_84 rfl rfl ?_
    refine gw_iconst 86 d_X11_worth_85 rfl rfl ?_
    refine gw_iastore 87 d_X11_worth_86 rfl sh_90 (h7.2 c26).1 ?_
    refine gw_goto 103 d_X11_worth_87 rfl ?_
    exact (h7.2 c26).2
set_option maxRecDepth 100000 in
set_option maxHeartbeats 4000000 in
theorem r_X11_worth_103 {d : Nat} {QR : Option gw_SV → gw_Mem → Prop} {Γ : gw_Ga} (x1 : Int) (x2 : Int) (y3 : Option gw_SV) (m : gw_Mem) (h : gw_CV d M_X10_start [gR 83] m (fun m8 => gw_G M_X11_worth d QR Γ 112 [some (gR 0), some (gI x1), some (gI x2), some (gI 0)] [] m8)) : gw_G M_X11_worth d QR Γ 103 [some (gR 0), some (gI x1), some (gI x2), y3] [] m := by
  refine gw_aload_n 104 d_X11_worth_103 rfl rfl ?_
  refine gw_getR 107 d_X11_worth_104 rfl F_11_51 sh_0 rfl ?_
  refine gw_cVV (a := []) (rest := []) 110 d_X11_worth_107 rfl ml_11_240 v_X10_start rfl sh_83 rfl rfl rfl h (fun m8 h9 => ?_)
  refine gw_iconst 111 d_X11_worth_110 rfl rfl ?_
  refine gw_istore_n (ls' := [some (gR 0), some (gI x1), some (gI x2), some (gI 0)]) 112 d_X11_worth_111 rfl rfl rfl rfl ?_
  exact h9
set_option maxRecDepth 100000 in
set_option maxHeartbeats 4000000 in
theorem r_X11_worth_112 {d : Nat} {QR : Option gw_SV → gw_Mem → Prop} {Γ : gw_Ga} (x1 : Int) (x2 : Int) (x3 : Int) (m : gw_Mem) (h : ((300 ≤ x3 → gw_G M_X11_worth d QR Γ 143 [some (gR 0), some (gI x1), some (gI x2), some (gI x3)] [] m) ∧ (¬ (300 ≤ x3) → gw_CI d M_X10_isOver [gR 83] m (fun v10 m11 => ((v10 = 0 → gw_CV d M_X10_live [gR 83, gI x3] m11 (fun m13 => gw_G M_X11_worth d QR Γ 112 [some (gR 0), some (gI x1), some (gI x2), some (gI (gw_w (x3 + 1)))] [] m13)) ∧ (¬ (v10 = 0) → gw_G M_X11_worth d QR Γ 143 [some (gR 0), some (gI x1), some (gI x2), some (gI x3)] [] m11)))))) : gw_G M_X11_worth d QR Γ 112 [some (gR 0), some (gI x1), some (gI x2), some (gI x3)] [] m := by
  refine gw_iload_n 113 d_X11_worth_112 rfl rfl ?_
  refine gw_sipush 116 d_X11_worth_113 rfl rfl (by decide) ?_
  refine gw_icmp_ge 143 119 d_X11_worth_116 rfl rfl (fun c27 => ?_) (fun c27 => ?_)
  · skip
    exact (h.1 c27)
  · skip
    refine gw_aload_n 120 d_X11_worth_119 rfl rfl ?_
    refine gw_getR 123 d_X11_worth_120 rfl F_11_51 sh_0 rfl ?_
    refine gw_cVI (a := []) (rest := []) 126 d_X11_worth_123 rfl ml_11_243 v_X10_isOver rfl sh_83 rfl rfl rfl (h.2 c27) (fun v10 m11 h12 => ?_)
    refine gw_if_ne 143 129 d_X11_worth_126 rfl rfl (fun c28 => ?_) (fun c28 => ?_)
    · skip
      refine gw_aload_n 130 d_X11_worth_129 rfl rfl ?_
      refine gw_getR 133 d_X11_worth_130 rfl F_11_51 sh_0 rfl ?_
      refine gw_iload_n 134 d_X11_worth_133 rfl rfl ?_
      refine gw_cVV (a := [gI x3]) (rest := []) 137 d_X11_worth_134 rfl ml_11_247 v_X10_live rfl sh_83 rfl rfl rfl (h12.1 c28) (fun m13 h14 => ?_)
      refine gw_iinc (ls' := [some (gR 0), some (gI x1), some (gI x2), some (gI (gw_w (x3 + 1)))]) 140 d_X11_worth_137 rfl rfl rfl rfl rfl ?_
      refine gw_goto 112 d_X11_worth_140 rfl ?_
      exact h14
    · skip
      exact (h12.2 c28)
set_option maxRecDepth 100000 in
set_option maxHeartbeats 4000000 in
theorem r_X11_worth_143 {d : Nat} {QR : Option gw_SV → gw_Mem → Prop} {Γ : gw_Ga} (x1 : Int) (x2 : Int) (x3 : Int) (m : gw_Mem) (h : gw_CI d M_X10_heardTogether [gR 65] m (fun v15 m16 => gw_CI d M_X10_heardTogether [gR 83] m16 (fun v18 m19 => QR (some (gI (gw_w (v15 - v18)))) m19))) : gw_G M_X11_worth d QR Γ 143 [some (gR 0), some (gI x1), some (gI x2), some (gI x3)] [] m := by
  refine gw_aload_n 144 d_X11_worth_143 rfl rfl ?_
  refine gw_getR 147 d_X11_worth_144 rfl F_11_47 sh_0 rfl ?_
  refine gw_cVI (a := []) (rest := []) 150 d_X11_worth_147 rfl ml_11_211 v_X10_heardTogether rfl sh_65 rfl rfl rfl h (fun v15 m16 h17 => ?_)
  refine gw_aload_n 151 d_X11_worth_150 rfl rfl ?_
  refine gw_getR 154 d_X11_worth_151 rfl F_11_51 sh_0 rfl ?_
  refine gw_cVI (a := []) (rest := [gI v15]) 157 d_X11_worth_154 rfl ml_11_211 v_X10_heardTogether rfl sh_83 rfl rfl rfl h17 (fun v18 m19 h20 => ?_)
  refine gw_isub 158 d_X11_worth_157 rfl  ?_
  exact gw_ireturn d_X11_worth_158 (Or.inl rfl) h20
set_option maxRecDepth 100000 in
set_option maxHeartbeats 4000000 in
theorem r_X11_chosen_0 {d : Nat} {QR : Option gw_SV → gw_Mem → Prop} {Γ : gw_Ga} (x1 : Int) (x2 : Int) (m : gw_Mem) (h : gw_CI d M_X11_within [gI x1, gI 0, gI 999] m (fun v1 m2 => ((v1 = 0 → QR (some (gI (-1))) m2) ∧ (¬ (v1 = 0) → gw_CI d M_X11_within [gI x2, gI 0, gI 1] m2 (fun v4 m5 => ((v4 = 0 → QR (some (gI (-1))) m5) ∧ (¬ (v4 = 0) → gw_CI d M_X11_cutUp [gI (m5 4 0), gI (m5 22 0)] m5 (fun v7 m8 => ((0 ≤ gw_w (x1 - v7) → gw_G M_X11_chosen d QR Γ 76 [some (gR 0), some (gI x1), some (gI x2), some (gI (gw_w (x1 - v7))), some (gI 0), some (gI 0), some (gI (gw_shl 1 (m8 6 0))), some (gI 1), none] [] m8) ∧ (¬ (0 ≤ gw_w (x1 - v7)) → QR (some (gI (-4))) m8)))))))))) : gw_G M_X11_chosen d QR Γ 0 [some (gR 0), some (gI x1), some (gI x2), none, none, none, none, none, none] [] m := by
  refine gw_iload_n 1 d_X11_chosen_0 rfl rfl ?_
  refine gw_iconst 2 d_X11_chosen_1 rfl rfl ?_
  refine gw_sipush 5 d_X11_chosen_2 rfl rfl (by decide) ?_
  refine gw_cSI (a := [gI x1, gI 0, gI 999]) (rest := []) 8 d_X11_chosen_5 rfl ml_11_92 v_X11_within rfl rfl rfl h (fun v1 m2 h3 => ?_)
  refine gw_if_eq 20 11 d_X11_chosen_8 rfl rfl (fun c13 => ?_) (fun c13 => ?_)
  · skip
    refine gw_iconst 21 d_X11_chosen_20 rfl rfl ?_
    exact gw_ireturn d_X11_chosen_21 (Or.inl rfl) (h3.1 c13)
  · skip
    refine gw_iload_n 12 d_X11_chosen_11 rfl rfl ?_
    refine gw_iconst 13 d_X11_chosen_12 rfl rfl ?_
    refine gw_iconst 14 d_X11_chosen_13 rfl rfl ?_
    refine gw_cSI (a := [gI x2, gI 0, gI 1]) (rest := []) 17 d_X11_chosen_14 rfl ml_11_92 v_X11_within rfl rfl rfl (h3.2 c13) (fun v4 m5 h6 => ?_)
    refine gw_if_ne 22 20 d_X11_chosen_17 rfl rfl (fun c14 => ?_) (fun c14 => ?_)
    · skip
      refine gw_iconst 21 d_X11_chosen_20 rfl rfl ?_
      exact gw_ireturn d_X11_chosen_21 (Or.inl rfl) (h6.1 c14)
    · skip
      refine gw_iload_n 23 d_X11_chosen_22 rfl rfl ?_
      refine gw_aload_n 24 d_X11_chosen_23 rfl rfl ?_
      refine gw_getR 27 d_X11_chosen_24 rfl F_11_10 sh_0 rfl ?_
      refine gw_getI 30 d_X11_chosen_27 rfl F_11_96 sh_4 rfl (kz := 0) rfl ?_
      refine gw_aload_n 31 d_X11_chosen_30 rfl rfl ?_
      refine gw_getR 34 d_X11_chosen_31 rfl F_11_10 sh_0 rfl ?_
      refine gw_getR 37 d_X11_chosen_34 rfl F_11_154 sh_4 rfl ?_
      refine gw_iconst 38 d_X11_chosen_37 rfl rfl ?_
      refine gw_iaload 39 d_X11_chosen_38 rfl sh_22 (gw_inN (k := 0) rfl) ?_
      refine gw_cSI (a := [gI (m5 4 0), gI (m5 22 0)]) (rest := [gI x1]) 42 d_X11_chosen_39 rfl ml_11_250 v_X11_cutUp rfl rfl rfl (h6.2 c14) (fun v7 m8 h9 => ?_)
      refine gw_isub 43 d_X11_chosen_42 rfl  ?_
      refine gw_istore_n (ls' := [some (gR 0), some (gI x1), some (gI x2), some (gI (gw_w (x1 - v7))), none, none, none, none, none]) 44 d_X11_chosen_43 rfl rfl rfl rfl ?_
      refine gw_iload_n 45 d_X11_chosen_44 rfl rfl ?_
      refine gw_if_ge 51 48 d_X11_chosen_45 rfl rfl (fun c15 => ?_) (fun c15 => ?_)
      · skip
        refine gw_iconst 52 d_X11_chosen_51 rfl rfl ?_
        refine gw_istore (ls' := [some (gR 0), some (gI x1), some (gI x2), some (gI (gw_w (x1 - v7))), some (gI 0), none, none, none, none]) 54 d_X11_chosen_52 rfl rfl rfl rfl ?_
        refine gw_iconst 55 d_X11_chosen_54 rfl rfl ?_
        refine gw_istore (ls' := [some (gR 0), some (gI x1), some (gI x2), some (gI (gw_w (x1 - v7))), some (gI 0), some (gI 0), none, none, none]) 57 d_X11_chosen_55 rfl rfl rfl rfl ?_
        refine gw_iconst 58 d_X11_chosen_57 rfl rfl ?_
        refine gw_aload_n 59 d_X11_chosen_58 rfl rfl ?_
        refine gw_getR 62 d_X11_chosen_59 rfl F_11_10 sh_0 rfl ?_
        refine gw_getR 65 d_X11_chosen_62 rfl F_11_108 sh_4 rfl ?_
        refine gw_getR 68 d_X11_chosen_65 rfl F_11_115 sh_5 rfl ?_
        refine gw_iconst 69 d_X11_chosen_68 rfl rfl ?_
        refine gw_iaload 70 d_X11_chosen_69 rfl sh_6 (gw_inN (k := 0) rfl) ?_
        refine gw_ishl 71 d_X11_chosen_70 rfl  ?_
        refine gw_istore (ls' := [some (gR 0), some (gI x1), some (gI x2), some (gI (gw_w (x1 - v7))), some (gI 0), some (gI 0), some (gI (gw_shl 1 (m8 6 0))), none, none]) 73 d_X11_chosen_71 rfl rfl rfl rfl ?_
        refine gw_iconst 74 d_X11_chosen_73 rfl rfl ?_
        refine gw_istore (ls' := [some (gR 0), some (gI x1), some (gI x2), some (gI (gw_w (x1 - v7))), some (gI 0), some (gI 0), some (gI (gw_shl 1 (m8 6 0))), some (gI 1), none]) 76 d_X11_chosen_74 rfl rfl rfl rfl ?_
        exact (h9.1 c15)
      · skip
        refine gw_bipush 50 d_X11_chosen_48 rfl rfl (by decide) ?_
        exact gw_ireturn d_X11_chosen_50 (Or.inl rfl) (h9.2 c15)
set_option maxRecDepth 100000 in
set_option maxHeartbeats 4000000 in
theorem r_X11_chosen_76 {d : Nat} {QR : Option gw_SV → gw_Mem → Prop} {Γ : gw_Ga} (x1 : Int) (x2 : Int) (x3 : Int) (x4 : Int) (x5 : Int) (x6 : Int) (x7 : Int) (y8 : Option gw_SV) (m : gw_Mem) (h : ((x6 ≤ x7 → QR (some (gI (if x2 = 0 then x4 else x5))) m) ∧ (¬ (x6 ≤ x7) → gw_CI d M_X6_valueIfFits [gR 4, gI x7, gI x3] m (fun v10 m11 => gw_G M_X11_chosen d QR Γ 76 [some (gR 0), some (gI x1), some (gI x2), some (gI x3), some (gI (if v10 ≤ x5 then x4 else x7)), some (gI (if v10 ≤ x5 then x5 else v10)), some (gI x6), some (gI (gw_w (x7 + 1))), some (gI v10)] [] m11)))) : gw_G M_X11_chosen d QR Γ 76 [some (gR 0), some (gI x1), some (gI x2), some (gI x3), some (gI x4), some (gI x5), some (gI x6), some (gI x7), y8] [] m := by
  refine gw_iload 78 d_X11_chosen_76 rfl rfl ?_
  refine gw_iload 80 d_X11_chosen_78 rfl rfl ?_
  refine gw_icmp_ge 116 83 d_X11_chosen_80 rfl rfl (fun c16 => ?_) (fun c16 => ?_)
  · skip
    refine gw_iload_n 117 d_X11_chosen_116 rfl rfl ?_
    have j17 : gw_G M_X11_chosen d QR Γ 127 [some (gR 0), some (gI x1), some (gI x2), some (gI x3), some (gI x4), some (gI x5), some (gI x6), some (gI x7), y8] [gI (if x2 = 0 then x4 else x5)] m := by
      exact gw_ireturn d_X11_chosen_127 (Or.inl rfl) (h.1 c16)
    refine gw_if_ne 125 120 d_X11_chosen_117 rfl rfl (fun c18 => ?_) (fun c18 => ?_)
    · skip
      refine gw_iload 122 d_X11_chosen_120 rfl rfl ?_
      refine gw_goto 127 d_X11_chosen_122 rfl ?_
      simpa only [if_pos c18] using j17
    · skip
      refine gw_iload 127 d_X11_chosen_125 rfl rfl ?_
      simpa only [if_neg c18] using j17
  · skip
    refine gw_aload_n 84 d_X11_chosen_83 rfl rfl ?_
    refine gw_getR 87 d_X11_chosen_84 rfl F_11_10 sh_0 rfl ?_
    refine gw_iload 89 d_X11_chosen_87 rfl rfl ?_
    refine gw_iload_n 90 d_X11_chosen_89 rfl rfl ?_
    refine gw_cVI (a := [gI x7, gI x3]) (rest := []) 93 d_X11_chosen_90 rfl ml_11_253 v_X6_valueIfFits rfl sh_4 rfl rfl rfl (h.2 c16) (fun v10 m11 h12 => ?_)
    refine gw_istore (ls' := [some (gR 0), some (gI x1), some (gI x2), some (gI x3), some (gI x4), some (gI x5), some (gI x6), some (gI x7), some (gI v10)]) 95 d_X11_chosen_93 rfl rfl rfl rfl ?_
    refine gw_iload 97 d_X11_chosen_95 rfl rfl ?_
    refine gw_iload 99 d_X11_chosen_97 rfl rfl ?_
    have j19 : gw_G M_X11_chosen d QR Γ 110 [some (gR 0), some (gI x1), some (gI x2), some (gI x3), some (gI (if v10 ≤ x5 then x4 else x7)), some (gI (if v10 ≤ x5 then x5 else v10)), some (gI x6), some (gI x7), some (gI v10)] [] m11 := by
      refine gw_iinc (ls' := [some (gR 0), some (gI x1), some (gI x2), some (gI x3), some (gI (if v10 ≤ x5 then x4 else x7)), some (gI (if v10 ≤ x5 then x5 else v10)), some (gI x6), some (gI (gw_w (x7 + 1))), some (gI v10)]) 113 d_X11_chosen_110 rfl rfl rfl rfl rfl ?_
      refine gw_goto 76 d_X11_chosen_113 rfl ?_
      exact h12
    refine gw_icmp_le 110 102 d_X11_chosen_99 rfl rfl (fun c20 => ?_) (fun c20 => ?_)
    · skip
      simpa only [if_pos c20] using j19
    · skip
      refine gw_iload 104 d_X11_chosen_102 rfl rfl ?_
      refine gw_istore (ls' := [some (gR 0), some (gI x1), some (gI x2), some (gI x3), some (gI x7), some (gI x5), some (gI x6), some (gI x7), some (gI v10)]) 106 d_X11_chosen_104 rfl rfl rfl rfl ?_
      refine gw_iload 108 d_X11_chosen_106 rfl rfl ?_
      refine gw_istore (ls' := [some (gR 0), some (gI x1), some (gI x2), some (gI x3), some (gI x7), some (gI v10), some (gI x6), some (gI x7), some (gI v10)]) 110 d_X11_chosen_108 rfl rfl rfl rfl ?_
      simpa only [if_neg c20] using j19
set_option maxRecDepth 100000 in
set_option maxHeartbeats 4000000 in
theorem r_X11_colours_0 {d : Nat} {QR : Option gw_SV → gw_Mem → Prop} {Γ : gw_Ga} (x1 : Int) (x2 : Int) (x3 : Int) (m : gw_Mem) (h : gw_CI d M_X11_within [gI x1, gI 1, gI 8] m (fun v1 m2 => ((v1 = 0 → QR (some (gI (-1))) m2) ∧ (¬ (v1 = 0) → gw_CI d M_X11_within [gI x3, gI (-1), gI (gw_w (x1 - 1))] m2 (fun v4 m5 => ((v4 = 0 → QR (some (gI (-1))) m5) ∧ (¬ (v4 = 0) → gw_CI d M_X11_arePairs [gI x1, gI x2] m5 (fun v7 m8 => ((v7 = 0 → QR (some (gI (-1))) m8) ∧ (¬ (v7 = 0) → gw_CV d M_X1_load [gR 101, gI x1, gI x2] m8 (fun m10 => gw_CI d M_X1_paint [gR 101] m10 (fun v12 m13 => (0 ≤ x3 → gw_in x3 8) ∧ QR (some (gI (if 0 ≤ x3 then m13 103 x3 else v12))) m13)))))))))))) : gw_G M_X11_colours d QR Γ 0 [some (gR 0), some (gI x1), some (gI x2), some (gI x3), none] [] m := by
  refine gw_iload_n 1 d_X11_colours_0 rfl rfl ?_
  refine gw_iconst 2 d_X11_colours_1 rfl rfl ?_
  refine gw_bipush 4 d_X11_colours_2 rfl rfl (by decide) ?_
  refine gw_cSI (a := [gI x1, gI 1, gI 8]) (rest := []) 7 d_X11_colours_4 rfl ml_11_92 v_X11_within rfl rfl rfl h (fun v1 m2 h3 => ?_)
  refine gw_if_eq 29 10 d_X11_colours_7 rfl rfl (fun c15 => ?_) (fun c15 => ?_)
  · skip
    refine gw_iconst 30 d_X11_colours_29 rfl rfl ?_
    exact gw_ireturn d_X11_colours_30 (Or.inl rfl) (h3.1 c15)
  · skip
    refine gw_iload_n 11 d_X11_colours_10 rfl rfl ?_
    refine gw_iconst 12 d_X11_colours_11 rfl rfl ?_
    refine gw_iload_n 13 d_X11_colours_12 rfl rfl ?_
    refine gw_iconst 14 d_X11_colours_13 rfl rfl ?_
    refine gw_isub 15 d_X11_colours_14 rfl  ?_
    refine gw_cSI (a := [gI x3, gI (-1), gI (gw_w (x1 - 1))]) (rest := []) 18 d_X11_colours_15 rfl ml_11_92 v_X11_within rfl rfl rfl (h3.2 c15) (fun v4 m5 h6 => ?_)
    refine gw_if_eq 29 21 d_X11_colours_18 rfl rfl (fun c16 => ?_) (fun c16 => ?_)
    · skip
      refine gw_iconst 30 d_X11_colours_29 rfl rfl ?_
      exact gw_ireturn d_X11_colours_30 (Or.inl rfl) (h6.1 c16)
    · skip
      refine gw_iload_n 22 d_X11_colours_21 rfl rfl ?_
      refine gw_iload_n 23 d_X11_colours_22 rfl rfl ?_
      refine gw_cSI (a := [gI x1, gI x2]) (rest := []) 26 d_X11_colours_23 rfl ml_11_284 v_X11_arePairs rfl rfl rfl (h6.2 c16) (fun v7 m8 h9 => ?_)
      refine gw_if_ne 31 29 d_X11_colours_26 rfl rfl (fun c17 => ?_) (fun c17 => ?_)
      · skip
        refine gw_iconst 30 d_X11_colours_29 rfl rfl ?_
        exact gw_ireturn d_X11_colours_30 (Or.inl rfl) (h9.1 c17)
      · skip
        refine gw_aload_n 32 d_X11_colours_31 rfl rfl ?_
        refine gw_getR 35 d_X11_colours_32 rfl F_11_74 sh_0 rfl ?_
        refine gw_iload_n 36 d_X11_colours_35 rfl rfl ?_
        refine gw_iload_n 37 d_X11_colours_36 rfl rfl ?_
        refine gw_cVV (a := [gI x1, gI x2]) (rest := []) 40 d_X11_colours_37 rfl ml_11_288 v_X1_load rfl sh_101 rfl rfl rfl (h9.2 c17) (fun m10 h11 => ?_)
        refine gw_aload_n 41 d_X11_colours_40 rfl rfl ?_
        refine gw_getR 44 d_X11_colours_41 rfl F_11_74 sh_0 rfl ?_
        refine gw_cVI (a := []) (rest := []) 47 d_X11_colours_44 rfl ml_11_291 v_X1_paint rfl sh_101 rfl rfl rfl h11 (fun v12 m13 h14 => ?_)
        refine gw_istore (ls' := [some (gR 0), some (gI x1), some (gI x2), some (gI x3), some (gI v12)]) 49 d_X11_colours_47 rfl rfl rfl rfl ?_
        refine gw_iload_n 50 d_X11_colours_49 rfl rfl ?_
        have j18 : gw_G M_X11_colours d QR Γ 67 [some (gR 0), some (gI x1), some (gI x2), some (gI x3), some (gI v12)] [gI (if 0 ≤ x3 then m13 103 x3 else v12)] m13 := by
          exact gw_ireturn d_X11_colours_67 (Or.inl rfl) h14.2
        refine gw_if_ge 58 53 d_X11_colours_50 rfl rfl (fun c19 => ?_) (fun c19 => ?_)
        · skip
          refine gw_aload_n 59 d_X11_colours_58 rfl rfl ?_
          refine gw_getR 62 d_X11_colours_59 rfl F_11_74 sh_0 rfl ?_
          refine gw_getR 65 d_X11_colours_62 rfl F_11_294 sh_101 rfl ?_
          refine gw_iload_n 66 d_X11_colours_65 rfl rfl ?_
          refine gw_iaload 67 d_X11_colours_66 rfl sh_103 (h14.1 c19) ?_
          simpa only [if_pos c19] using j18
        · skip
          refine gw_iload 55 d_X11_colours_53 rfl rfl ?_
          refine gw_goto 67 d_X11_colours_55 rfl ?_
          simpa only [if_neg c19] using j18
set_option maxRecDepth 100000 in
set_option maxHeartbeats 4000000 in
theorem r_X11_image_0 {d : Nat} {QR : Option gw_SV → gw_Mem → Prop} {Γ : gw_Ga} (m : gw_Mem) (h : gw_CV d M_X6_take [gR 25, gR 4] m (fun m1 => QR (some (gI 1)) (gw_up m1 0 2 1))) : gw_G M_X11_image d QR Γ 0 [some (gR 0)] [] m := by
  refine gw_aload_n 1 d_X11_image_0 rfl rfl ?_
  refine gw_getR 4 d_X11_image_1 rfl F_11_16 sh_0 rfl ?_
  refine gw_aload_n 5 d_X11_image_4 rfl rfl ?_
  refine gw_getR 8 d_X11_image_5 rfl F_11_10 sh_0 rfl ?_
  refine gw_cVV (a := [gR 4]) (rest := []) 11 d_X11_image_8 rfl ml_11_297 v_X6_take rfl sh_25 rfl rfl rfl h (fun m1 h2 => ?_)
  refine gw_aload_n 12 d_X11_image_11 rfl rfl ?_
  refine gw_iconst 13 d_X11_image_12 rfl rfl ?_
  refine gw_putI 16 d_X11_image_13 rfl P_11_19 (Or.inr ⟨rfl, gw_b1⟩) sh_0 rfl (kz := 2) rfl ?_
  refine gw_iconst 17 d_X11_image_16 rfl rfl ?_
  exact gw_ireturn d_X11_image_17 (Or.inl rfl) h2
set_option maxRecDepth 100000 in
set_option maxHeartbeats 4000000 in
theorem r_X11_restore_0 {d : Nat} {QR : Option gw_SV → gw_Mem → Prop} {Γ : gw_Ga} (m : gw_Mem) (h : ((m 0 2 = 0 → QR (some (gI (-4))) m) ∧ (¬ (m 0 2 = 0) → gw_CV d M_X6_take [gR 4, gR 25] m (fun m1 => gw_CV d M_X11_forget [gR 0] m1 (fun m3 => QR (some (gI 1)) m3))))) : gw_G M_X11_restore d QR Γ 0 [some (gR 0)] [] m := by
  refine gw_aload_n 1 d_X11_restore_0 rfl rfl ?_
  refine gw_getI 4 d_X11_restore_1 rfl F_11_19 sh_0 rfl (kz := 2) rfl ?_
  refine gw_if_ne 10 7 d_X11_restore_4 rfl rfl (fun c5 => ?_) (fun c5 => ?_)
  · skip
    refine gw_bipush 9 d_X11_restore_7 rfl rfl (by decide) ?_
    exact gw_ireturn d_X11_restore_9 (Or.inl rfl) (h.1 c5)
  · skip
    refine gw_aload_n 11 d_X11_restore_10 rfl rfl ?_
    refine gw_getR 14 d_X11_restore_11 rfl F_11_10 sh_0 rfl ?_
    refine gw_aload_n 15 d_X11_restore_14 rfl rfl ?_
    refine gw_getR 18 d_X11_restore_15 rfl F_11_16 sh_0 rfl ?_
    refine gw_cVV (a := [gR 25]) (rest := []) 21 d_X11_restore_18 rfl ml_11_297 v_X6_take rfl sh_4 rfl rfl rfl (h.2 c5) (fun m1 h2 => ?_)
    refine gw_aload_n 22 d_X11_restore_21 rfl rfl ?_
    refine gw_cVV (a := []) (rest := []) 25 d_X11_restore_22 rfl ml_11_99 v_X11_forget rfl sh_0 rfl rfl rfl h2 (fun m3 h4 => ?_)
    refine gw_iconst 26 d_X11_restore_25 rfl rfl ?_
    exact gw_ireturn d_X11_restore_26 (Or.inl rfl) h4
set_option maxRecDepth 100000 in
set_option maxHeartbeats 4000000 in
theorem r_X11_within_0 {d : Nat} {QR : Option gw_SV → gw_Mem → Prop} {Γ : gw_Ga} (x0 : Int) (x1 : Int) (x2 : Int) (m : gw_Mem) (h : QR (some (gI (if x0 < x1 then (0 : Int) else (if x2 < x0 then (0 : Int) else (1 : Int))))) m) : gw_G M_X11_within d QR Γ 0 [some (gI x0), some (gI x1), some (gI x2)] [] m := by
  refine gw_iload_n 1 d_X11_within_0 rfl rfl ?_
  refine gw_iload_n 2 d_X11_within_1 rfl rfl ?_
  have j1 : gw_G M_X11_within d QR Γ 15 [some (gI x0), some (gI x1), some (gI x2)] [gI (if x0 < x1 then (0 : Int) else (if x2 < x0 then (0 : Int) else (1 : Int)))] m := by
    exact gw_ireturn d_X11_within_15 (Or.inr ⟨rfl, (gw_bi gw_b0 (gw_bi gw_b0 gw_b1))⟩) h
  refine gw_icmp_lt 14 5 d_X11_within_2 rfl rfl (fun c2 => ?_) (fun c2 => ?_)
  · skip
    refine gw_iconst 15 d_X11_within_14 rfl rfl ?_
    simpa only [if_pos c2] using j1
  · skip
    refine gw_iload_n 6 d_X11_within_5 rfl rfl ?_
    refine gw_iload_n 7 d_X11_within_6 rfl rfl ?_
    refine gw_icmp_gt 14 10 d_X11_within_7 rfl rfl (fun c3 => ?_) (fun c3 => ?_)
    · skip
      refine gw_iconst 15 d_X11_within_14 rfl rfl ?_
      simpa only [if_neg c2, if_pos c3] using j1
    · skip
      refine gw_iconst 11 d_X11_within_10 rfl rfl ?_
      refine gw_goto 15 d_X11_within_11 rfl ?_
      simpa only [if_neg c2, if_neg c3] using j1
set_option maxRecDepth 100000 in
set_option maxHeartbeats 4000000 in
theorem r_X11_cutUp_0 {d : Nat} {QR : Option gw_SV → gw_Mem → Prop} {Γ : gw_Ga} (x0 : Int) (x1 : Int) (m : gw_Mem) (h : (¬ (x1 ≤ 0) → x1 ≠ 0) ∧ QR (some (gI (if x1 ≤ 0 then (0 : Int) else gw_w ((gw_w ((gw_w (x0 + x1)) - 1)).tdiv x1)))) m) : gw_G M_X11_cutUp d QR Γ 0 [some (gI x0), some (gI x1)] [] m := by
  refine gw_iload_n 1 d_X11_cutUp_0 rfl rfl ?_
  have j1 : gw_G M_X11_cutUp d QR Γ 15 [some (gI x0), some (gI x1)] [gI (if x1 ≤ 0 then (0 : Int) else gw_w ((gw_w ((gw_w (x0 + x1)) - 1)).tdiv x1))] m := by
    exact gw_ireturn d_X11_cutUp_15 (Or.inl rfl) h.2
  refine gw_if_le 14 4 d_X11_cutUp_1 rfl rfl (fun c2 => ?_) (fun c2 => ?_)
  · skip
    refine gw_iconst 15 d_X11_cutUp_14 rfl rfl ?_
    simpa only [if_pos c2] using j1
  · skip
    refine gw_iload_n 5 d_X11_cutUp_4 rfl rfl ?_
    refine gw_iload_n 6 d_X11_cutUp_5 rfl rfl ?_
    refine gw_iadd 7 d_X11_cutUp_6 rfl  ?_
    refine gw_iconst 8 d_X11_cutUp_7 rfl rfl ?_
    refine gw_isub 9 d_X11_cutUp_8 rfl  ?_
    refine gw_iload_n 10 d_X11_cutUp_9 rfl rfl ?_
    refine gw_idiv 11 d_X11_cutUp_10 rfl (h.1 c2) ?_
    refine gw_goto 15 d_X11_cutUp_11 rfl ?_
    simpa only [if_neg c2] using j1
set_option maxRecDepth 100000 in
set_option maxHeartbeats 4000000 in
theorem r_X11_arePairs_0 {d : Nat} {QR : Option gw_SV → gw_Mem → Prop} {Γ : gw_Ga} (x0 : Int) (x1 : Int) (m : gw_Mem) (h : QR (some (gI (if x1 < 0 then (0 : Int) else (if gw_shr x1 (gw_w ((gw_w (x0 * (gw_w (x0 - 1)))).tdiv 2)) = 0 then (1 : Int) else (0 : Int))))) m) : gw_G M_X11_arePairs d QR Γ 0 [some (gI x0), some (gI x1)] [] m := by
  refine gw_iload_n 1 d_X11_arePairs_0 rfl rfl ?_
  have j1 : gw_G M_X11_arePairs d QR Γ 21 [some (gI x0), some (gI x1)] [gI (if x1 < 0 then (0 : Int) else (if gw_shr x1 (gw_w ((gw_w (x0 * (gw_w (x0 - 1)))).tdiv 2)) = 0 then (1 : Int) else (0 : Int)))] m := by
    exact gw_ireturn d_X11_arePairs_21 (Or.inr ⟨rfl, (gw_bi gw_b0 (gw_bi gw_b1 gw_b0))⟩) h
  refine gw_if_lt 20 4 d_X11_arePairs_1 rfl rfl (fun c2 => ?_) (fun c2 => ?_)
  · skip
    refine gw_iconst 21 d_X11_arePairs_20 rfl rfl ?_
    simpa only [if_pos c2] using j1
  · skip
    refine gw_iload_n 5 d_X11_arePairs_4 rfl rfl ?_
    refine gw_iload_n 6 d_X11_arePairs_5 rfl rfl ?_
    refine gw_iload_n 7 d_X11_arePairs_6 rfl rfl ?_
    refine gw_iconst 8 d_X11_arePairs_7 rfl rfl ?_
    refine gw_isub 9 d_X11_arePairs_8 rfl  ?_
    refine gw_imul 10 d_X11_arePairs_9 rfl  ?_
    refine gw_iconst 11 d_X11_arePairs_10 rfl rfl ?_
    refine gw_idiv 12 d_X11_arePairs_11 rfl (by decide) ?_
    refine gw_ishr 13 d_X11_arePairs_12 rfl  ?_
    refine gw_if_ne 20 16 d_X11_arePairs_13 rfl rfl (fun c3 => ?_) (fun c3 => ?_)
    · skip
      refine gw_iconst 17 d_X11_arePairs_16 rfl rfl ?_
      refine gw_goto 21 d_X11_arePairs_17 rfl ?_
      simpa only [if_neg c2, if_pos c3] using j1
    · skip
      refine gw_iconst 21 d_X11_arePairs_20 rfl rfl ?_
      simpa only [if_neg c2, if_neg c3] using j1
set_option maxRecDepth 100000 in
set_option maxHeartbeats 4000000 in
theorem r_X11_isPerson_0 {d : Nat} {QR : Option gw_SV → gw_Mem → Prop} {Γ : gw_Ga} (x1 : Int) (m : gw_Mem) (h : gw_CI d M_X11_within [gI x1, gI 0, gI (gw_w ((m 18 0) - 1))] m (fun v1 m2 => gw_b v1 ∧ QR (some (gI v1)) m2)) : gw_G M_X11_isPerson d QR Γ 0 [some (gR 0), some (gI x1)] [] m := by
  refine gw_iload_n 1 d_X11_isPerson_0 rfl rfl ?_
  refine gw_iconst 2 d_X11_isPerson_1 rfl rfl ?_
  refine gw_aload_n 3 d_X11_isPerson_2 rfl rfl ?_
  refine gw_getR 6 d_X11_isPerson_3 rfl F_11_10 sh_0 rfl ?_
  refine gw_getR 9 d_X11_isPerson_6 rfl F_11_128 sh_4 rfl ?_
  refine gw_getI 12 d_X11_isPerson_9 rfl F_11_180 sh_18 rfl (kz := 0) rfl ?_
  refine gw_iconst 13 d_X11_isPerson_12 rfl rfl ?_
  refine gw_isub 14 d_X11_isPerson_13 rfl  ?_
  refine gw_cSI (a := [gI x1, gI 0, gI (gw_w ((m 18 0) - 1))]) (rest := []) 17 d_X11_isPerson_14 rfl ml_11_92 v_X11_within rfl rfl rfl h (fun v1 m2 h3 => ?_)
  exact gw_ireturn d_X11_isPerson_17 (Or.inr ⟨rfl, h3.1⟩) h3.2
set_option maxRecDepth 100000 in
set_option maxHeartbeats 4000000 in
theorem r_X11_forget_0 {d : Nat} {QR : Option gw_SV → gw_Mem → Prop} {Γ : gw_Ga} (m : gw_Mem) (h : QR none (gw_up (gw_up m 0 8 0) 0 12 (-1))) : gw_G M_X11_forget d QR Γ 0 [some (gR 0)] [] m := by
  refine gw_aload_n 1 d_X11_forget_0 rfl rfl ?_
  refine gw_iconst 2 d_X11_forget_1 rfl rfl ?_
  refine gw_putI 5 d_X11_forget_2 rfl P_11_54 (Or.inr ⟨rfl, gw_b0⟩) sh_0 rfl (kz := 8) rfl ?_
  refine gw_aload_n 6 d_X11_forget_5 rfl rfl ?_
  refine gw_iconst 7 d_X11_forget_6 rfl rfl ?_
  refine gw_putI 10 d_X11_forget_7 rfl P_11_68 (Or.inl rfl) sh_0 rfl (kz := 12) rfl ?_
  exact gw_return d_X11_forget_10 rfl h
set_option maxRecDepth 100000 in
set_option maxHeartbeats 4000000 in
theorem r_X11_goAlong_0 {d : Nat} {QR : Option gw_SV → gw_Mem → Prop} {Γ : gw_Ga} (m : gw_Mem) (h : ((m 0 8 = 0 → gw_CV d M_X10_load [gR 65, gR 4] m (fun m1 => gw_CV d M_X10_start [gR 65] m1 (fun m3 => gw_G M_X11_goAlong d QR Γ 33 [some (gR 0), some (gI 0)] [] (gw_up m3 0 10 0)))) ∧ (¬ (m 0 8 = 0) → QR none m))) : gw_G M_X11_goAlong d QR Γ 0 [some (gR 0), none] [] m := by
  refine gw_aload_n 1 d_X11_goAlong_0 rfl rfl ?_
  refine gw_getI 4 d_X11_goAlong_1 rfl F_11_54 sh_0 rfl (kz := 8) rfl ?_
  refine gw_if_eq 8 7 d_X11_goAlong_4 rfl rfl (fun c12 => ?_) (fun c12 => ?_)
  · skip
    refine gw_aload_n 9 d_X11_goAlong_8 rfl rfl ?_
    refine gw_getR 12 d_X11_goAlong_9 rfl F_11_47 sh_0 rfl ?_
    refine gw_aload_n 13 d_X11_goAlong_12 rfl rfl ?_
    refine gw_getR 16 d_X11_goAlong_13 rfl F_11_10 sh_0 rfl ?_
    refine gw_cVV (a := [gR 4]) (rest := []) 19 d_X11_goAlong_16 rfl ml_11_235 v_X10_load rfl sh_65 rfl rfl rfl (h.1 c12) (fun m1 h2 => ?_)
    refine gw_aload_n 20 d_X11_goAlong_19 rfl rfl ?_
    refine gw_getR 23 d_X11_goAlong_20 rfl F_11_47 sh_0 rfl ?_
    refine gw_cVV (a := []) (rest := []) 26 d_X11_goAlong_23 rfl ml_11_240 v_X10_start rfl sh_65 rfl rfl rfl h2 (fun m3 h4 => ?_)
    refine gw_aload_n 27 d_X11_goAlong_26 rfl rfl ?_
    refine gw_iconst 28 d_X11_goAlong_27 rfl rfl ?_
    refine gw_putI 31 d_X11_goAlong_28 rfl P_11_61 (Or.inl rfl) sh_0 rfl (kz := 10) rfl ?_
    refine gw_iconst 32 d_X11_goAlong_31 rfl rfl ?_
    refine gw_istore_n (ls' := [some (gR 0), some (gI 0)]) 33 d_X11_goAlong_32 rfl rfl rfl rfl ?_
    exact h4
  · skip
    exact gw_return d_X11_goAlong_7 rfl (h.2 c12)
set_option maxRecDepth 100000 in
set_option maxHeartbeats 4000000 in
theorem r_X11_goAlong_33 {d : Nat} {QR : Option gw_SV → gw_Mem → Prop} {Γ : gw_Ga} (x1 : Int) (m : gw_Mem) (h : ((300 ≤ x1 → gw_G M_X11_goAlong d QR Γ 79 [some (gR 0), some (gI x1)] [] m) ∧ (¬ (300 ≤ x1) → gw_CI d M_X10_isOver [gR 65] m (fun v5 m6 => ((v5 = 0 → gw_CV d M_X10_live [gR 65, gI x1] m6 (fun m8 => gw_CV d M_X11_writeTrail [gR 0, gI (gw_w (x1 * 12))] m8 (fun m10 => gw_G M_X11_goAlong d QR Γ 33 [some (gR 0), some (gI (gw_w (x1 + 1)))] [] (gw_up m10 0 10 (gw_w (x1 + 1)))))) ∧ (¬ (v5 = 0) → gw_G M_X11_goAlong d QR Γ 79 [some (gR 0), some (gI x1)] [] m6)))))) : gw_G M_X11_goAlong d QR Γ 33 [some (gR 0), some (gI x1)] [] m := by
  refine gw_iload_n 34 d_X11_goAlong_33 rfl rfl ?_
  refine gw_sipush 37 d_X11_goAlong_34 rfl rfl (by decide) ?_
  refine gw_icmp_ge 79 40 d_X11_goAlong_37 rfl rfl (fun c13 => ?_) (fun c13 => ?_)
  · skip
    exact (h.1 c13)
  · skip
    refine gw_aload_n 41 d_X11_goAlong_40 rfl rfl ?_
    refine gw_getR 44 d_X11_goAlong_41 rfl F_11_47 sh_0 rfl ?_
    refine gw_cVI (a := []) (rest := []) 47 d_X11_goAlong_44 rfl ml_11_243 v_X10_isOver rfl sh_65 rfl rfl rfl (h.2 c13) (fun v5 m6 h7 => ?_)
    refine gw_if_ne 79 50 d_X11_goAlong_47 rfl rfl (fun c14 => ?_) (fun c14 => ?_)
    · skip
      refine gw_aload_n 51 d_X11_goAlong_50 rfl rfl ?_
      refine gw_getR 54 d_X11_goAlong_51 rfl F_11_47 sh_0 rfl ?_
      refine gw_iload_n 55 d_X11_goAlong_54 rfl rfl ?_
      refine gw_cVV (a := [gI x1]) (rest := []) 58 d_X11_goAlong_55 rfl ml_11_247 v_X10_live rfl sh_65 rfl rfl rfl (h7.1 c14) (fun m8 h9 => ?_)
      refine gw_aload_n 59 d_X11_goAlong_58 rfl rfl ?_
      refine gw_iload_n 60 d_X11_goAlong_59 rfl rfl ?_
      refine gw_bipush 62 d_X11_goAlong_60 rfl rfl (by decide) ?_
      refine gw_imul 63 d_X11_goAlong_62 rfl  ?_
      refine gw_cVV (a := [gI (gw_w (x1 * 12))]) (rest := []) 66 d_X11_goAlong_63 rfl ml_11_342 v_X11_writeTrail rfl sh_0 rfl rfl rfl h9 (fun m10 h11 => ?_)
      refine gw_aload_n 67 d_X11_goAlong_66 rfl rfl ?_
      refine gw_iload_n 68 d_X11_goAlong_67 rfl rfl ?_
      refine gw_iconst 69 d_X11_goAlong_68 rfl rfl ?_
      refine gw_iadd 70 d_X11_goAlong_69 rfl  ?_
      refine gw_putI 73 d_X11_goAlong_70 rfl P_11_61 (Or.inl rfl) sh_0 rfl (kz := 10) rfl ?_
      refine gw_iinc (ls' := [some (gR 0), some (gI (gw_w (x1 + 1)))]) 76 d_X11_goAlong_73 rfl rfl rfl rfl rfl ?_
      refine gw_goto 33 d_X11_goAlong_76 rfl ?_
      exact h11
    · skip
      exact (h7.2 c14)
set_option maxRecDepth 100000 in
set_option maxHeartbeats 4000000 in
theorem r_X11_goAlong_79 {d : Nat} {QR : Option gw_SV → gw_Mem → Prop} {Γ : gw_Ga} (x1 : Int) (m : gw_Mem) (h : QR none (gw_up m 0 8 1)) : gw_G M_X11_goAlong d QR Γ 79 [some (gR 0), some (gI x1)] [] m := by
  refine gw_aload_n 80 d_X11_goAlong_79 rfl rfl ?_
  refine gw_iconst 81 d_X11_goAlong_80 rfl rfl ?_
  refine gw_putI 84 d_X11_goAlong_81 rfl P_11_54 (Or.inr ⟨rfl, gw_b1⟩) sh_0 rfl (kz := 8) rfl ?_
  exact gw_return d_X11_goAlong_84 rfl h
set_option maxRecDepth 100000 in
set_option maxHeartbeats 4000000 in
theorem r_X11_writeTrail_0 {d : Nat} {QR : Option gw_SV → gw_Mem → Prop} {Γ : gw_Ga} (x1 : Int) (m : gw_Mem) (h : gw_CI d M_X10_out [gR 65] m (fun v1 m2 => gw_in x1 3600 ∧ gw_in (gw_w (x1 + 1)) 3600 ∧ gw_G M_X11_writeTrail d QR Γ 30 [some (gR 0), some (gI x1), some (gI 0)] [] (gw_up (gw_up m2 1 x1 v1) 1 (gw_w (x1 + 1)) ((gw_up m2 1 x1 v1) 65 4)))) : gw_G M_X11_writeTrail d QR Γ 0 [some (gR 0), some (gI x1), none] [] m := by
  refine gw_aload_n 1 d_X11_writeTrail_0 rfl rfl ?_
  refine gw_getR 4 d_X11_writeTrail_1 rfl F_11_57 sh_0 rfl ?_
  refine gw_iload_n 5 d_X11_writeTrail_4 rfl rfl ?_
  refine gw_aload_n 6 d_X11_writeTrail_5 rfl rfl ?_
  refine gw_getR 9 d_X11_writeTrail_6 rfl F_11_47 sh_0 rfl ?_
  refine gw_cVI (a := []) (rest := [gI x1, gR 1]) 12 d_X11_writeTrail_9 rfl ml_11_345 v_X10_out rfl sh_65 rfl rfl rfl h (fun v1 m2 h3 => ?_)
  refine gw_iastore 13 d_X11_writeTrail_12 rfl sh_1 h3.1 ?_
  refine gw_aload_n 14 d_X11_writeTrail_13 rfl rfl ?_
  refine gw_getR 17 d_X11_writeTrail_14 rfl F_11_57 sh_0 rfl ?_
  refine gw_iload_n 18 d_X11_writeTrail_17 rfl rfl ?_
  refine gw_iconst 19 d_X11_writeTrail_18 rfl rfl ?_
  refine gw_iadd 20 d_X11_writeTrail_19 rfl  ?_
  refine gw_aload_n 21 d_X11_writeTrail_20 rfl rfl ?_
  refine gw_getR 24 d_X11_writeTrail_21 rfl F_11_47 sh_0 rfl ?_
  refine gw_getI 27 d_X11_writeTrail_24 rfl F_11_348 sh_65 rfl (kz := 4) rfl ?_
  refine gw_iastore 28 d_X11_writeTrail_27 rfl sh_1 h3.2.1 ?_
  refine gw_iconst 29 d_X11_writeTrail_28 rfl rfl ?_
  refine gw_istore_n (ls' := [some (gR 0), some (gI x1), some (gI 0)]) 30 d_X11_writeTrail_29 rfl rfl rfl rfl ?_
  exact h3.2.2
set_option maxRecDepth 100000 in
set_option maxHeartbeats 4000000 in
theorem r_X11_writeTrail_30 {d : Nat} {QR : Option gw_SV → gw_Mem → Prop} {Γ : gw_Ga} (x1 : Int) (x2 : Int) (m : gw_Mem) (h : ((m 71 0 ≤ x2 → QR none m) ∧ (¬ (m 71 0 ≤ x2) → gw_in x2 10 ∧ gw_in (gw_w ((gw_w (x1 + 2)) + x2)) 3600 ∧ gw_G M_X11_writeTrail d QR Γ 30 [some (gR 0), some (gI x1), some (gI (gw_w (x2 + 1)))] [] (gw_up m 1 (gw_w ((gw_w (x1 + 2)) + x2)) (m 77 x2))))) : gw_G M_X11_writeTrail d QR Γ 30 [some (gR 0), some (gI x1), some (gI x2)] [] m := by
  refine gw_iload_n 31 d_X11_writeTrail_30 rfl rfl ?_
  refine gw_aload_n 32 d_X11_writeTrail_31 rfl rfl ?_
  refine gw_getR 35 d_X11_writeTrail_32 rfl F_11_47 sh_0 rfl ?_
  refine gw_getR 38 d_X11_writeTrail_35 rfl F_11_239 sh_65 rfl ?_
  refine gw_getI 41 d_X11_writeTrail_38 rfl F_11_180 sh_71 rfl (kz := 0) rfl ?_
  refine gw_icmp_ge 69 44 d_X11_writeTrail_41 rfl rfl (fun c4 => ?_) (fun c4 => ?_)
  · skip
    exact gw_return d_X11_writeTrail_69 rfl (h.1 c4)
  · skip
    refine gw_aload_n 45 d_X11_writeTrail_44 rfl rfl ?_
    refine gw_getR 48 d_X11_writeTrail_45 rfl F_11_57 sh_0 rfl ?_
    refine gw_iload_n 49 d_X11_writeTrail_48 rfl rfl ?_
    refine gw_iconst 50 d_X11_writeTrail_49 rfl rfl ?_
    refine gw_iadd 51 d_X11_writeTrail_50 rfl  ?_
    refine gw_iload_n 52 d_X11_writeTrail_51 rfl rfl ?_
    refine gw_iadd 53 d_X11_writeTrail_52 rfl  ?_
    refine gw_aload_n 54 d_X11_writeTrail_53 rfl rfl ?_
    refine gw_getR 57 d_X11_writeTrail_54 rfl F_11_47 sh_0 rfl ?_
    refine gw_getR 60 d_X11_writeTrail_57 rfl F_11_351 sh_65 rfl ?_
    refine gw_iload_n 61 d_X11_writeTrail_60 rfl rfl ?_
    refine gw_iaload 62 d_X11_writeTrail_61 rfl sh_77 (h.2 c4).1 ?_
    refine gw_iastore 63 d_X11_writeTrail_62 rfl sh_1 (h.2 c4).2.1 ?_
    refine gw_iinc (ls' := [some (gR 0), some (gI x1), some (gI (gw_w (x2 + 1)))]) 66 d_X11_writeTrail_63 rfl rfl rfl rfl rfl ?_
    refine gw_goto 30 d_X11_writeTrail_66 rfl ?_
    exact (h.2 c4).2.2
set_option maxRecDepth 100000 in
set_option maxHeartbeats 4000000 in
theorem r_X11_seekBest_0 {d : Nat} {QR : Option gw_SV → gw_Mem → Prop} {Γ : gw_Ga} (x1 : Int) (m : gw_Mem) (hd : 8 ≤ d) (h : gw_CV d M_X10_load [gR 83, gR 4] (gw_up m 2 3 (-1)) (fun m1 => gw_CI d M_X6_minutesSpoken [gR 4] m1 (fun v3 m4 => gw_G M_X11_seekBest d QR Γ 49 [some (gR 0), some (gI x1), some (gI v3), some (gI (min 10 (m4 18 0))), some (gI ((gw_sv 2).getD 0 0)), none, none, none] [] m4))) : gw_G M_X11_seekBest d QR Γ 0 [some (gR 0), some (gI x1), none, none, none, none, none, none] [] m := by
  refine gw_aload_n 1 d_X11_seekBest_0 rfl rfl ?_
  refine gw_getR 4 d_X11_seekBest_1 rfl F_11_65 sh_0 rfl ?_
  refine gw_iconst 5 d_X11_seekBest_4 rfl rfl ?_
  refine gw_iconst 6 d_X11_seekBest_5 rfl rfl ?_
  refine gw_iastore 7 d_X11_seekBest_6 rfl sh_2 (gw_inN (k := 3) rfl) ?_
  refine gw_aload_n 8 d_X11_seekBest_7 rfl rfl ?_
  refine gw_getR 11 d_X11_seekBest_8 rfl F_11_51 sh_0 rfl ?_
  refine gw_aload_n 12 d_X11_seekBest_11 rfl rfl ?_
  refine gw_getR 15 d_X11_seekBest_12 rfl F_11_10 sh_0 rfl ?_
  refine gw_cVV (a := [gR 4]) (rest := []) 18 d_X11_seekBest_15 rfl ml_11_235 v_X10_load rfl sh_83 rfl rfl rfl h (fun m1 h2 => ?_)
  refine gw_aload_n 19 d_X11_seekBest_18 rfl rfl ?_
  refine gw_getR 22 d_X11_seekBest_19 rfl F_11_10 sh_0 rfl ?_
  refine gw_cVI (a := []) (rest := []) 25 d_X11_seekBest_22 rfl ml_11_354 v_X6_minutesSpoken rfl sh_4 rfl rfl rfl h2 (fun v3 m4 h5 => ?_)
  refine gw_istore_n (ls' := [some (gR 0), some (gI x1), some (gI v3), none, none, none, none, none]) 26 d_X11_seekBest_25 rfl rfl rfl rfl ?_
  refine gw_bipush 28 d_X11_seekBest_26 rfl rfl (by decide) ?_
  refine gw_aload_n 29 d_X11_seekBest_28 rfl rfl ?_
  refine gw_getR 32 d_X11_seekBest_29 rfl F_11_10 sh_0 rfl ?_
  refine gw_getR 35 d_X11_seekBest_32 rfl F_11_128 sh_4 rfl ?_
  refine gw_getI 38 d_X11_seekBest_35 rfl F_11_180 sh_18 rfl (kz := 0) rfl ?_
  refine gw_min 41 d_X11_seekBest_38 rfl mj_11_202 (gw_d1 hd) rfl rfl ?_
  refine gw_istore_n (ls' := [some (gR 0), some (gI x1), some (gI v3), some (gI (min 10 (m4 18 0))), none, none, none, none]) 42 d_X11_seekBest_41 rfl rfl rfl rfl ?_
  refine gw_gets (i := 2) 45 d_X11_seekBest_42 rfl (by decide) sf_11_148 ?_
  refine gw_iconst 46 d_X11_seekBest_45 rfl rfl ?_
  refine gw_ialoadS (i := 2) 47 d_X11_seekBest_46 rfl (by decide) (gw_inN (k := 0) rfl) rfl ?_
  refine gw_istore (ls' := [some (gR 0), some (gI x1), some (gI v3), some (gI (min 10 (m4 18 0))), some (gI ((gw_sv 2).getD 0 0)), none, none, none]) 49 d_X11_seekBest_47 rfl rfl rfl rfl ?_
  exact h5
set_option maxRecDepth 100000 in
set_option maxHeartbeats 4000000 in
theorem r_X11_seekBest_49 {d : Nat} {QR : Option gw_SV → gw_Mem → Prop} {Γ : gw_Ga} (x1 : Int) (x2 : Int) (x3 : Int) (x4 : Int) (y5 : Option gw_SV) (y6 : Option gw_SV) (y7 : Option gw_SV) (m : gw_Mem) (hd : 8 ≤ d) (h : (((gw_sv 3).getD 0 0 < x4 → QR none m) ∧ (¬ ((gw_sv 3).getD 0 0 < x4) → gw_G M_X11_seekBest d QR Γ 62 [some (gR 0), some (gI x1), some (gI x2), some (gI x3), some (gI x4), some (gI 0), y6, y7] [] m))) : gw_G M_X11_seekBest d QR Γ 49 [some (gR 0), some (gI x1), some (gI x2), some (gI x3), some (gI x4), y5, y6, y7] [] m := by
  refine gw_iload 51 d_X11_seekBest_49 rfl rfl ?_
  refine gw_gets (i := 3) 54 d_X11_seekBest_51 rfl (by decide) sf_11_151 ?_
  refine gw_iconst 55 d_X11_seekBest_54 rfl rfl ?_
  refine gw_ialoadS (i := 3) 56 d_X11_seekBest_55 rfl (by decide) (gw_inN (k := 0) rfl) rfl ?_
  refine gw_icmp_gt 148 59 d_X11_seekBest_56 rfl rfl (fun c13 => ?_) (fun c13 => ?_)
  · skip
    exact gw_return d_X11_seekBest_148 rfl (h.1 c13)
  · skip
    refine gw_iconst 60 d_X11_seekBest_59 rfl rfl ?_
    refine gw_istore (ls' := [some (gR 0), some (gI x1), some (gI x2), some (gI x3), some (gI x4), some (gI 0), y6, y7]) 62 d_X11_seekBest_60 rfl rfl rfl rfl ?_
    exact (h.2 c13)
set_option maxRecDepth 100000 in
set_option maxHeartbeats 4000000 in
theorem r_X11_seekBest_62 {d : Nat} {QR : Option gw_SV → gw_Mem → Prop} {Γ : gw_Ga} (x1 : Int) (x2 : Int) (x3 : Int) (x4 : Int) (x5 : Int) (y6 : Option gw_SV) (y7 : Option gw_SV) (m : gw_Mem) (hd : 8 ≤ d) (h : ((x3 < x5 → gw_G M_X11_seekBest d QR Γ 49 [some (gR 0), some (gI x1), some (gI x2), some (gI x3), some (gI (gw_w (x4 + 1))), some (gI x5), y6, y7] [] m) ∧ (¬ (x3 < x5) → gw_G M_X11_seekBest d QR Γ 71 [some (gR 0), some (gI x1), some (gI x2), some (gI x3), some (gI x4), some (gI x5), some (gI 0), y7] [] m))) : gw_G M_X11_seekBest d QR Γ 62 [some (gR 0), some (gI x1), some (gI x2), some (gI x3), some (gI x4), some (gI x5), y6, y7] [] m := by
  refine gw_iload 64 d_X11_seekBest_62 rfl rfl ?_
  refine gw_iload_n 65 d_X11_seekBest_64 rfl rfl ?_
  refine gw_icmp_gt 142 68 d_X11_seekBest_65 rfl rfl (fun c14 => ?_) (fun c14 => ?_)
  · skip
    refine gw_iinc (ls' := [some (gR 0), some (gI x1), some (gI x2), some (gI x3), some (gI (gw_w (x4 + 1))), some (gI x5), y6, y7]) 145 d_X11_seekBest_142 rfl rfl rfl rfl rfl ?_
    refine gw_goto 49 d_X11_seekBest_145 rfl ?_
    exact (h.1 c14)
  · skip
    refine gw_iconst 69 d_X11_seekBest_68 rfl rfl ?_
    refine gw_istore (ls' := [some (gR 0), some (gI x1), some (gI x2), some (gI x3), some (gI x4), some (gI x5), some (gI 0), y7]) 71 d_X11_seekBest_69 rfl rfl rfl rfl ?_
    exact (h.2 c14)
set_option maxRecDepth 100000 in
set_option maxHeartbeats 4000000 in
theorem r_X11_seekBest_71 {d : Nat} {QR : Option gw_SV → gw_Mem → Prop} {Γ : gw_Ga} (x1 : Int) (x2 : Int) (x3 : Int) (x4 : Int) (x5 : Int) (x6 : Int) (y7 : Option gw_SV) (m : gw_Mem) (hd : 8 ≤ d) (h : ((4 < x6 → gw_G M_X11_seekBest d QR Γ 62 [some (gR 0), some (gI x1), some (gI x2), some (gI x3), some (gI x4), some (gI (gw_w (x5 + 1))), some (gI x6), y7] [] m) ∧ (¬ (4 < x6) → gw_CV d M_X10_takeRule [gR 83, gI x4, gI x5, gI x6] m (fun m6 => gw_CI d M_X10_leastHeardInTime [gR 83, gI x1] m6 (fun v8 m9 => ((v8 ≤ m9 2 3 → gw_G M_X11_seekBest d QR Γ 123 [some (gR 0), some (gI x1), some (gI x2), some (gI x3), some (gI x4), some (gI x5), some (gI x6), some (gI v8)] [] m9) ∧ (¬ (v8 ≤ m9 2 3) → gw_CV d M_X11_noteBest [gR 0, gI x4, gI x5, gI x6, gI v8] m9 (fun m11 => gw_G M_X11_seekBest d QR Γ 123 [some (gR 0), some (gI x1), some (gI x2), some (gI x3), some (gI x4), some (gI x5), some (gI x6), some (gI v8)] [] m11)))))))) : gw_G M_X11_seekBest d QR Γ 71 [some (gR 0), some (gI x1), some (gI x2), some (gI x3), some (gI x4), some (gI x5), some (gI x6), y7] [] m := by
  refine gw_iload 73 d_X11_seekBest_71 rfl rfl ?_
  refine gw_iconst 74 d_X11_seekBest_73 rfl rfl ?_
  refine gw_icmp_gt 136 77 d_X11_seekBest_74 rfl rfl (fun c15 => ?_) (fun c15 => ?_)
  · skip
    refine gw_iinc (ls' := [some (gR 0), some (gI x1), some (gI x2), some (gI x3), some (gI x4), some (gI (gw_w (x5 + 1))), some (gI x6), y7]) 139 d_X11_seekBest_136 rfl rfl rfl rfl rfl ?_
    refine gw_goto 62 d_X11_seekBest_139 rfl ?_
    exact (h.1 c15)
  · skip
    refine gw_aload_n 78 d_X11_seekBest_77 rfl rfl ?_
    refine gw_getR 81 d_X11_seekBest_78 rfl F_11_51 sh_0 rfl ?_
    refine gw_iload 83 d_X11_seekBest_81 rfl rfl ?_
    refine gw_iload 85 d_X11_seekBest_83 rfl rfl ?_
    refine gw_iload 87 d_X11_seekBest_85 rfl rfl ?_
    refine gw_cVV (a := [gI x4, gI x5, gI x6]) (rest := []) 90 d_X11_seekBest_87 rfl ml_11_357 v_X10_takeRule rfl sh_83 rfl rfl rfl (h.2 c15) (fun m6 h7 => ?_)
    refine gw_aload_n 91 d_X11_seekBest_90 rfl rfl ?_
    refine gw_getR 94 d_X11_seekBest_91 rfl F_11_51 sh_0 rfl ?_
    refine gw_iload_n 95 d_X11_seekBest_94 rfl rfl ?_
    refine gw_cVI (a := [gI x1]) (rest := []) 98 d_X11_seekBest_95 rfl ml_11_361 v_X10_leastHeardInTime rfl sh_83 rfl rfl rfl h7 (fun v8 m9 h10 => ?_)
    refine gw_istore (ls' := [some (gR 0), some (gI x1), some (gI x2), some (gI x3), some (gI x4), some (gI x5), some (gI x6), some (gI v8)]) 100 d_X11_seekBest_98 rfl rfl rfl rfl ?_
    refine gw_iload 102 d_X11_seekBest_100 rfl rfl ?_
    refine gw_aload_n 103 d_X11_seekBest_102 rfl rfl ?_
    refine gw_getR 106 d_X11_seekBest_103 rfl F_11_65 sh_0 rfl ?_
    refine gw_iconst 107 d_X11_seekBest_106 rfl rfl ?_
    refine gw_iaload 108 d_X11_seekBest_107 rfl sh_2 (gw_inN (k := 3) rfl) ?_
    refine gw_icmp_le 123 111 d_X11_seekBest_108 rfl rfl (fun c16 => ?_) (fun c16 => ?_)
    · skip
      exact (h10.1 c16)
    · skip
      refine gw_aload_n 112 d_X11_seekBest_111 rfl rfl ?_
      refine gw_iload 114 d_X11_seekBest_112 rfl rfl ?_
      refine gw_iload 116 d_X11_seekBest_114 rfl rfl ?_
      refine gw_iload 118 d_X11_seekBest_116 rfl rfl ?_
      refine gw_iload 120 d_X11_seekBest_118 rfl rfl ?_
      refine gw_cVV (a := [gI x4, gI x5, gI x6, gI v8]) (rest := []) 123 d_X11_seekBest_120 rfl ml_11_365 v_X11_noteBest rfl sh_0 rfl rfl rfl (h10.2 c16) (fun m11 h12 => ?_)
      exact h12
set_option maxRecDepth 100000 in
set_option maxHeartbeats 4000000 in
theorem r_X11_seekBest_123 {d : Nat} {QR : Option gw_SV → gw_Mem → Prop} {Γ : gw_Ga} (x1 : Int) (x2 : Int) (x3 : Int) (x4 : Int) (x5 : Int) (x6 : Int) (x7 : Int) (m : gw_Mem) (hd : 8 ≤ d) (h : ((x7 < x2 → gw_G M_X11_seekBest d QR Γ 71 [some (gR 0), some (gI x1), some (gI x2), some (gI x3), some (gI x4), some (gI x5), some (gI (gw_w (x6 + 1))), some (gI x7)] [] m) ∧ (¬ (x7 < x2) → QR none m))) : gw_G M_X11_seekBest d QR Γ 123 [some (gR 0), some (gI x1), some (gI x2), some (gI x3), some (gI x4), some (gI x5), some (gI x6), some (gI x7)] [] m := by
  refine gw_iload 125 d_X11_seekBest_123 rfl rfl ?_
  refine gw_iload_n 126 d_X11_seekBest_125 rfl rfl ?_
  refine gw_icmp_lt 130 129 d_X11_seekBest_126 rfl rfl (fun c17 => ?_) (fun c17 => ?_)
  · skip
    refine gw_iinc (ls' := [some (gR 0), some (gI x1), some (gI x2), some (gI x3), some (gI x4), some (gI x5), some (gI (gw_w (x6 + 1))), some (gI x7)]) 133 d_X11_seekBest_130 rfl rfl rfl rfl rfl ?_
    refine gw_goto 71 d_X11_seekBest_133 rfl ?_
    exact (h.1 c17)
  · skip
    exact gw_return d_X11_seekBest_129 rfl (h.2 c17)
set_option maxRecDepth 100000 in
set_option maxHeartbeats 4000000 in
theorem r_X11_noteBest_0 {d : Nat} {QR : Option gw_SV → gw_Mem → Prop} {Γ : gw_Ga} (x1 : Int) (x2 : Int) (x3 : Int) (x4 : Int) (m : gw_Mem) (h : QR none (gw_up (gw_up (gw_up (gw_up m 2 0 x1) 2 1 x2) 2 2 x3) 2 3 x4)) : gw_G M_X11_noteBest d QR Γ 0 [some (gR 0), some (gI x1), some (gI x2), some (gI x3), some (gI x4)] [] m := by
  refine gw_aload_n 1 d_X11_noteBest_0 rfl rfl ?_
  refine gw_getR 4 d_X11_noteBest_1 rfl F_11_65 sh_0 rfl ?_
  refine gw_iconst 5 d_X11_noteBest_4 rfl rfl ?_
  refine gw_iload_n 6 d_X11_noteBest_5 rfl rfl ?_
  refine gw_iastore 7 d_X11_noteBest_6 rfl sh_2 (gw_inN (k := 0) rfl) ?_
  refine gw_aload_n 8 d_X11_noteBest_7 rfl rfl ?_
  refine gw_getR 11 d_X11_noteBest_8 rfl F_11_65 sh_0 rfl ?_
  refine gw_iconst 12 d_X11_noteBest_11 rfl rfl ?_
  refine gw_iload_n 13 d_X11_noteBest_12 rfl rfl ?_
  refine gw_iastore 14 d_X11_noteBest_13 rfl sh_2 (gw_inN (k := 1) rfl) ?_
  refine gw_aload_n 15 d_X11_noteBest_14 rfl rfl ?_
  refine gw_getR 18 d_X11_noteBest_15 rfl F_11_65 sh_0 rfl ?_
  refine gw_iconst 19 d_X11_noteBest_18 rfl rfl ?_
  refine gw_iload_n 20 d_X11_noteBest_19 rfl rfl ?_
  refine gw_iastore 21 d_X11_noteBest_20 rfl sh_2 (gw_inN (k := 2) rfl) ?_
  refine gw_aload_n 22 d_X11_noteBest_21 rfl rfl ?_
  refine gw_getR 25 d_X11_noteBest_22 rfl F_11_65 sh_0 rfl ?_
  refine gw_iconst 26 d_X11_noteBest_25 rfl rfl ?_
  refine gw_iload 28 d_X11_noteBest_26 rfl rfl ?_
  refine gw_iastore 29 d_X11_noteBest_28 rfl sh_2 (gw_inN (k := 3) rfl) ?_
  exact gw_return d_X11_noteBest_29 rfl h
