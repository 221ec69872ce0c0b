set_option maxRecDepth 100000 in
set_option maxHeartbeats 4000000 in
theorem r_X13_law_35 {d : Nat} {QR : Option gw_SV → gw_Mem → Prop} {Γ : gw_Ga} (x2 : Int) (x3 : Int) (x4 : Int) (m : gw_Mem) (h : gw_G M_X13_law d QR Γ 41 [some (gR 900), some (gR 0), some (gI x2), some (gI x3), some (gI x4), some (gR 117), some (gI (-1)), some (gI 0), none, none, none, none, none, none, none, none, none, none, none, none] [] m) : gw_G M_X13_law d QR Γ 35 [some (gR 900), some (gR 0), some (gI x2), some (gI x3), some (gI x4), some (gR 117), none, none, none, none, none, none, none, none, none, none, none, none, none, none] [] m := by
  refine gw_iconst 36 d_X13_law_35 rfl rfl ?_
  refine gw_istore (ls' := [some (gR 900), some (gR 0), some (gI x2), some (gI x3), some (gI x4), some (gR 117), some (gI (-1)), none, none, none, none, none, none, none, none, none, none, none, none, none]) 38 d_X13_law_36 rfl rfl rfl rfl ?_
  refine gw_iconst 39 d_X13_law_38 rfl rfl ?_
  refine gw_istore (ls' := [some (gR 900), some (gR 0), some (gI x2), some (gI x3), some (gI x4), some (gR 117), some (gI (-1)), some (gI 0), none, none, none, none, none, none, none, none, none, none, none, none]) 41 d_X13_law_39 rfl rfl rfl rfl ?_
  exact h
set_option maxRecDepth 100000 in
set_option maxHeartbeats 4000000 in
theorem r_X13_law_41 {d : Nat} {QR : Option gw_SV → gw_Mem → Prop} {Γ : gw_Ga} (x2 : Int) (x3 : Int) (x4 : Int) (x6 : Int) (x7 : Int) (y8 : Option gw_SV) (y9 : Option gw_SV) (y10 : Option gw_SV) (y11 : Option gw_SV) (y12 : Option gw_SV) (y13 : Option gw_SV) (y14 : Option gw_SV) (y15 : Option gw_SV) (y16 : Option gw_SV) (y17 : Option gw_SV) (y18 : Option gw_SV) (y19 : Option gw_SV) (m : gw_Mem) (h : ((x3 ≤ x7 → gw_G M_X13_law d QR Γ 80 [some (gR 900), some (gR 0), some (gI x2), some (gI x3), some (gI x4), some (gR 117), some (gI x6), some (gI (-4)), some (gI 0), y9, y10, y11, y12, y13, y14, y15, y16, y17, y18, y19] [] m) ∧ (¬ (x3 ≤ x7) → gw_CIx Γ d M_X13_one [gR 900, gI x7, gI 0] m (fun v1 m2 => gw_G M_X13_law d QR Γ 41 [some (gR 900), some (gR 0), some (gI x2), some (gI x3), some (gI x4), some (gR 117), some (gI (if v1 = 3 then x7 else x6)), some (gI (gw_w (x7 + 1))), y8, y9, y10, y11, y12, y13, y14, y15, y16, y17, y18, y19] [] m2)))) : gw_G M_X13_law d QR Γ 41 [some (gR 900), some (gR 0), some (gI x2), some (gI x3), some (gI x4), some (gR 117), some (gI x6), some (gI x7), y8, y9, y10, y11, y12, y13, y14, y15, y16, y17, y18, y19] [] m := by
  refine gw_iload 43 d_X13_law_41 rfl rfl ?_
  refine gw_iload_n 44 d_X13_law_43 rfl rfl ?_
  refine gw_icmp_ge 73 47 d_X13_law_44 rfl rfl (fun c190 => ?_) (fun c190 => ?_)
  · skip
    refine gw_bipush 75 d_X13_law_73 rfl rfl (by decide) ?_
    refine gw_istore (ls' := [some (gR 900), some (gR 0), some (gI x2), some (gI x3), some (gI x4), some (gR 117), some (gI x6), some (gI (-4)), y8, y9, y10, y11, y12, y13, y14, y15, y16, y17, y18, y19]) 77 d_X13_law_75 rfl rfl rfl rfl ?_
    refine gw_iconst 78 d_X13_law_77 rfl rfl ?_
    refine gw_istore (ls' := [some (gR 900), some (gR 0), some (gI x2), some (gI x3), some (gI x4), some (gR 117), some (gI x6), some (gI (-4)), some (gI 0), y9, y10, y11, y12, y13, y14, y15, y16, y17, y18, y19]) 80 d_X13_law_78 rfl rfl rfl rfl ?_
    exact (h.1 c190)
  · skip
    refine gw_aload_n 48 d_X13_law_47 rfl rfl ?_
    refine gw_iload 50 d_X13_law_48 rfl rfl ?_
    refine gw_iconst 51 d_X13_law_50 rfl rfl ?_
    refine gw_cSIx (a := [gR 900, gI x7, gI 0]) (rest := []) 54 d_X13_law_51 rfl ml_13_43 v_X13_one rfl rfl rfl (h.2 c190) (fun v1 m2 h3 => ?_)
    refine gw_iconst 55 d_X13_law_54 rfl rfl ?_
    have j191 : gw_G M_X13_law d QR Γ 65 [some (gR 900), some (gR 0), some (gI x2), some (gI x3), some (gI x4), some (gR 117), some (gI x6), some (gI x7), y8, y9, y10, y11, y12, y13, y14, y15, y16, y17, y18, y19] [gI (if v1 = 3 then x7 else x6)] m2 := by
      refine gw_istore (ls' := [some (gR 900), some (gR 0), some (gI x2), some (gI x3), some (gI x4), some (gR 117), some (gI (if v1 = 3 then x7 else x6)), some (gI x7), y8, y9, y10, y11, y12, y13, y14, y15, y16, y17, y18, y19]) 67 d_X13_law_65 rfl rfl rfl rfl ?_
      refine gw_iinc (ls' := [some (gR 900), some (gR 0), some (gI x2), some (gI x3), some (gI x4), some (gR 117), some (gI (if v1 = 3 then x7 else x6)), some (gI (gw_w (x7 + 1))), y8, y9, y10, y11, y12, y13, y14, y15, y16, y17, y18, y19]) 70 d_X13_law_67 rfl rfl rfl rfl rfl ?_
      refine gw_goto 41 d_X13_law_70 rfl ?_
      exact h3
    refine gw_icmp_ne 63 58 d_X13_law_55 rfl rfl (fun c192 => ?_) (fun c192 => ?_)
    · skip
      refine gw_iload 60 d_X13_law_58 rfl rfl ?_
      refine gw_goto 65 d_X13_law_60 rfl ?_
      simpa only [if_pos c192] using j191
    · skip
      refine gw_iload 65 d_X13_law_63 rfl rfl ?_
      simpa only [if_neg c192] using j191
set_option maxRecDepth 100000 in
set_option maxHeartbeats 4000000 in
theorem r_X13_law_80 {d : Nat} {QR : Option gw_SV → gw_Mem → Prop} {Γ : gw_Ga} (x2 : Int) (x3 : Int) (x4 : Int) (x6 : Int) (x7 : Int) (x8 : Int) (y9 : Option gw_SV) (y10 : Option gw_SV) (y11 : Option gw_SV) (y12 : Option gw_SV) (y13 : Option gw_SV) (y14 : Option gw_SV) (y15 : Option gw_SV) (y16 : Option gw_SV) (y17 : Option gw_SV) (y18 : Option gw_SV) (y19 : Option gw_SV) (m : gw_Mem) (h : ((60 ≤ x8 → gw_G M_X13_law d QR Γ 367 [some (gR 900), some (gR 0), some (gI x2), some (gI x3), some (gI x4), some (gR 117), some (gI x6), some (gI x7), some (gI x8), y9, y10, y11, y12, y13, y14, y15, y16, y17, y18, y19] [] m) ∧ (¬ (60 ≤ x8) → ((x2 = 0 → gw_G M_X13_law d QR Γ 367 [some (gR 900), some (gR 0), some (gI x2), some (gI x3), some (gI x4), some (gR 117), some (gI x6), some (gI x7), some (gI x8), y9, y10, y11, y12, y13, y14, y15, y16, y17, y18, y19] [] m) ∧ (¬ (x2 = 0) → gw_CIx Γ d M_X11_at [gR 0, gI x8, gI (-1)] m (fun v4 m5 => gp_W Γ 7 ∧ ((v4 < m5 117 7 → gw_G M_X13_law d QR Γ 143 [some (gR 900), some (gR 0), some (gI x2), some (gI x3), some (gI x4), some (gR 117), some (gI x6), some (gI x7), some (gI x8), some (gI v4), some (gI 1000), y11, y12, y13, y14, y15, y16, y17, y18, y19] [gI 0] m5) ∧ (¬ (v4 < m5 117 7) → gp_W Γ 7 ∧ gw_CIx Γ d M_X13_rule [gR 900, gI 0] m5 (fun v7 m8 => gw_G M_X13_law d QR Γ 143 [some (gR 900), some (gR 0), some (gI x2), some (gI x3), some (gI x4), some (gR 117), some (gI x6), some (gI x7), some (gI x8), some (gI v4), some (gI 1000), y11, y12, y13, y14, y15, y16, y17, y18, y19] [gI (if v7 < gw_w (v4 - (m5 117 7)) then (0 : Int) else (if x4 < v4 then (0 : Int) else (1 : Int)))] m8))))))))) : gw_G M_X13_law d QR Γ 80 [some (gR 900), some (gR 0), some (gI x2), some (gI x3), some (gI x4), some (gR 117), some (gI x6), some (gI x7), some (gI x8), y9, y10, y11, y12, y13, y14, y15, y16, y17, y18, y19] [] m := by
  refine gw_iload 82 d_X13_law_80 rfl rfl ?_
  refine gw_bipush 84 d_X13_law_82 rfl rfl (by decide) ?_
  refine gw_icmp_ge 367 87 d_X13_law_84 rfl rfl (fun c193 => ?_) (fun c193 => ?_)
  · skip
    exact (h.1 c193)
  · skip
    refine gw_iload_n 88 d_X13_law_87 rfl rfl ?_
    refine gw_if_eq 367 91 d_X13_law_88 rfl rfl (fun c194 => ?_) (fun c194 => ?_)
    · skip
      exact ((h.2 c193).1 c194)
    · skip
      refine gw_aload_n 92 d_X13_law_91 rfl rfl ?_
      refine gw_iload 94 d_X13_law_92 rfl rfl ?_
      refine gw_iconst 95 d_X13_law_94 rfl rfl ?_
      refine gw_cVIx (a := [gI x8, gI (-1)]) (rest := []) 98 d_X13_law_95 rfl ml_13_56 v_X11_at rfl sh_0 rfl rfl rfl ((h.2 c193).2 c194) (fun v4 m5 h6 => ?_)
      refine gw_istore (ls' := [some (gR 900), some (gR 0), some (gI x2), some (gI x3), some (gI x4), some (gR 117), some (gI x6), some (gI x7), some (gI x8), some (gI v4), y10, y11, y12, y13, y14, y15, y16, y17, y18, y19]) 100 d_X13_law_98 rfl rfl rfl rfl ?_
      refine gw_sipush 103 d_X13_law_100 rfl rfl (by decide) ?_
      refine gw_istore (ls' := [some (gR 900), some (gR 0), some (gI x2), some (gI x3), some (gI x4), some (gR 117), some (gI x6), some (gI x7), some (gI x8), some (gI v4), some (gI 1000), y11, y12, y13, y14, y15, y16, y17, y18, y19]) 105 d_X13_law_103 rfl rfl rfl rfl ?_
      refine gw_iload 107 d_X13_law_105 rfl rfl ?_
      refine gw_aload 109 d_X13_law_107 rfl rfl ?_
      refine gw_bipush 111 d_X13_law_109 rfl rfl (by decide) ?_
      refine gw_wload 112 d_X13_law_111 rfl h6.1 ?_
      refine gw_icmp_lt 142 115 d_X13_law_112 rfl rfl (fun c195 => ?_) (fun c195 => ?_)
      · skip
        refine gw_iconst 143 d_X13_law_142 rfl rfl ?_
        exact (h6.2.1 c195)
      · skip
        refine gw_iload 117 d_X13_law_115 rfl rfl ?_
        refine gw_aload 119 d_X13_law_117 rfl rfl ?_
        refine gw_bipush 121 d_X13_law_119 rfl rfl (by decide) ?_
        refine gw_wload 122 d_X13_law_121 rfl (h6.2.2 c195).1 ?_
        refine gw_isub 123 d_X13_law_122 rfl  ?_
        refine gw_aload_n 124 d_X13_law_123 rfl rfl ?_
        refine gw_iconst 125 d_X13_law_124 rfl rfl ?_
        refine gw_cSIx (a := [gR 900, gI 0]) (rest := [gI (gw_w (v4 - (m5 117 7)))]) 128 d_X13_law_125 rfl ml_13_34 v_X13_rule rfl rfl rfl (h6.2.2 c195).2 (fun v7 m8 h9 => ?_)
        have j196 : gw_G M_X13_law d QR Γ 143 [some (gR 900), some (gR 0), some (gI x2), some (gI x3), some (gI x4), some (gR 117), some (gI x6), some (gI x7), some (gI x8), some (gI v4), some (gI 1000), y11, y12, y13, y14, y15, y16, y17, y18, y19] [gI (if v7 < gw_w (v4 - (m5 117 7)) then (0 : Int) else (if x4 < v4 then (0 : Int) else (1 : Int)))] m8 := by
          exact h9
        refine gw_icmp_gt 142 131 d_X13_law_128 rfl rfl (fun c197 => ?_) (fun c197 => ?_)
        · skip
          refine gw_iconst 143 d_X13_law_142 rfl rfl ?_
          simpa only [if_pos c197] using j196
        · skip
          refine gw_iload 133 d_X13_law_131 rfl rfl ?_
          refine gw_iload 135 d_X13_law_133 rfl rfl ?_
          refine gw_icmp_gt 142 138 d_X13_law_135 rfl rfl (fun c198 => ?_) (fun c198 => ?_)
          · skip
            refine gw_iconst 143 d_X13_law_142 rfl rfl ?_
            simpa only [if_neg c197, if_pos c198] using j196
          · skip
            refine gw_iconst 139 d_X13_law_138 rfl rfl ?_
            refine gw_goto 143 d_X13_law_139 rfl ?_
            simpa only [if_neg c197, if_neg c198] using j196
set_option maxRecDepth 100000 in
set_option maxHeartbeats 4000000 in
theorem r_X13_law_143 {d : Nat} {QR : Option gw_SV → gw_Mem → Prop} {Γ : gw_Ga} (x2 : Int) (x3 : Int) (x4 : Int) (x6 : Int) (x7 : Int) (x8 : Int) (x9 : Int) (x10 : Int) (y11 : Option gw_SV) (y12 : Option gw_SV) (y13 : Option gw_SV) (y14 : Option gw_SV) (y15 : Option gw_SV) (y16 : Option gw_SV) (y17 : Option gw_SV) (y18 : Option gw_SV) (y19 : Option gw_SV) (z0 : Int) (m : gw_Mem) (h : gw_G M_X13_law d QR Γ 147 [some (gR 900), some (gR 0), some (gI z0), some (gI x3), some (gI x4), some (gR 117), some (gI x6), some (gI x7), some (gI x8), some (gI x9), some (gI x10), some (gI 0), y12, y13, y14, y15, y16, y17, y18, y19] [] m) : gw_G M_X13_law d QR Γ 143 [some (gR 900), some (gR 0), some (gI x2), some (gI x3), some (gI x4), some (gR 117), some (gI x6), some (gI x7), some (gI x8), some (gI x9), some (gI x10), y11, y12, y13, y14, y15, y16, y17, y18, y19] [gI z0] m := by
  refine gw_istore_n (ls' := [some (gR 900), some (gR 0), some (gI z0), some (gI x3), some (gI x4), some (gR 117), some (gI x6), some (gI x7), some (gI x8), some (gI x9), some (gI x10), y11, y12, y13, y14, y15, y16, y17, y18, y19]) 144 d_X13_law_143 rfl rfl rfl rfl ?_
  refine gw_iconst 145 d_X13_law_144 rfl rfl ?_
  refine gw_istore (ls' := [some (gR 900), some (gR 0), some (gI z0), some (gI x3), some (gI x4), some (gR 117), some (gI x6), some (gI x7), some (gI x8), some (gI x9), some (gI x10), some (gI 0), y12, y13, y14, y15, y16, y17, y18, y19]) 147 d_X13_law_145 rfl rfl rfl rfl ?_
  exact h
set_option maxRecDepth 100000 in
set_option maxHeartbeats 4000000 in
theorem r_X13_law_147 {d : Nat} {QR : Option gw_SV → gw_Mem → Prop} {Γ : gw_Ga} (x2 : Int) (x3 : Int) (x4 : Int) (x6 : Int) (x7 : Int) (x8 : Int) (x9 : Int) (x10 : Int) (x11 : Int) (y12 : Option gw_SV) (y13 : Option gw_SV) (y14 : Option gw_SV) (y15 : Option gw_SV) (y16 : Option gw_SV) (y17 : Option gw_SV) (y18 : Option gw_SV) (y19 : Option gw_SV) (m : gw_Mem) (h : ((x3 ≤ x11 → gw_G M_X13_law d QR Γ 299 [some (gR 900), some (gR 0), some (gI x2), some (gI x3), some (gI x4), some (gR 117), some (gI x6), some (gI x7), some (gI x8), some (gI x9), some (gI x10), some (gI x11), y12, y13, y14, y15, y16, y17, y18, y19] [] m) ∧ (¬ (x3 ≤ x11) → ((x2 = 0 → gw_G M_X13_law d QR Γ 299 [some (gR 900), some (gR 0), some (gI x2), some (gI x3), some (gI x4), some (gR 117), some (gI x6), some (gI x7), some (gI x8), some (gI x9), some (gI x10), some (gI x11), y12, y13, y14, y15, y16, y17, y18, y19] [] m) ∧ (¬ (x2 = 0) → gw_CIx Γ d M_X11_at [gR 0, gI x8, gI x11] m (fun v10 m11 => gw_CIx Γ d M_X11_fate [gR 0, gI x11, gI 3] m11 (fun v13 m14 => ((v13 < 0 → gw_G M_X13_law d QR Γ 194 [some (gR 900), some (gR 0), some (gI x2), some (gI x3), some (gI x4), some (gR 117), some (gI x6), some (gI x7), some (gI x8), some (gI x9), some (gI x10), some (gI x11), some (gI v10), y13, y14, y15, y16, y17, y18, y19] [gI 0] m14) ∧ (¬ (v13 < 0) → gw_CIx Γ d M_X11_fate [gR 0, gI x11, gI 3] m14 (fun v16 m17 => gw_G M_X13_law d QR Γ 194 [some (gR 900), some (gR 0), some (gI x2), some (gI x3), some (gI x4), some (gR 117), some (gI x6), some (gI x7), some (gI x8), some (gI x9), some (gI x10), some (gI x11), some (gI v10), y13, y14, y15, y16, y17, y18, y19] [gI (if v16 = v10 then (1 : Int) else (0 : Int))] m17)))))))))) : gw_G M_X13_law d QR Γ 147 [some (gR 900), some (gR 0), some (gI x2), some (gI x3), some (gI x4), some (gR 117), some (gI x6), some (gI x7), some (gI x8), some (gI x9), some (gI x10), some (gI x11), y12, y13, y14, y15, y16, y17, y18, y19] [] m := by
  refine gw_iload 149 d_X13_law_147 rfl rfl ?_
  refine gw_iload_n 150 d_X13_law_149 rfl rfl ?_
  refine gw_icmp_ge 299 153 d_X13_law_150 rfl rfl (fun c199 => ?_) (fun c199 => ?_)
  · skip
    exact (h.1 c199)
  · skip
    refine gw_iload_n 154 d_X13_law_153 rfl rfl ?_
    refine gw_if_eq 299 157 d_X13_law_154 rfl rfl (fun c200 => ?_) (fun c200 => ?_)
    · skip
      exact ((h.2 c199).1 c200)
    · skip
      refine gw_aload_n 158 d_X13_law_157 rfl rfl ?_
      refine gw_iload 160 d_X13_law_158 rfl rfl ?_
      refine gw_iload 162 d_X13_law_160 rfl rfl ?_
      refine gw_cVIx (a := [gI x8, gI x11]) (rest := []) 165 d_X13_law_162 rfl ml_13_56 v_X11_at rfl sh_0 rfl rfl rfl ((h.2 c199).2 c200) (fun v10 m11 h12 => ?_)
      refine gw_istore (ls' := [some (gR 900), some (gR 0), some (gI x2), some (gI x3), some (gI x4), some (gR 117), some (gI x6), some (gI x7), some (gI x8), some (gI x9), some (gI x10), some (gI x11), some (gI v10), y13, y14, y15, y16, y17, y18, y19]) 167 d_X13_law_165 rfl rfl rfl rfl ?_
      refine gw_aload_n 168 d_X13_law_167 rfl rfl ?_
      refine gw_iload 170 d_X13_law_168 rfl rfl ?_
      refine gw_iconst 171 d_X13_law_170 rfl rfl ?_
      refine gw_cVIx (a := [gI x11, gI 3]) (rest := []) 174 d_X13_law_171 rfl ml_13_59 v_X11_fate rfl sh_0 rfl rfl rfl h12 (fun v13 m14 h15 => ?_)
      refine gw_if_lt 193 177 d_X13_law_174 rfl rfl (fun c201 => ?_) (fun c201 => ?_)
      · skip
        refine gw_iconst 194 d_X13_law_193 rfl rfl ?_
        exact (h15.1 c201)
      · skip
        refine gw_aload_n 178 d_X13_law_177 rfl rfl ?_
        refine gw_iload 180 d_X13_law_178 rfl rfl ?_
        refine gw_iconst 181 d_X13_law_180 rfl rfl ?_
        refine gw_cVIx (a := [gI x11, gI 3]) (rest := []) 184 d_X13_law_181 rfl ml_13_59 v_X11_fate rfl sh_0 rfl rfl rfl (h15.2 c201) (fun v16 m17 h18 => ?_)
        refine gw_iload 186 d_X13_law_184 rfl rfl ?_
        have j202 : gw_G M_X13_law d QR Γ 194 [some (gR 900), some (gR 0), some (gI x2), some (gI x3), some (gI x4), some (gR 117), some (gI x6), some (gI x7), some (gI x8), some (gI x9), some (gI x10), some (gI x11), some (gI v10), y13, y14, y15, y16, y17, y18, y19] [gI (if v16 = v10 then (1 : Int) else (0 : Int))] m17 := by
          exact h18
        refine gw_icmp_ne 193 189 d_X13_law_186 rfl rfl (fun c203 => ?_) (fun c203 => ?_)
        · skip
          refine gw_iconst 190 d_X13_law_189 rfl rfl ?_
          refine gw_goto 194 d_X13_law_190 rfl ?_
          simpa only [if_pos c203] using j202
        · skip
          refine gw_iconst 194 d_X13_law_193 rfl rfl ?_
          simpa only [if_neg c203] using j202
set_option maxRecDepth 100000 in
set_option maxHeartbeats 4000000 in
theorem r_X13_law_194 {d : Nat} {QR : Option gw_SV → gw_Mem → Prop} {Γ : gw_Ga} (x2 : Int) (x3 : Int) (x4 : Int) (x6 : Int) (x7 : Int) (x8 : Int) (x9 : Int) (x10 : Int) (x11 : Int) (x12 : Int) (y13 : Option gw_SV) (y14 : Option gw_SV) (y15 : Option gw_SV) (y16 : Option gw_SV) (y17 : Option gw_SV) (y18 : Option gw_SV) (y19 : Option gw_SV) (z0 : Int) (m : gw_Mem) (h : ((x9 < x12 → gw_G M_X13_law d QR Γ 263 [some (gR 900), some (gR 0), some (gI x2), some (gI x3), some (gI x4), some (gR 117), some (gI x6), some (gI x7), some (gI x8), some (gI x9), some (gI x10), some (gI x11), some (gI x12), some (gI z0), y14, y15, y16, y17, y18, y19] [] m) ∧ (¬ (x9 < x12) → gp_W Γ x11 ∧ ((x12 < m 117 x11 → gw_G M_X13_law d QR Γ 263 [some (gR 900), some (gR 0), some (gI x2), some (gI x3), some (gI x4), some (gR 117), some (gI x6), some (gI x7), some (gI x8), some (gI x9), some (gI x10), some (gI x11), some (gI x12), some (gI z0), y14, y15, y16, y17, y18, y19] [] m) ∧ (¬ (x12 < m 117 x11) → gp_W Γ x11 ∧ gw_CIx Γ d M_X13_one [gR 900, gI x11, gI 1] m (fun v19 m20 => ((v19 < gw_w (x12 - (m 117 x11)) → gw_G M_X13_law d QR Γ 263 [some (gR 900), some (gR 0), some (gI x2), some (gI x3), some (gI x4), some (gR 117), some (gI x6), some (gI x7), some (gI x8), some (gI x9), some (gI x10), some (gI x11), some (gI x12), some (gI z0), y14, y15, y16, y17, y18, y19] [] m20) ∧ (¬ (v19 < gw_w (x12 - (m 117 x11))) → gw_CIx Γ d M_X13_one [gR 900, gI x11, gI 0] m20 (fun v22 m23 => ((v22 = 2 → ((x8.tmod 2 = 0 → gw_G M_X13_law d QR Γ 259 [some (gR 900), some (gR 0), some (gI x2), some (gI x3), some (gI x4), some (gR 117), some (gI x6), some (gI x7), some (gI x8), some (gI x9), some (gI x10), some (gI x11), some (gI x12), some (gI z0), y14, y15, y16, y17, y18, y19] [] m23) ∧ (¬ (x8.tmod 2 = 0) → gp_W Γ x11 ∧ ((x12 = m23 117 x11 → gw_G M_X13_law d QR Γ 259 [some (gR 900), some (gR 0), some (gI x2), some (gI x3), some (gI x4), some (gR 117), some (gI x6), some (gI x7), some (gI x8), some (gI x9), some (gI x10), some (gI x11), some (gI x12), some (gI z0), y14, y15, y16, y17, y18, y19] [] m23) ∧ (¬ (x12 = m23 117 x11) → gw_G M_X13_law d QR Γ 263 [some (gR 900), some (gR 0), some (gI x2), some (gI x3), some (gI x4), some (gR 117), some (gI x6), some (gI x7), some (gI x8), some (gI x9), some (gI x10), some (gI x11), some (gI x12), some (gI z0), y14, y15, y16, y17, y18, y19] [] m23))))) ∧ (¬ (v22 = 2) → gw_G M_X13_law d QR Γ 259 [some (gR 900), some (gR 0), some (gI x2), some (gI x3), some (gI x4), some (gR 117), some (gI x6), some (gI x7), some (gI x8), some (gI x9), some (gI x10), some (gI x11), some (gI x12), some (gI z0), y14, y15, y16, y17, y18, y19] [] m23))))))))))) : gw_G M_X13_law d QR Γ 194 [some (gR 900), some (gR 0), some (gI x2), some (gI x3), some (gI x4), some (gR 117), some (gI x6), some (gI x7), some (gI x8), some (gI x9), some (gI x10), some (gI x11), some (gI x12), y13, y14, y15, y16, y17, y18, y19] [gI z0] m := by
  refine gw_istore (ls' := [some (gR 900), some (gR 0), some (gI x2), some (gI x3), some (gI x4), some (gR 117), some (gI x6), some (gI x7), some (gI x8), some (gI x9), some (gI x10), some (gI x11), some (gI x12), some (gI z0), y14, y15, y16, y17, y18, y19]) 196 d_X13_law_194 rfl rfl rfl rfl ?_
  refine gw_iload 198 d_X13_law_196 rfl rfl ?_
  refine gw_iload 200 d_X13_law_198 rfl rfl ?_
  refine gw_icmp_gt 263 203 d_X13_law_200 rfl rfl (fun c204 => ?_) (fun c204 => ?_)
  · skip
    exact (h.1 c204)
  · skip
    refine gw_iload 205 d_X13_law_203 rfl rfl ?_
    refine gw_aload 207 d_X13_law_205 rfl rfl ?_
    refine gw_iload 209 d_X13_law_207 rfl rfl ?_
    refine gw_wload 210 d_X13_law_209 rfl (h.2 c204).1 ?_
    refine gw_icmp_lt 263 213 d_X13_law_210 rfl rfl (fun c205 => ?_) (fun c205 => ?_)
    · skip
      exact ((h.2 c204).2.1 c205)
    · skip
      refine gw_iload 215 d_X13_law_213 rfl rfl ?_
      refine gw_aload 217 d_X13_law_215 rfl rfl ?_
      refine gw_iload 219 d_X13_law_217 rfl rfl ?_
      refine gw_wload 220 d_X13_law_219 rfl ((h.2 c204).2.2 c205).1 ?_
      refine gw_isub 221 d_X13_law_220 rfl  ?_
      refine gw_aload_n 222 d_X13_law_221 rfl rfl ?_
      refine gw_iload 224 d_X13_law_222 rfl rfl ?_
      refine gw_iconst 225 d_X13_law_224 rfl rfl ?_
      refine gw_cSIx (a := [gR 900, gI x11, gI 1]) (rest := [gI (gw_w (x12 - (m 117 x11)))]) 228 d_X13_law_225 rfl ml_13_43 v_X13_one rfl rfl rfl ((h.2 c204).2.2 c205).2 (fun v19 m20 h21 => ?_)
      refine gw_icmp_gt 263 231 d_X13_law_228 rfl rfl (fun c206 => ?_) (fun c206 => ?_)
      · skip
        exact (h21.1 c206)
      · skip
        refine gw_aload_n 232 d_X13_law_231 rfl rfl ?_
        refine gw_iload 234 d_X13_law_232 rfl rfl ?_
        refine gw_iconst 235 d_X13_law_234 rfl rfl ?_
        refine gw_cSIx (a := [gR 900, gI x11, gI 0]) (rest := []) 238 d_X13_law_235 rfl ml_13_43 v_X13_one rfl rfl rfl (h21.2 c206) (fun v22 m23 h24 => ?_)
        refine gw_iconst 239 d_X13_law_238 rfl rfl ?_
        refine gw_icmp_ne 259 242 d_X13_law_239 rfl rfl (fun c207 => ?_) (fun c207 => ?_)
        · skip
          refine gw_iload 244 d_X13_law_242 rfl rfl ?_
          refine gw_iconst 245 d_X13_law_244 rfl rfl ?_
          refine gw_irem 246 d_X13_law_245 rfl (by decide) ?_
          refine gw_if_eq 259 249 d_X13_law_246 rfl rfl (fun c208 => ?_) (fun c208 => ?_)
          · skip
            exact ((h24.1 c207).1 c208)
          · skip
            refine gw_iload 251 d_X13_law_249 rfl rfl ?_
            refine gw_aload 253 d_X13_law_251 rfl rfl ?_
            refine gw_iload 255 d_X13_law_253 rfl rfl ?_
            refine gw_wload 256 d_X13_law_255 rfl ((h24.1 c207).2 c208).1 ?_
            refine gw_icmp_ne 263 259 d_X13_law_256 rfl rfl (fun c209 => ?_) (fun c209 => ?_)
            · skip
              exact (((h24.1 c207).2 c208).2.1 c209)
            · skip
              exact (((h24.1 c207).2 c208).2.2 c209)
        · skip
          exact (h24.2 c207)
set_option maxRecDepth 100000 in
set_option maxHeartbeats 4000000 in
theorem r_X13_law_259 {d : Nat} {QR : Option gw_SV → gw_Mem → Prop} {Γ : gw_Ga} (x2 : Int) (x3 : Int) (x4 : Int) (x6 : Int) (x7 : Int) (x8 : Int) (x9 : Int) (x10 : Int) (x11 : Int) (x12 : Int) (x13 : Int) (y14 : Option gw_SV) (y15 : Option gw_SV) (y16 : Option gw_SV) (y17 : Option gw_SV) (y18 : Option gw_SV) (y19 : Option gw_SV) (m : gw_Mem) (h : gw_G M_X13_law d QR Γ 264 [some (gR 900), some (gR 0), some (gI x2), some (gI x3), some (gI x4), some (gR 117), some (gI x6), some (gI x7), some (gI x8), some (gI x9), some (gI x10), some (gI x11), some (gI x12), some (gI x13), y14, y15, y16, y17, y18, y19] [gI 1] m) : gw_G M_X13_law d QR Γ 259 [some (gR 900), some (gR 0), some (gI x2), some (gI x3), some (gI x4), some (gR 117), some (gI x6), some (gI x7), some (gI x8), some (gI x9), some (gI x10), some (gI x11), some (gI x12), some (gI x13), y14, y15, y16, y17, y18, y19] [] m := by
  refine gw_iconst 260 d_X13_law_259 rfl rfl ?_
  refine gw_goto 264 d_X13_law_260 rfl ?_
  exact h
set_option maxRecDepth 100000 in
set_option maxHeartbeats 4000000 in
theorem r_X13_law_263 {d : Nat} {QR : Option gw_SV → gw_Mem → Prop} {Γ : gw_Ga} (x2 : Int) (x3 : Int) (x4 : Int) (x6 : Int) (x7 : Int) (x8 : Int) (x9 : Int) (x10 : Int) (x11 : Int) (x12 : Int) (x13 : Int) (y14 : Option gw_SV) (y15 : Option gw_SV) (y16 : Option gw_SV) (y17 : Option gw_SV) (y18 : Option gw_SV) (y19 : Option gw_SV) (m : gw_Mem) (h : gw_G M_X13_law d QR Γ 264 [some (gR 900), some (gR 0), some (gI x2), some (gI x3), some (gI x4), some (gR 117), some (gI x6), some (gI x7), some (gI x8), some (gI x9), some (gI x10), some (gI x11), some (gI x12), some (gI x13), y14, y15, y16, y17, y18, y19] [gI 0] m) : gw_G M_X13_law d QR Γ 263 [some (gR 900), some (gR 0), some (gI x2), some (gI x3), some (gI x4), some (gR 117), some (gI x6), some (gI x7), some (gI x8), some (gI x9), some (gI x10), some (gI x11), some (gI x12), some (gI x13), y14, y15, y16, y17, y18, y19] [] m := by
  refine gw_iconst 264 d_X13_law_263 rfl rfl ?_
  exact h
set_option maxRecDepth 100000 in
set_option maxHeartbeats 4000000 in
theorem r_X13_law_264 {d : Nat} {QR : Option gw_SV → gw_Mem → Prop} {Γ : gw_Ga} (x2 : Int) (x3 : Int) (x4 : Int) (x6 : Int) (x7 : Int) (x8 : Int) (x9 : Int) (x10 : Int) (x11 : Int) (x12 : Int) (x13 : Int) (y14 : Option gw_SV) (y15 : Option gw_SV) (y16 : Option gw_SV) (y17 : Option gw_SV) (y18 : Option gw_SV) (y19 : Option gw_SV) (z0 : Int) (m : gw_Mem) (h : gp_W Γ x11 ∧ gw_G M_X13_law d QR Γ 147 [some (gR 900), some (gR 0), some (gI z0), some (gI x3), some (gI x4), some (gR 117), some (gI x6), some (gI x7), some (gI x8), some (gI x9), some (gI (if x13 = 0 then (if x10 ≤ x12 then x10 else x12) else x10)), some (gI (gw_w (x11 + 1))), some (gI x12), some (gI x13), y14, y15, y16, y17, y18, y19] [] (gw_up m 117 x11 x12)) : gw_G M_X13_law d QR Γ 264 [some (gR 900), some (gR 0), some (gI x2), some (gI x3), some (gI x4), some (gR 117), some (gI x6), some (gI x7), some (gI x8), some (gI x9), some (gI x10), some (gI x11), some (gI x12), some (gI x13), y14, y15, y16, y17, y18, y19] [gI z0] m := by
  refine gw_istore_n (ls' := [some (gR 900), some (gR 0), some (gI z0), some (gI x3), some (gI x4), some (gR 117), some (gI x6), some (gI x7), some (gI x8), some (gI x9), some (gI x10), some (gI x11), some (gI x12), some (gI x13), y14, y15, y16, y17, y18, y19]) 265 d_X13_law_264 rfl rfl rfl rfl ?_
  refine gw_aload 267 d_X13_law_265 rfl rfl ?_
  refine gw_iload 269 d_X13_law_267 rfl rfl ?_
  refine gw_iload 271 d_X13_law_269 rfl rfl ?_
  refine gw_wstore 272 d_X13_law_271 rfl h.1 ?_
  refine gw_iload 274 d_X13_law_272 rfl rfl ?_
  have j210 : gw_G M_X13_law d QR Γ 291 [some (gR 900), some (gR 0), some (gI z0), some (gI x3), some (gI x4), some (gR 117), some (gI x6), some (gI x7), some (gI x8), some (gI x9), some (gI x10), some (gI x11), some (gI x12), some (gI x13), y14, y15, y16, y17, y18, y19] [gI (if x13 = 0 then (if x10 ≤ x12 then x10 else x12) else x10)] (gw_up m 117 x11 x12) := by
    refine gw_istore (ls' := [some (gR 900), some (gR 0), some (gI z0), some (gI x3), some (gI x4), some (gR 117), some (gI x6), some (gI x7), some (gI x8), some (gI x9), some (gI (if x13 = 0 then (if x10 ≤ x12 then x10 else x12) else x10)), some (gI x11), some (gI x12), some (gI x13), y14, y15, y16, y17, y18, y19]) 293 d_X13_law_291 rfl rfl rfl rfl ?_
    refine gw_iinc (ls' := [some (gR 900), some (gR 0), some (gI z0), some (gI x3), some (gI x4), some (gR 117), some (gI x6), some (gI x7), some (gI x8), some (gI x9), some (gI (if x13 = 0 then (if x10 ≤ x12 then x10 else x12) else x10)), some (gI (gw_w (x11 + 1))), some (gI x12), some (gI x13), y14, y15, y16, y17, y18, y19]) 296 d_X13_law_293 rfl rfl rfl rfl rfl ?_
    refine gw_goto 147 d_X13_law_296 rfl ?_
    exact h.2
  refine gw_if_ne 289 277 d_X13_law_274 rfl rfl (fun c211 => ?_) (fun c211 => ?_)
  · skip
    refine gw_iload 279 d_X13_law_277 rfl rfl ?_
    refine gw_iload 281 d_X13_law_279 rfl rfl ?_
    refine gw_icmp_ge 289 284 d_X13_law_281 rfl rfl (fun c212 => ?_) (fun c212 => ?_)
    · skip
      refine gw_iload 291 d_X13_law_289 rfl rfl ?_
      simpa only [if_pos c211, if_pos c212] using j210
    · skip
      refine gw_iload 286 d_X13_law_284 rfl rfl ?_
      refine gw_goto 291 d_X13_law_286 rfl ?_
      simpa only [if_pos c211, if_neg c212] using j210
  · skip
    refine gw_iload 291 d_X13_law_289 rfl rfl ?_
    simpa only [if_neg c211] using j210
set_option maxRecDepth 100000 in
set_option maxHeartbeats 4000000 in
theorem r_X13_law_299 {d : Nat} {QR : Option gw_SV → gw_Mem → Prop} {Γ : gw_Ga} (x2 : Int) (x3 : Int) (x4 : Int) (x6 : Int) (x7 : Int) (x8 : Int) (x9 : Int) (x10 : Int) (x11 : Int) (y12 : Option gw_SV) (y13 : Option gw_SV) (y14 : Option gw_SV) (y15 : Option gw_SV) (y16 : Option gw_SV) (y17 : Option gw_SV) (y18 : Option gw_SV) (y19 : Option gw_SV) (m : gw_Mem) (h : gw_CIx Γ d M_X11_at [gR 0, gI x8, gI (-2)] m (fun v25 m26 => gp_W Γ 7 ∧ gw_G M_X13_law d QR Γ 80 [some (gR 900), some (gR 0), some (gI (if x2 = 0 then (0 : Int) else (if v25 = (-4) then (1 : Int) else (if v25 < 0 then (0 : Int) else (if x9 < v25 then (0 : Int) else (1 : Int)))))), some (gI x3), some (gI x4), some (gR 117), some (gI x6), some (gI (if v25 ≤ x7 then x7 else v25)), some (gI (gw_w (x8 + 1))), some (gI x9), some (gI x10), some (gI v25), y12, y13, y14, y15, y16, y17, y18, y19] [] (gw_up m26 117 7 x9))) : gw_G M_X13_law d QR Γ 299 [some (gR 900), some (gR 0), some (gI x2), some (gI x3), some (gI x4), some (gR 117), some (gI x6), some (gI x7), some (gI x8), some (gI x9), some (gI x10), some (gI x11), y12, y13, y14, y15, y16, y17, y18, y19] [] m := by
  refine gw_aload_n 300 d_X13_law_299 rfl rfl ?_
  refine gw_iload 302 d_X13_law_300 rfl rfl ?_
  refine gw_bipush 304 d_X13_law_302 rfl rfl (by decide) ?_
  refine gw_cVIx (a := [gI x8, gI (-2)]) (rest := []) 307 d_X13_law_304 rfl ml_13_56 v_X11_at rfl sh_0 rfl rfl rfl h (fun v25 m26 h27 => ?_)
  refine gw_istore (ls' := [some (gR 900), some (gR 0), some (gI x2), some (gI x3), some (gI x4), some (gR 117), some (gI x6), some (gI x7), some (gI x8), some (gI x9), some (gI x10), some (gI v25), y12, y13, y14, y15, y16, y17, y18, y19]) 309 d_X13_law_307 rfl rfl rfl rfl ?_
  refine gw_iload_n 310 d_X13_law_309 rfl rfl ?_
  have j213 : gw_G M_X13_law d QR Γ 337 [some (gR 900), some (gR 0), some (gI x2), some (gI x3), some (gI x4), some (gR 117), some (gI x6), some (gI x7), some (gI x8), some (gI x9), some (gI x10), some (gI v25), y12, y13, y14, y15, y16, y17, y18, y19] [gI (if x2 = 0 then (0 : Int) else (if v25 = (-4) then (1 : Int) else (if v25 < 0 then (0 : Int) else (if x9 < v25 then (0 : Int) else (1 : Int)))))] m26 := by
    refine gw_istore_n (ls' := [some (gR 900), some (gR 0), some (gI (if x2 = 0 then (0 : Int) else (if v25 = (-4) then (1 : Int) else (if v25 < 0 then (0 : Int) else (if x9 < v25 then (0 : Int) else (1 : Int)))))), some (gI x3), some (gI x4), some (gR 117), some (gI x6), some (gI x7), some (gI x8), some (gI x9), some (gI x10), some (gI v25), y12, y13, y14, y15, y16, y17, y18, y19]) 338 d_X13_law_337 rfl rfl rfl rfl ?_
    refine gw_iload 340 d_X13_law_338 rfl rfl ?_
    refine gw_iload 342 d_X13_law_340 rfl rfl ?_
    have j215 : gw_G M_X13_law d QR Γ 352 [some (gR 900), some (gR 0), some (gI (if x2 = 0 then (0 : Int) else (if v25 = (-4) then (1 : Int) else (if v25 < 0 then (0 : Int) else (if x9 < v25 then (0 : Int) else (1 : Int)))))), some (gI x3), some (gI x4), some (gR 117), some (gI x6), some (gI x7), some (gI x8), some (gI x9), some (gI x10), some (gI v25), y12, y13, y14, y15, y16, y17, y18, y19] [gI (if v25 ≤ x7 then x7 else v25)] m26 := by
      refine gw_istore (ls' := [some (gR 900), some (gR 0), some (gI (if x2 = 0 then (0 : Int) else (if v25 = (-4) then (1 : Int) else (if v25 < 0 then (0 : Int) else (if x9 < v25 then (0 : Int) else (1 : Int)))))), some (gI x3), some (gI x4), some (gR 117), some (gI x6), some (gI (if v25 ≤ x7 then x7 else v25)), some (gI x8), some (gI x9), some (gI x10), some (gI v25), y12, y13, y14, y15, y16, y17, y18, y19]) 354 d_X13_law_352 rfl rfl rfl rfl ?_
      refine gw_aload 356 d_X13_law_354 rfl rfl ?_
      refine gw_bipush 358 d_X13_law_356 rfl rfl (by decide) ?_
      refine gw_iload 360 d_X13_law_358 rfl rfl ?_
      refine gw_wstore 361 d_X13_law_360 rfl h27.1 ?_
      refine gw_iinc (ls' := [some (gR 900), some (gR 0), some (gI (if x2 = 0 then (0 : Int) else (if v25 = (-4) then (1 : Int) else (if v25 < 0 then (0 : Int) else (if x9 < v25 then (0 : Int) else (1 : Int)))))), some (gI x3), some (gI x4), some (gR 117), some (gI x6), some (gI (if v25 ≤ x7 then x7 else v25)), some (gI (gw_w (x8 + 1))), some (gI x9), some (gI x10), some (gI v25), y12, y13, y14, y15, y16, y17, y18, y19]) 364 d_X13_law_361 rfl rfl rfl rfl rfl ?_
      refine gw_goto 80 d_X13_law_364 rfl ?_
      exact h27.2
    refine gw_icmp_le 350 345 d_X13_law_342 rfl rfl (fun c216 => ?_) (fun c216 => ?_)
    · skip
      refine gw_iload 352 d_X13_law_350 rfl rfl ?_
      simpa only [if_pos c216] using j215
    · skip
      refine gw_iload 347 d_X13_law_345 rfl rfl ?_
      refine gw_goto 352 d_X13_law_347 rfl ?_
      simpa only [if_neg c216] using j215
  refine gw_if_eq 336 313 d_X13_law_310 rfl rfl (fun c214 => ?_) (fun c214 => ?_)
  · skip
    refine gw_iconst 337 d_X13_law_336 rfl rfl ?_
    simpa only [if_pos c214] using j213
  · skip
    refine gw_iload 315 d_X13_law_313 rfl rfl ?_
    refine gw_bipush 317 d_X13_law_315 rfl rfl (by decide) ?_
    refine gw_icmp_eq 332 320 d_X13_law_317 rfl rfl (fun c217 => ?_) (fun c217 => ?_)
    · skip
      refine gw_iconst 333 d_X13_law_332 rfl rfl ?_
      refine gw_goto 337 d_X13_law_333 rfl ?_
      simpa only [if_neg c214, if_pos c217] using j213
    · skip
      refine gw_iload 322 d_X13_law_320 rfl rfl ?_
      refine gw_if_lt 336 325 d_X13_law_322 rfl rfl (fun c218 => ?_) (fun c218 => ?_)
      · skip
        refine gw_iconst 337 d_X13_law_336 rfl rfl ?_
        simpa only [if_neg c214, if_neg c217, if_pos c218] using j213
      · skip
        refine gw_iload 327 d_X13_law_325 rfl rfl ?_
        refine gw_iload 329 d_X13_law_327 rfl rfl ?_
        refine gw_icmp_gt 336 332 d_X13_law_329 rfl rfl (fun c219 => ?_) (fun c219 => ?_)
        · skip
          refine gw_iconst 337 d_X13_law_336 rfl rfl ?_
          simpa only [if_neg c214, if_neg c217, if_neg c218, if_pos c219] using j213
        · skip
          refine gw_iconst 333 d_X13_law_332 rfl rfl ?_
          refine gw_goto 337 d_X13_law_333 rfl ?_
          simpa only [if_neg c214, if_neg c217, if_neg c218, if_neg c219] using j213
set_option maxRecDepth 100000 in
set_option maxHeartbeats 4000000 in
theorem r_X13_law_367 {d : Nat} {QR : Option gw_SV → gw_Mem → Prop} {Γ : gw_Ga} (x2 : Int) (x3 : Int) (x4 : Int) (y5 : Option gw_SV) (x6 : Int) (x7 : Int) (x8 : Int) (y9 : Option gw_SV) (y10 : Option gw_SV) (y11 : Option gw_SV) (y12 : Option gw_SV) (y13 : Option gw_SV) (y14 : Option gw_SV) (y15 : Option gw_SV) (y16 : Option gw_SV) (y17 : Option gw_SV) (y18 : Option gw_SV) (y19 : Option gw_SV) (m : gw_Mem) (h : gw_G M_X13_law d QR Γ 373 [some (gR 900), some (gR 0), some (gI x2), some (gI x3), some (gI x4), y5, some (gI x6), some (gI x7), some (gI 0), some (gI 0), y10, y11, y12, y13, y14, y15, y16, y17, y18, y19] [] m) : gw_G M_X13_law d QR Γ 367 [some (gR 900), some (gR 0), some (gI x2), some (gI x3), some (gI x4), y5, some (gI x6), some (gI x7), some (gI x8), y9, y10, y11, y12, y13, y14, y15, y16, y17, y18, y19] [] m := by
  refine gw_iconst 368 d_X13_law_367 rfl rfl ?_
  refine gw_istore (ls' := [some (gR 900), some (gR 0), some (gI x2), some (gI x3), some (gI x4), y5, some (gI x6), some (gI x7), some (gI 0), y9, y10, y11, y12, y13, y14, y15, y16, y17, y18, y19]) 370 d_X13_law_368 rfl rfl rfl rfl ?_
  refine gw_iconst 371 d_X13_law_370 rfl rfl ?_
  refine gw_istore (ls' := [some (gR 900), some (gR 0), some (gI x2), some (gI x3), some (gI x4), y5, some (gI x6), some (gI x7), some (gI 0), some (gI 0), y10, y11, y12, y13, y14, y15, y16, y17, y18, y19]) 373 d_X13_law_371 rfl rfl rfl rfl ?_
  exact h
set_option maxRecDepth 100000 in
set_option maxHeartbeats 4000000 in
theorem r_X13_law_373 {d : Nat} {QR : Option gw_SV → gw_Mem → Prop} {Γ : gw_Ga} (x2 : Int) (x3 : Int) (x4 : Int) (y5 : Option gw_SV) (x6 : Int) (x7 : Int) (x8 : Int) (x9 : Int) (y10 : Option gw_SV) (y11 : Option gw_SV) (y12 : Option gw_SV) (y13 : Option gw_SV) (y14 : Option gw_SV) (y15 : Option gw_SV) (y16 : Option gw_SV) (y17 : Option gw_SV) (y18 : Option gw_SV) (y19 : Option gw_SV) (m : gw_Mem) (h : gw_CIx Γ d M_X13_marks [gR 900, gI 0] m (fun v28 m29 => ((v28 ≤ x9 → gw_G M_X13_law d QR Γ 433 [some (gR 900), some (gR 0), some (gI x2), some (gI x3), some (gI x4), y5, some (gI x6), some (gI x7), some (gI x8), some (gI 0), some (gI 1000), some (gI 0), some (gI 0), y13, y14, y15, y16, y17, y18, y19] [] m29) ∧ (¬ (v28 ≤ x9) → gw_CIx Γ d M_X13_mark [gR 900, gI 0, gI x9, gI 0] m29 (fun v31 m32 => ((x4 ≤ v31 → gw_G M_X13_law d QR Γ 410 [some (gR 900), some (gR 0), some (gI x2), some (gI x3), some (gI x4), y5, some (gI x6), some (gI x7), some (gI x8), some (gI x9), y10, y11, y12, y13, y14, y15, y16, y17, y18, y19] [gI 0, gI x8] m32) ∧ (¬ (x4 ≤ v31) → gw_CIx Γ d M_X13_mark [gR 900, gI 0, gI x9, gI 1] m32 (fun v34 m35 => gw_G M_X13_law d QR Γ 410 [some (gR 900), some (gR 0), some (gI x2), some (gI x3), some (gI x4), y5, some (gI x6), some (gI x7), some (gI x8), some (gI x9), y10, y11, y12, y13, y14, y15, y16, y17, y18, y19] [gI v34, gI x8] m35)))))))) : gw_G M_X13_law d QR Γ 373 [some (gR 900), some (gR 0), some (gI x2), some (gI x3), some (gI x4), y5, some (gI x6), some (gI x7), some (gI x8), some (gI x9), y10, y11, y12, y13, y14, y15, y16, y17, y18, y19] [] m := by
  refine gw_iload 375 d_X13_law_373 rfl rfl ?_
  refine gw_aload_n 376 d_X13_law_375 rfl rfl ?_
  refine gw_iconst 377 d_X13_law_376 rfl rfl ?_
  refine gw_cSIx (a := [gR 900, gI 0]) (rest := [gI x9]) 380 d_X13_law_377 rfl ml_13_24 v_X13_marks rfl rfl rfl h (fun v28 m29 h30 => ?_)
  refine gw_icmp_ge 419 383 d_X13_law_380 rfl rfl (fun c220 => ?_) (fun c220 => ?_)
  · skip
    refine gw_iconst 420 d_X13_law_419 rfl rfl ?_
    refine gw_istore (ls' := [some (gR 900), some (gR 0), some (gI x2), some (gI x3), some (gI x4), y5, some (gI x6), some (gI x7), some (gI x8), some (gI 0), y10, y11, y12, y13, y14, y15, y16, y17, y18, y19]) 422 d_X13_law_420 rfl rfl rfl rfl ?_
    refine gw_sipush 425 d_X13_law_422 rfl rfl (by decide) ?_
    refine gw_istore (ls' := [some (gR 900), some (gR 0), some (gI x2), some (gI x3), some (gI x4), y5, some (gI x6), some (gI x7), some (gI x8), some (gI 0), some (gI 1000), y11, y12, y13, y14, y15, y16, y17, y18, y19]) 427 d_X13_law_425 rfl rfl rfl rfl ?_
    refine gw_iconst 428 d_X13_law_427 rfl rfl ?_
    refine gw_istore (ls' := [some (gR 900), some (gR 0), some (gI x2), some (gI x3), some (gI x4), y5, some (gI x6), some (gI x7), some (gI x8), some (gI 0), some (gI 1000), some (gI 0), y12, y13, y14, y15, y16, y17, y18, y19]) 430 d_X13_law_428 rfl rfl rfl rfl ?_
    refine gw_iconst 431 d_X13_law_430 rfl rfl ?_
    refine gw_istore (ls' := [some (gR 900), some (gR 0), some (gI x2), some (gI x3), some (gI x4), y5, some (gI x6), some (gI x7), some (gI x8), some (gI 0), some (gI 1000), some (gI 0), some (gI 0), y13, y14, y15, y16, y17, y18, y19]) 433 d_X13_law_431 rfl rfl rfl rfl ?_
    exact (h30.1 c220)
  · skip
    refine gw_iload 385 d_X13_law_383 rfl rfl ?_
    refine gw_aload_n 386 d_X13_law_385 rfl rfl ?_
    refine gw_iconst 387 d_X13_law_386 rfl rfl ?_
    refine gw_iload 389 d_X13_law_387 rfl rfl ?_
    refine gw_iconst 390 d_X13_law_389 rfl rfl ?_
    refine gw_cSIx (a := [gR 900, gI 0, gI x9, gI 0]) (rest := [gI x8]) 393 d_X13_law_390 rfl ml_13_27 v_X13_mark rfl rfl rfl (h30.2 c220) (fun v31 m32 h33 => ?_)
    refine gw_iload 395 d_X13_law_393 rfl rfl ?_
    refine gw_icmp_ge 409 398 d_X13_law_395 rfl rfl (fun c221 => ?_) (fun c221 => ?_)
    · skip
      refine gw_iconst 410 d_X13_law_409 rfl rfl ?_
      exact (h33.1 c221)
    · skip
      refine gw_aload_n 399 d_X13_law_398 rfl rfl ?_
      refine gw_iconst 400 d_X13_law_399 rfl rfl ?_
      refine gw_iload 402 d_X13_law_400 rfl rfl ?_
      refine gw_iconst 403 d_X13_law_402 rfl rfl ?_
      refine gw_cSIx (a := [gR 900, gI 0, gI x9, gI 1]) (rest := [gI x8]) 406 d_X13_law_403 rfl ml_13_27 v_X13_mark rfl rfl rfl (h33.2 c221) (fun v34 m35 h36 => ?_)
      refine gw_goto 410 d_X13_law_406 rfl ?_
      exact h36
set_option maxRecDepth 100000 in
set_option maxHeartbeats 4000000 in
theorem r_X13_law_410 {d : Nat} {QR : Option gw_SV → gw_Mem → Prop} {Γ : gw_Ga} (x2 : Int) (x3 : Int) (x4 : Int) (y5 : Option gw_SV) (x6 : Int) (x7 : Int) (x8 : Int) (x9 : Int) (y10 : Option gw_SV) (y11 : Option gw_SV) (y12 : Option gw_SV) (y13 : Option gw_SV) (y14 : Option gw_SV) (y15 : Option gw_SV) (y16 : Option gw_SV) (y17 : Option gw_SV) (y18 : Option gw_SV) (y19 : Option gw_SV) (z0 : Int) (z1 : Int) (m : gw_Mem) (h : gw_G M_X13_law d QR Γ 373 [some (gR 900), some (gR 0), some (gI x2), some (gI x3), some (gI x4), y5, some (gI x6), some (gI x7), some (gI (gw_w (z1 + z0))), some (gI (gw_w (x9 + 1))), y10, y11, y12, y13, y14, y15, y16, y17, y18, y19] [] m) : gw_G M_X13_law d QR Γ 410 [some (gR 900), some (gR 0), some (gI x2), some (gI x3), some (gI x4), y5, some (gI x6), some (gI x7), some (gI x8), some (gI x9), y10, y11, y12, y13, y14, y15, y16, y17, y18, y19] [gI z0, gI z1] m := by
  refine gw_iadd 411 d_X13_law_410 rfl  ?_
  refine gw_istore (ls' := [some (gR 900), some (gR 0), some (gI x2), some (gI x3), some (gI x4), y5, some (gI x6), some (gI x7), some (gI (gw_w (z1 + z0))), some (gI x9), y10, y11, y12, y13, y14, y15, y16, y17, y18, y19]) 413 d_X13_law_411 rfl rfl rfl rfl ?_
  refine gw_iinc (ls' := [some (gR 900), some (gR 0), some (gI x2), some (gI x3), some (gI x4), y5, some (gI x6), some (gI x7), some (gI (gw_w (z1 + z0))), some (gI (gw_w (x9 + 1))), y10, y11, y12, y13, y14, y15, y16, y17, y18, y19]) 416 d_X13_law_413 rfl rfl rfl rfl rfl ?_
  refine gw_goto 373 d_X13_law_416 rfl ?_
  exact h
set_option maxRecDepth 100000 in
set_option maxHeartbeats 4000000 in
theorem r_X13_law_433 {d : Nat} {QR : Option gw_SV → gw_Mem → Prop} {Γ : gw_Ga} (x2 : Int) (x3 : Int) (x4 : Int) (y5 : Option gw_SV) (x6 : Int) (x7 : Int) (x8 : Int) (x9 : Int) (x10 : Int) (x11 : Int) (x12 : Int) (y13 : Option gw_SV) (y14 : Option gw_SV) (y15 : Option gw_SV) (y16 : Option gw_SV) (y17 : Option gw_SV) (y18 : Option gw_SV) (y19 : Option gw_SV) (m : gw_Mem) (h : ((x3 ≤ x12 → gw_G M_X13_law d QR Γ 676 [some (gR 900), some (gR 0), some (gI x2), some (gI x3), some (gI x4), y5, some (gI x6), some (gI x7), some (gI x8), some (gI x9), some (gI x10), some (gI x11), some (gI x12), y13, y14, y15, y16, y17, y18, y19] [] m) ∧ (¬ (x3 ≤ x12) → ((x2 = 0 → gw_G M_X13_law d QR Γ 676 [some (gR 900), some (gR 0), some (gI x2), some (gI x3), some (gI x4), y5, some (gI x6), some (gI x7), some (gI x8), some (gI x9), some (gI x10), some (gI x11), some (gI x12), y13, y14, y15, y16, y17, y18, y19] [] m) ∧ (¬ (x2 = 0) → gw_CIx Γ d M_X11_fate [gR 0, gI x12, gI 0] m (fun v37 m38 => gw_CIx Γ d M_X11_fate [gR 0, gI x12, gI 3] m38 (fun v40 m41 => gw_CIx Γ d M_X11_fate [gR 0, gI x12, gI 2] m41 (fun v43 m44 => ((v37 < 0 → gw_G M_X13_law d QR Γ 612 [some (gR 900), some (gR 0), some (gI x2), some (gI x3), some (gI x4), y5, some (gI x6), some (gI x7), some (gI x8), some (gI (gw_w (x9 + v37))), some (gI (if x10 ≤ v37 then x10 else v37)), some (gI (gw_or x11 (if v40 < 0 then (0 : Int) else gw_shl 1 x12))), some (gI x12), some (gI v37), some (gI v43), y15, y16, y17, y18, y19] [] m44) ∧ (¬ (v37 < 0) → ((x8 < v37 → gw_G M_X13_law d QR Γ 612 [some (gR 900), some (gR 0), some (gI x2), some (gI x3), some (gI x4), y5, some (gI x6), some (gI x7), some (gI x8), some (gI (gw_w (x9 + v37))), some (gI (if x10 ≤ v37 then x10 else v37)), some (gI (gw_or x11 (if v40 < 0 then (0 : Int) else gw_shl 1 x12))), some (gI x12), some (gI v37), some (gI v43), y15, y16, y17, y18, y19] [] m44) ∧ (¬ (x8 < v37) → gw_CIx Γ d M_X11_fate [gR 0, gI x12, gI 1] m44 (fun v46 m47 => ((v46 < 0 → gw_G M_X13_law d QR Γ 612 [some (gR 900), some (gR 0), some (gI x2), some (gI x3), some (gI x4), y5, some (gI x6), some (gI x7), some (gI x8), some (gI (gw_w (x9 + v37))), some (gI (if x10 ≤ v37 then x10 else v37)), some (gI (gw_or x11 (if v40 < 0 then (0 : Int) else gw_shl 1 x12))), some (gI x12), some (gI v37), some (gI v43), y15, y16, y17, y18, y19] [] m47) ∧ (¬ (v46 < 0) → ((v43 = (-4) → gw_G M_X13_law d QR Γ 589 [some (gR 900), some (gR 0), some (gI x2), some (gI x3), some (gI x4), y5, some (gI x6), some (gI x7), some (gI x8), some (gI (gw_w (x9 + v37))), some (gI (if x10 ≤ v37 then x10 else v37)), some (gI (gw_or x11 (if v40 < 0 then (0 : Int) else gw_shl 1 x12))), some (gI x12), some (gI v37), some (gI v43), y15, y16, y17, y18, y19] [] m47) ∧ (¬ (v43 = (-4)) → ((300 ≤ v43 → gw_G M_X13_law d QR Γ 612 [some (gR 900), some (gR 0), some (gI x2), some (gI x3), some (gI x4), y5, some (gI x6), some (gI x7), some (gI x8), some (gI (gw_w (x9 + v37))), some (gI (if x10 ≤ v37 then x10 else v37)), some (gI (gw_or x11 (if v40 < 0 then (0 : Int) else gw_shl 1 x12))), some (gI x12), some (gI v37), some (gI v43), y15, y16, y17, y18, y19] [] m47) ∧ (¬ (300 ≤ v43) → gw_CIx Γ d M_X11_at [gR 0, gI v43, gI x12] m47 (fun v49 m50 => ((v49 = x4 → ((v43 = 0 → gw_G M_X13_law d QR Γ 577 [some (gR 900), some (gR 0), some (gI x2), some (gI x3), some (gI x4), y5, some (gI x6), some (gI x7), some (gI x8), some (gI (gw_w (x9 + v37))), some (gI (if x10 ≤ v37 then x10 else v37)), some (gI (gw_or x11 (if v40 < 0 then (0 : Int) else gw_shl 1 x12))), some (gI x12), some (gI v37), some (gI v43), y15, y16, y17, y18, y19] [] m50) ∧ (¬ (v43 = 0) → gw_CIx Γ d M_X11_at [gR 0, gI (gw_w (v43 - 1)), gI x12] m50 (fun v52 m53 => ((x4 ≤ v52 → gw_G M_X13_law d QR Γ 612 [some (gR 900), some (gR 0), some (gI x2), some (gI x3), some (gI x4), y5, some (gI x6), some (gI x7), some (gI x8), some (gI (gw_w (x9 + v37))), some (gI (if x10 ≤ v37 then x10 else v37)), some (gI (gw_or x11 (if v40 < 0 then (0 : Int) else gw_shl 1 x12))), some (gI x12), some (gI v37), some (gI v43), y15, y16, y17, y18, y19] [] m53) ∧ (¬ (x4 ≤ v52) → gw_G M_X13_law d QR Γ 577 [some (gR 900), some (gR 0), some (gI x2), some (gI x3), some (gI x4), y5, some (gI x6), some (gI x7), some (gI x8), some (gI (gw_w (x9 + v37))), some (gI (if x10 ≤ v37 then x10 else v37)), some (gI (gw_or x11 (if v40 < 0 then (0 : Int) else gw_shl 1 x12))), some (gI x12), some (gI v37), some (gI v43), y15, y16, y17, y18, y19] [] m53)))))) ∧ (¬ (v49 = x4) → gw_G M_X13_law d QR Γ 612 [some (gR 900), some (gR 0), some (gI x2), some (gI x3), some (gI x4), y5, some (gI x6), some (gI x7), some (gI x8), some (gI (gw_w (x9 + v37))), some (gI (if x10 ≤ v37 then x10 else v37)), some (gI (gw_or x11 (if v40 < 0 then (0 : Int) else gw_shl 1 x12))), some (gI x12), some (gI v37), some (gI v43), y15, y16, y17, y18, y19] [] m50)))))))))))))))))))))) : gw_G M_X13_law d QR Γ 433 [some (gR 900), some (gR 0), some (gI x2), some (gI x3), some (gI x4), y5, some (gI x6), some (gI x7), some (gI x8), some (gI x9), some (gI x10), some (gI x11), some (gI x12), y13, y14, y15, y16, y17, y18, y19] [] m := by
  refine gw_iload 435 d_X13_law_433 rfl rfl ?_
  refine gw_iload_n 436 d_X13_law_435 rfl rfl ?_
  refine gw_icmp_ge 676 439 d_X13_law_436 rfl rfl (fun c222 => ?_) (fun c222 => ?_)
  · skip
    exact (h.1 c222)
  · skip
    refine gw_iload_n 440 d_X13_law_439 rfl rfl ?_
    refine gw_if_eq 676 443 d_X13_law_440 rfl rfl (fun c223 => ?_) (fun c223 => ?_)
    · skip
      exact ((h.2 c222).1 c223)
    · skip
      refine gw_aload_n 444 d_X13_law_443 rfl rfl ?_
      refine gw_iload 446 d_X13_law_444 rfl rfl ?_
      refine gw_iconst 447 d_X13_law_446 rfl rfl ?_
      refine gw_cVIx (a := [gI x12, gI 0]) (rest := []) 450 d_X13_law_447 rfl ml_13_59 v_X11_fate rfl sh_0 rfl rfl rfl ((h.2 c222).2 c223) (fun v37 m38 h39 => ?_)
      refine gw_istore (ls' := [some (gR 900), some (gR 0), some (gI x2), some (gI x3), some (gI x4), y5, some (gI x6), some (gI x7), some (gI x8), some (gI x9), some (gI x10), some (gI x11), some (gI x12), some (gI v37), y14, y15, y16, y17, y18, y19]) 452 d_X13_law_450 rfl rfl rfl rfl ?_
      refine gw_iload 454 d_X13_law_452 rfl rfl ?_
      refine gw_iload 456 d_X13_law_454 rfl rfl ?_
      refine gw_iadd 457 d_X13_law_456 rfl  ?_
      refine gw_istore (ls' := [some (gR 900), some (gR 0), some (gI x2), some (gI x3), some (gI x4), y5, some (gI x6), some (gI x7), some (gI x8), some (gI (gw_w (x9 + v37))), some (gI x10), some (gI x11), some (gI x12), some (gI v37), y14, y15, y16, y17, y18, y19]) 459 d_X13_law_457 rfl rfl rfl rfl ?_
      refine gw_iload 461 d_X13_law_459 rfl rfl ?_
      refine gw_iload 463 d_X13_law_461 rfl rfl ?_
      have j224 : gw_G M_X13_law d QR Γ 473 [some (gR 900), some (gR 0), some (gI x2), some (gI x3), some (gI x4), y5, some (gI x6), some (gI x7), some (gI x8), some (gI (gw_w (x9 + v37))), some (gI x10), some (gI x11), some (gI x12), some (gI v37), y14, y15, y16, y17, y18, y19] [gI (if x10 ≤ v37 then x10 else v37)] m38 := by
        refine gw_istore (ls' := [some (gR 900), some (gR 0), some (gI x2), some (gI x3), some (gI x4), y5, some (gI x6), some (gI x7), some (gI x8), some (gI (gw_w (x9 + v37))), some (gI (if x10 ≤ v37 then x10 else v37)), some (gI x11), some (gI x12), some (gI v37), y14, y15, y16, y17, y18, y19]) 475 d_X13_law_473 rfl rfl rfl rfl ?_
        refine gw_iload 477 d_X13_law_475 rfl rfl ?_
        refine gw_aload_n 478 d_X13_law_477 rfl rfl ?_
        refine gw_iload 480 d_X13_law_478 rfl rfl ?_
        refine gw_iconst 481 d_X13_law_480 rfl rfl ?_
        refine gw_cVIx (a := [gI x12, gI 3]) (rest := [gI x11]) 484 d_X13_law_481 rfl ml_13_59 v_X11_fate rfl sh_0 rfl rfl rfl h39 (fun v40 m41 h42 => ?_)
        have j226 : gw_G M_X13_law d QR Γ 495 [some (gR 900), some (gR 0), some (gI x2), some (gI x3), some (gI x4), y5, some (gI x6), some (gI x7), some (gI x8), some (gI (gw_w (x9 + v37))), some (gI (if x10 ≤ v37 then x10 else v37)), some (gI x11), some (gI x12), some (gI v37), y14, y15, y16, y17, y18, y19] [gI (if v40 < 0 then (0 : Int) else gw_shl 1 x12), gI x11] m41 := by
          refine gw_ior 496 d_X13_law_495 rfl  ?_
          refine gw_istore (ls' := [some (gR 900), some (gR 0), some (gI x2), some (gI x3), some (gI x4), y5, some (gI x6), some (gI x7), some (gI x8), some (gI (gw_w (x9 + v37))), some (gI (if x10 ≤ v37 then x10 else v37)), some (gI (gw_or x11 (if v40 < 0 then (0 : Int) else gw_shl 1 x12))), some (gI x12), some (gI v37), y14, y15, y16, y17, y18, y19]) 498 d_X13_law_496 rfl rfl rfl rfl ?_
          refine gw_aload_n 499 d_X13_law_498 rfl rfl ?_
          refine gw_iload 501 d_X13_law_499 rfl rfl ?_
          refine gw_iconst 502 d_X13_law_501 rfl rfl ?_
          refine gw_cVIx (a := [gI x12, gI 2]) (rest := []) 505 d_X13_law_502 rfl ml_13_59 v_X11_fate rfl sh_0 rfl rfl rfl h42 (fun v43 m44 h45 => ?_)
          refine gw_istore (ls' := [some (gR 900), some (gR 0), some (gI x2), some (gI x3), some (gI x4), y5, some (gI x6), some (gI x7), some (gI x8), some (gI (gw_w (x9 + v37))), some (gI (if x10 ≤ v37 then x10 else v37)), some (gI (gw_or x11 (if v40 < 0 then (0 : Int) else gw_shl 1 x12))), some (gI x12), some (gI v37), some (gI v43), y15, y16, y17, y18, y19]) 507 d_X13_law_505 rfl rfl rfl rfl ?_
          refine gw_iload 509 d_X13_law_507 rfl rfl ?_
          refine gw_if_lt 612 512 d_X13_law_509 rfl rfl (fun c228 => ?_) (fun c228 => ?_)
          · skip
            exact (h45.1 c228)
          · skip
            refine gw_iload 514 d_X13_law_512 rfl rfl ?_
            refine gw_iload 516 d_X13_law_514 rfl rfl ?_
            refine gw_icmp_gt 612 519 d_X13_law_516 rfl rfl (fun c229 => ?_) (fun c229 => ?_)
            · skip
              exact ((h45.2 c228).1 c229)
            · skip
              refine gw_aload_n 520 d_X13_law_519 rfl rfl ?_
              refine gw_iload 522 d_X13_law_520 rfl rfl ?_
              refine gw_iconst 523 d_X13_law_522 rfl rfl ?_
              refine gw_cVIx (a := [gI x12, gI 1]) (rest := []) 526 d_X13_law_523 rfl ml_13_59 v_X11_fate rfl sh_0 rfl rfl rfl ((h45.2 c228).2 c229) (fun v46 m47 h48 => ?_)
              refine gw_if_lt 612 529 d_X13_law_526 rfl rfl (fun c230 => ?_) (fun c230 => ?_)
              · skip
                exact (h48.1 c230)
              · skip
                refine gw_iload 531 d_X13_law_529 rfl rfl ?_
                refine gw_bipush 533 d_X13_law_531 rfl rfl (by decide) ?_
                refine gw_icmp_eq 589 536 d_X13_law_533 rfl rfl (fun c231 => ?_) (fun c231 => ?_)
                · skip
                  exact ((h48.2 c230).1 c231)
                · skip
                  refine gw_iload 538 d_X13_law_536 rfl rfl ?_
                  refine gw_sipush 541 d_X13_law_538 rfl rfl (by decide) ?_
                  refine gw_icmp_ge 612 544 d_X13_law_541 rfl rfl (fun c232 => ?_) (fun c232 => ?_)
                  · skip
                    exact (((h48.2 c230).2 c231).1 c232)
                  · skip
                    refine gw_aload_n 545 d_X13_law_544 rfl rfl ?_
                    refine gw_iload 547 d_X13_law_545 rfl rfl ?_
                    refine gw_iload 549 d_X13_law_547 rfl rfl ?_
                    refine gw_cVIx (a := [gI v43, gI x12]) (rest := []) 552 d_X13_law_549 rfl ml_13_56 v_X11_at rfl sh_0 rfl rfl rfl (((h48.2 c230).2 c231).2 c232) (fun v49 m50 h51 => ?_)
                    refine gw_iload 554 d_X13_law_552 rfl rfl ?_
                    refine gw_icmp_ne 612 557 d_X13_law_554 rfl rfl (fun c233 => ?_) (fun c233 => ?_)
                    · skip
                      refine gw_iload 559 d_X13_law_557 rfl rfl ?_
                      refine gw_if_eq 577 562 d_X13_law_559 rfl rfl (fun c234 => ?_) (fun c234 => ?_)
                      · skip
                        exact ((h51.1 c233).1 c234)
                      · skip
                        refine gw_aload_n 563 d_X13_law_562 rfl rfl ?_
                        refine gw_iload 565 d_X13_law_563 rfl rfl ?_
                        refine gw_iconst 566 d_X13_law_565 rfl rfl ?_
                        refine gw_isub 567 d_X13_law_566 rfl  ?_
                        refine gw_iload 569 d_X13_law_567 rfl rfl ?_
                        refine gw_cVIx (a := [gI (gw_w (v43 - 1)), gI x12]) (rest := []) 572 d_X13_law_569 rfl ml_13_56 v_X11_at rfl sh_0 rfl rfl rfl ((h51.1 c233).2 c234) (fun v52 m53 h54 => ?_)
                        refine gw_iload 574 d_X13_law_572 rfl rfl ?_
                        refine gw_icmp_ge 612 577 d_X13_law_574 rfl rfl (fun c235 => ?_) (fun c235 => ?_)
                        · skip
                          exact (h54.1 c235)
                        · skip
                          exact (h54.2 c235)
                    · skip
                      exact (h51.2 c233)
        refine gw_if_lt 494 487 d_X13_law_484 rfl rfl (fun c227 => ?_) (fun c227 => ?_)
        · skip
          refine gw_iconst 495 d_X13_law_494 rfl rfl ?_
          simpa only [if_pos c227] using j226
        · skip
          refine gw_iconst 488 d_X13_law_487 rfl rfl ?_
          refine gw_iload 490 d_X13_law_488 rfl rfl ?_
          refine gw_ishl 491 d_X13_law_490 rfl  ?_
          refine gw_goto 495 d_X13_law_491 rfl ?_
          simpa only [if_neg c227] using j226
      refine gw_icmp_ge 471 466 d_X13_law_463 rfl rfl (fun c225 => ?_) (fun c225 => ?_)
      · skip
        refine gw_iload 473 d_X13_law_471 rfl rfl ?_
        simpa only [if_pos c225] using j224
      · skip
        refine gw_iload 468 d_X13_law_466 rfl rfl ?_
        refine gw_goto 473 d_X13_law_468 rfl ?_
        simpa only [if_neg c225] using j224
set_option maxRecDepth 100000 in
set_option maxHeartbeats 4000000 in
theorem r_X13_law_577 {d : Nat} {QR : Option gw_SV → gw_Mem → Prop} {Γ : gw_Ga} (x2 : Int) (x3 : Int) (x4 : Int) (y5 : Option gw_SV) (x6 : Int) (x7 : Int) (x8 : Int) (x9 : Int) (x10 : Int) (x11 : Int) (x12 : Int) (x13 : Int) (x14 : Int) (y15 : Option gw_SV) (y16 : Option gw_SV) (y17 : Option gw_SV) (y18 : Option gw_SV) (y19 : Option gw_SV) (m : gw_Mem) (h : gw_CIx Γ d M_X11_fate [gR 0, gI x12, gI 3] m (fun v64 m65 => ((v64 = (-4) → gw_G M_X13_law d QR Γ 589 [some (gR 900), some (gR 0), some (gI x2), some (gI x3), some (gI x4), y5, some (gI x6), some (gI x7), some (gI x8), some (gI x9), some (gI x10), some (gI x11), some (gI x12), some (gI x13), some (gI x14), y15, y16, y17, y18, y19] [] m65) ∧ (¬ (v64 = (-4)) → gw_G M_X13_law d QR Γ 612 [some (gR 900), some (gR 0), some (gI x2), some (gI x3), some (gI x4), y5, some (gI x6), some (gI x7), some (gI x8), some (gI x9), some (gI x10), some (gI x11), some (gI x12), some (gI x13), some (gI x14), y15, y16, y17, y18, y19] [] m65)))) : gw_G M_X13_law d QR Γ 577 [some (gR 900), some (gR 0), some (gI x2), some (gI x3), some (gI x4), y5, some (gI x6), some (gI x7), some (gI x8), some (gI x9), some (gI x10), some (gI x11), some (gI x12), some (gI x13), some (gI x14), y15, y16, y17, y18, y19] [] m := by
  refine gw_aload_n 578 d_X13_law_577 rfl rfl ?_
  refine gw_iload 580 d_X13_law_578 rfl rfl ?_
  refine gw_iconst 581 d_X13_law_580 rfl rfl ?_
  refine gw_cVIx (a := [gI x12, gI 3]) (rest := []) 584 d_X13_law_581 rfl ml_13_59 v_X11_fate rfl sh_0 rfl rfl rfl h (fun v64 m65 h66 => ?_)
  refine gw_bipush 586 d_X13_law_584 rfl rfl (by decide) ?_
  refine gw_icmp_ne 612 589 d_X13_law_586 rfl rfl (fun c236 => ?_) (fun c236 => ?_)
  · skip
    exact (h66.1 c236)
  · skip
    exact (h66.2 c236)
set_option maxRecDepth 100000 in
set_option maxHeartbeats 4000000 in
theorem r_X13_law_589 {d : Nat} {QR : Option gw_SV → gw_Mem → Prop} {Γ : gw_Ga} (x2 : Int) (x3 : Int) (x4 : Int) (y5 : Option gw_SV) (x6 : Int) (x7 : Int) (x8 : Int) (x9 : Int) (x10 : Int) (x11 : Int) (x12 : Int) (x13 : Int) (x14 : Int) (y15 : Option gw_SV) (y16 : Option gw_SV) (y17 : Option gw_SV) (y18 : Option gw_SV) (y19 : Option gw_SV) (m : gw_Mem) (h : ((0 ≤ x14 → gw_G M_X13_law d QR Γ 608 [some (gR 900), some (gR 0), some (gI x2), some (gI x3), some (gI x4), y5, some (gI x6), some (gI x7), some (gI x8), some (gI x9), some (gI x10), some (gI x11), some (gI x12), some (gI x13), some (gI x14), y15, y16, y17, y18, y19] [] m) ∧ (¬ (0 ≤ x14) → gw_CIx Γ d M_X11_at [gR 0, gI 299, gI x12] m (fun v67 m68 => ((x4 ≤ v67 → gw_G M_X13_law d QR Γ 612 [some (gR 900), some (gR 0), some (gI x2), some (gI x3), some (gI x4), y5, some (gI x6), some (gI x7), some (gI x8), some (gI x9), some (gI x10), some (gI x11), some (gI x12), some (gI x13), some (gI x14), y15, y16, y17, y18, y19] [] m68) ∧ (¬ (x4 ≤ v67) → gw_G M_X13_law d QR Γ 608 [some (gR 900), some (gR 0), some (gI x2), some (gI x3), some (gI x4), y5, some (gI x6), some (gI x7), some (gI x8), some (gI x9), some (gI x10), some (gI x11), some (gI x12), some (gI x13), some (gI x14), y15, y16, y17, y18, y19] [] m68)))))) : gw_G M_X13_law d QR Γ 589 [some (gR 900), some (gR 0), some (gI x2), some (gI x3), some (gI x4), y5, some (gI x6), some (gI x7), some (gI x8), some (gI x9), some (gI x10), some (gI x11), some (gI x12), some (gI x13), some (gI x14), y15, y16, y17, y18, y19] [] m := by
  refine gw_iload 591 d_X13_law_589 rfl rfl ?_
  refine gw_if_ge 608 594 d_X13_law_591 rfl rfl (fun c237 => ?_) (fun c237 => ?_)
  · skip
    exact (h.1 c237)
  · skip
    refine gw_aload_n 595 d_X13_law_594 rfl rfl ?_
    refine gw_sipush 598 d_X13_law_595 rfl rfl (by decide) ?_
    refine gw_iload 600 d_X13_law_598 rfl rfl ?_
    refine gw_cVIx (a := [gI 299, gI x12]) (rest := []) 603 d_X13_law_600 rfl ml_13_56 v_X11_at rfl sh_0 rfl rfl rfl (h.2 c237) (fun v67 m68 h69 => ?_)
    refine gw_iload 605 d_X13_law_603 rfl rfl ?_
    refine gw_icmp_ge 612 608 d_X13_law_605 rfl rfl (fun c238 => ?_) (fun c238 => ?_)
    · skip
      exact (h69.1 c238)
    · skip
      exact (h69.2 c238)
set_option maxRecDepth 100000 in
set_option maxHeartbeats 4000000 in
theorem r_X13_law_608 {d : Nat} {QR : Option gw_SV → gw_Mem → Prop} {Γ : gw_Ga} (x2 : Int) (x3 : Int) (x4 : Int) (y5 : Option gw_SV) (x6 : Int) (x7 : Int) (x8 : Int) (x9 : Int) (x10 : Int) (x11 : Int) (x12 : Int) (x13 : Int) (x14 : Int) (y15 : Option gw_SV) (y16 : Option gw_SV) (y17 : Option gw_SV) (y18 : Option gw_SV) (y19 : Option gw_SV) (m : gw_Mem) (h : gw_G M_X13_law d QR Γ 613 [some (gR 900), some (gR 0), some (gI x2), some (gI x3), some (gI x4), y5, some (gI x6), some (gI x7), some (gI x8), some (gI x9), some (gI x10), some (gI x11), some (gI x12), some (gI x13), some (gI x14), y15, y16, y17, y18, y19] [gI 1] m) : gw_G M_X13_law d QR Γ 608 [some (gR 900), some (gR 0), some (gI x2), some (gI x3), some (gI x4), y5, some (gI x6), some (gI x7), some (gI x8), some (gI x9), some (gI x10), some (gI x11), some (gI x12), some (gI x13), some (gI x14), y15, y16, y17, y18, y19] [] m := by
  refine gw_iconst 609 d_X13_law_608 rfl rfl ?_
  refine gw_goto 613 d_X13_law_609 rfl ?_
  exact h
set_option maxRecDepth 100000 in
set_option maxHeartbeats 4000000 in
theorem r_X13_law_612 {d : Nat} {QR : Option gw_SV → gw_Mem → Prop} {Γ : gw_Ga} (x2 : Int) (x3 : Int) (x4 : Int) (y5 : Option gw_SV) (x6 : Int) (x7 : Int) (x8 : Int) (x9 : Int) (x10 : Int) (x11 : Int) (x12 : Int) (x13 : Int) (x14 : Int) (y15 : Option gw_SV) (y16 : Option gw_SV) (y17 : Option gw_SV) (y18 : Option gw_SV) (y19 : Option gw_SV) (m : gw_Mem) (h : gw_G M_X13_law d QR Γ 613 [some (gR 900), some (gR 0), some (gI x2), some (gI x3), some (gI x4), y5, some (gI x6), some (gI x7), some (gI x8), some (gI x9), some (gI x10), some (gI x11), some (gI x12), some (gI x13), some (gI x14), y15, y16, y17, y18, y19] [gI 0] m) : gw_G M_X13_law d QR Γ 612 [some (gR 900), some (gR 0), some (gI x2), some (gI x3), some (gI x4), y5, some (gI x6), some (gI x7), some (gI x8), some (gI x9), some (gI x10), some (gI x11), some (gI x12), some (gI x13), some (gI x14), y15, y16, y17, y18, y19] [] m := by
  refine gw_iconst 613 d_X13_law_612 rfl rfl ?_
  exact h
set_option maxRecDepth 100000 in
set_option maxHeartbeats 4000000 in
theorem r_X13_law_613 {d : Nat} {QR : Option gw_SV → gw_Mem → Prop} {Γ : gw_Ga} (x2 : Int) (x3 : Int) (x4 : Int) (y5 : Option gw_SV) (x6 : Int) (x7 : Int) (x8 : Int) (x9 : Int) (x10 : Int) (x11 : Int) (x12 : Int) (x13 : Int) (x14 : Int) (y15 : Option gw_SV) (y16 : Option gw_SV) (y17 : Option gw_SV) (y18 : Option gw_SV) (y19 : Option gw_SV) (z0 : Int) (m : gw_Mem) (h : gw_CIx Γ d M_X11_worth [gR 0, gI x12] m (fun v55 m56 => ((z0 = 0 → gw_G M_X13_law d QR Γ 669 [some (gR 900), some (gR 0), some (gI z0), some (gI x3), some (gI x4), y5, some (gI x6), some (gI x7), some (gI x8), some (gI x9), some (gI x10), some (gI x11), some (gI x12), some (gI x13), some (gI x14), some (gI v55), y16, y17, y18, y19] [gI 0] m56) ∧ (¬ (z0 = 0) → gw_CIx Γ d M_X13_one [gR 900, gI x12, gI 0] m56 (fun v58 m59 => ((v58 = 3 → gw_G M_X13_law d QR Γ 669 [some (gR 900), some (gR 0), some (gI z0), some (gI x3), some (gI x4), y5, some (gI x6), some (gI x7), some (gI x8), some (gI x9), some (gI x10), some (gI x11), some (gI x12), some (gI x13), some (gI x14), some (gI v55), y16, y17, y18, y19] [gI (if v55 ≤ (-100000) then (0 : Int) else (1 : Int))] m59) ∧ (¬ (v58 = 3) → gw_CIx Γ d M_X13_one [gR 900, gI x12, gI 2] m59 (fun v61 m62 => gw_G M_X13_law d QR Γ 669 [some (gR 900), some (gR 0), some (gI z0), some (gI x3), some (gI x4), y5, some (gI x6), some (gI x7), some (gI x8), some (gI x9), some (gI x10), some (gI x11), some (gI x12), some (gI x13), some (gI x14), some (gI v55), y16, y17, y18, y19] [gI (if v61 = 0 then (if v55 = (-100002) then (1 : Int) else (0 : Int)) else (if v55 ≤ (-100000) then (0 : Int) else (1 : Int)))] m62)))))))) : gw_G M_X13_law d QR Γ 613 [some (gR 900), some (gR 0), some (gI x2), some (gI x3), some (gI x4), y5, some (gI x6), some (gI x7), some (gI x8), some (gI x9), some (gI x10), some (gI x11), some (gI x12), some (gI x13), some (gI x14), y15, y16, y17, y18, y19] [gI z0] m := by
  refine gw_istore_n (ls' := [some (gR 900), some (gR 0), some (gI z0), some (gI x3), some (gI x4), y5, some (gI x6), some (gI x7), some (gI x8), some (gI x9), some (gI x10), some (gI x11), some (gI x12), some (gI x13), some (gI x14), y15, y16, y17, y18, y19]) 614 d_X13_law_613 rfl rfl rfl rfl ?_
  refine gw_aload_n 615 d_X13_law_614 rfl rfl ?_
  refine gw_iload 617 d_X13_law_615 rfl rfl ?_
  refine gw_cVIx (a := [gI x12]) (rest := []) 620 d_X13_law_617 rfl ml_13_62 v_X11_worth rfl sh_0 rfl rfl rfl h (fun v55 m56 h57 => ?_)
  refine gw_istore (ls' := [some (gR 900), some (gR 0), some (gI z0), some (gI x3), some (gI x4), y5, some (gI x6), some (gI x7), some (gI x8), some (gI x9), some (gI x10), some (gI x11), some (gI x12), some (gI x13), some (gI x14), some (gI v55), y16, y17, y18, y19]) 622 d_X13_law_620 rfl rfl rfl rfl ?_
  refine gw_iload_n 623 d_X13_law_622 rfl rfl ?_
  refine gw_if_eq 668 626 d_X13_law_623 rfl rfl (fun c239 => ?_) (fun c239 => ?_)
  · skip
    refine gw_iconst 669 d_X13_law_668 rfl rfl ?_
    exact (h57.1 c239)
  · skip
    refine gw_aload_n 627 d_X13_law_626 rfl rfl ?_
    refine gw_iload 629 d_X13_law_627 rfl rfl ?_
    refine gw_iconst 630 d_X13_law_629 rfl rfl ?_
    refine gw_cSIx (a := [gR 900, gI x12, gI 0]) (rest := []) 633 d_X13_law_630 rfl ml_13_43 v_X13_one rfl rfl rfl (h57.2 c239) (fun v58 m59 h60 => ?_)
    refine gw_iconst 634 d_X13_law_633 rfl rfl ?_
    refine gw_icmp_eq 657 637 d_X13_law_634 rfl rfl (fun c240 => ?_) (fun c240 => ?_)
    · skip
      refine gw_iload 659 d_X13_law_657 rfl rfl ?_
      refine gw_ldc 661 d_X13_law_659 rfl ct_13_66 (n := (-100000)) rfl (by decide) ?_
      have j241 : gw_G M_X13_law d QR Γ 669 [some (gR 900), some (gR 0), some (gI z0), some (gI x3), some (gI x4), y5, some (gI x6), some (gI x7), some (gI x8), some (gI x9), some (gI x10), some (gI x11), some (gI x12), some (gI x13), some (gI x14), some (gI v55), y16, y17, y18, y19] [gI (if v55 ≤ (-100000) then (0 : Int) else (1 : Int))] m59 := by
        exact (h60.1 c240)
      refine gw_icmp_le 668 664 d_X13_law_661 rfl rfl (fun c242 => ?_) (fun c242 => ?_)
      · skip
        refine gw_iconst 669 d_X13_law_668 rfl rfl ?_
        simpa only [if_pos c242] using j241
      · skip
        refine gw_iconst 665 d_X13_law_664 rfl rfl ?_
        refine gw_goto 669 d_X13_law_665 rfl ?_
        simpa only [if_neg c242] using j241
    · skip
      refine gw_aload_n 638 d_X13_law_637 rfl rfl ?_
      refine gw_iload 640 d_X13_law_638 rfl rfl ?_
      refine gw_iconst 641 d_X13_law_640 rfl rfl ?_
      refine gw_cSIx (a := [gR 900, gI x12, gI 2]) (rest := []) 644 d_X13_law_641 rfl ml_13_43 v_X13_one rfl rfl rfl (h60.2 c240) (fun v61 m62 h63 => ?_)
      have j243 : gw_G M_X13_law d QR Γ 669 [some (gR 900), some (gR 0), some (gI z0), some (gI x3), some (gI x4), y5, some (gI x6), some (gI x7), some (gI x8), some (gI x9), some (gI x10), some (gI x11), some (gI x12), some (gI x13), some (gI x14), some (gI v55), y16, y17, y18, y19] [gI (if v61 = 0 then (if v55 = (-100002) then (1 : Int) else (0 : Int)) else (if v55 ≤ (-100000) then (0 : Int) else (1 : Int)))] m62 := by
        exact h63
      refine gw_if_ne 657 647 d_X13_law_644 rfl rfl (fun c244 => ?_) (fun c244 => ?_)
      · skip
        refine gw_iload 649 d_X13_law_647 rfl rfl ?_
        refine gw_ldc 651 d_X13_law_649 rfl ct_13_65 (n := (-100002)) rfl (by decide) ?_
        refine gw_icmp_ne 668 654 d_X13_law_651 rfl rfl (fun c245 => ?_) (fun c245 => ?_)
        · skip
          refine gw_goto 664 d_X13_law_654 rfl ?_
          refine gw_iconst 665 d_X13_law_664 rfl rfl ?_
          refine gw_goto 669 d_X13_law_665 rfl ?_
          simpa only [if_pos c244, if_pos c245] using j243
        · skip
          refine gw_iconst 669 d_X13_law_668 rfl rfl ?_
          simpa only [if_pos c244, if_neg c245] using j243
      · skip
        refine gw_iload 659 d_X13_law_657 rfl rfl ?_
        refine gw_ldc 661 d_X13_law_659 rfl ct_13_66 (n := (-100000)) rfl (by decide) ?_
        refine gw_icmp_le 668 664 d_X13_law_661 rfl rfl (fun c246 => ?_) (fun c246 => ?_)
        · skip
          refine gw_iconst 669 d_X13_law_668 rfl rfl ?_
          simpa only [if_neg c244, if_pos c246] using j243
        · skip
          refine gw_iconst 665 d_X13_law_664 rfl rfl ?_
          refine gw_goto 669 d_X13_law_665 rfl ?_
          simpa only [if_neg c244, if_neg c246] using j243
set_option maxRecDepth 100000 in
set_option maxHeartbeats 4000000 in
theorem r_X13_law_669 {d : Nat} {QR : Option gw_SV → gw_Mem → Prop} {Γ : gw_Ga} (x2 : Int) (x3 : Int) (x4 : Int) (y5 : Option gw_SV) (x6 : Int) (x7 : Int) (x8 : Int) (x9 : Int) (x10 : Int) (x11 : Int) (x12 : Int) (x13 : Int) (x14 : Int) (x15 : Int) (y16 : Option gw_SV) (y17 : Option gw_SV) (y18 : Option gw_SV) (y19 : Option gw_SV) (z0 : Int) (m : gw_Mem) (h : gw_G M_X13_law d QR Γ 433 [some (gR 900), some (gR 0), some (gI z0), some (gI x3), some (gI x4), y5, some (gI x6), some (gI x7), some (gI x8), some (gI x9), some (gI x10), some (gI x11), some (gI (gw_w (x12 + 1))), some (gI x13), some (gI x14), some (gI x15), y16, y17, y18, y19] [] m) : gw_G M_X13_law d QR Γ 669 [some (gR 900), some (gR 0), some (gI x2), some (gI x3), some (gI x4), y5, some (gI x6), some (gI x7), some (gI x8), some (gI x9), some (gI x10), some (gI x11), some (gI x12), some (gI x13), some (gI x14), some (gI x15), y16, y17, y18, y19] [gI z0] m := by
  refine gw_istore_n (ls' := [some (gR 900), some (gR 0), some (gI z0), some (gI x3), some (gI x4), y5, some (gI x6), some (gI x7), some (gI x8), some (gI x9), some (gI x10), some (gI x11), some (gI x12), some (gI x13), some (gI x14), some (gI x15), y16, y17, y18, y19]) 670 d_X13_law_669 rfl rfl rfl rfl ?_
  refine gw_iinc (ls' := [some (gR 900), some (gR 0), some (gI z0), some (gI x3), some (gI x4), y5, some (gI x6), some (gI x7), some (gI x8), some (gI x9), some (gI x10), some (gI x11), some (gI (gw_w (x12 + 1))), some (gI x13), some (gI x14), some (gI x15), y16, y17, y18, y19]) 673 d_X13_law_670 rfl rfl rfl rfl rfl ?_
  refine gw_goto 433 d_X13_law_673 rfl ?_
  exact h
set_option maxRecDepth 100000 in
set_option maxHeartbeats 4000000 in
theorem r_X13_law_676 {d : Nat} {QR : Option gw_SV → gw_Mem → Prop} {Γ : gw_Ga} (x2 : Int) (x3 : Int) (x4 : Int) (y5 : Option gw_SV) (x6 : Int) (x7 : Int) (x8 : Int) (x9 : Int) (x10 : Int) (x11 : Int) (x12 : Int) (y13 : Option gw_SV) (y14 : Option gw_SV) (y15 : Option gw_SV) (y16 : Option gw_SV) (y17 : Option gw_SV) (y18 : Option gw_SV) (y19 : Option gw_SV) (m : gw_Mem) (h : ((x2 = 0 → gw_G M_X13_law d QR Γ 739 [some (gR 900), some (gR 0), some (gI x2), some (gI x3), some (gI x4), y5, some (gI x6), some (gI x7), some (gI x8), some (gI x9), some (gI x10), some (gI x11), some (gI x12), y13, y14, y15, y16, y17, y18, y19] [] m) ∧ (¬ (x2 = 0) → gw_CIx Γ d M_X11_all [gR 0, gI 0] m (fun v70 m71 => ((v70 = x9 → gw_CIx Γ d M_X11_all [gR 0, gI 1] m71 (fun v73 m74 => ((v73 = x10 → gw_CIx Γ d M_X11_all [gR 0, gI 5] m74 (fun v76 m77 => ((v76 = x11 → ((x6 < 0 → gw_G M_X13_law d QR Γ 725 [some (gR 900), some (gR 0), some (gI x2), some (gI x3), some (gI x4), y5, some (gI x6), some (gI x7), some (gI x8), some (gI x9), some (gI x10), some (gI x11), some (gI x12), y13, y14, y15, y16, y17, y18, y19] [] m77) ∧ (¬ (x6 < 0) → ((gw_and (gw_shr x11 x6) 1 = 0 → gw_G M_X13_law d QR Γ 725 [some (gR 900), some (gR 0), some (gI x2), some (gI x3), some (gI x4), y5, some (gI x6), some (gI x7), some (gI x8), some (gI x9), some (gI x10), some (gI x11), some (gI x12), y13, y14, y15, y16, y17, y18, y19] [] m77) ∧ (¬ (gw_and (gw_shr x11 x6) 1 = 0) → gw_G M_X13_law d QR Γ 739 [some (gR 900), some (gR 0), some (gI x2), some (gI x3), some (gI x4), y5, some (gI x6), some (gI x7), some (gI x8), some (gI x9), some (gI x10), some (gI x11), some (gI x12), y13, y14, y15, y16, y17, y18, y19] [] m77))))) ∧ (¬ (v76 = x11) → gw_G M_X13_law d QR Γ 739 [some (gR 900), some (gR 0), some (gI x2), some (gI x3), some (gI x4), y5, some (gI x6), some (gI x7), some (gI x8), some (gI x9), some (gI x10), some (gI x11), some (gI x12), y13, y14, y15, y16, y17, y18, y19] [] m77)))) ∧ (¬ (v73 = x10) → gw_G M_X13_law d QR Γ 739 [some (gR 900), some (gR 0), some (gI x2), some (gI x3), some (gI x4), y5, some (gI x6), some (gI x7), some (gI x8), some (gI x9), some (gI x10), some (gI x11), some (gI x12), y13, y14, y15, y16, y17, y18, y19] [] m74)))) ∧ (¬ (v70 = x9) → gw_G M_X13_law d QR Γ 739 [some (gR 900), some (gR 0), some (gI x2), some (gI x3), some (gI x4), y5, some (gI x6), some (gI x7), some (gI x8), some (gI x9), some (gI x10), some (gI x11), some (gI x12), y13, y14, y15, y16, y17, y18, y19] [] m71)))))) : gw_G M_X13_law d QR Γ 676 [some (gR 900), some (gR 0), some (gI x2), some (gI x3), some (gI x4), y5, some (gI x6), some (gI x7), some (gI x8), some (gI x9), some (gI x10), some (gI x11), some (gI x12), y13, y14, y15, y16, y17, y18, y19] [] m := by
  refine gw_iload_n 677 d_X13_law_676 rfl rfl ?_
  refine gw_if_eq 739 680 d_X13_law_677 rfl rfl (fun c247 => ?_) (fun c247 => ?_)
  · skip
    exact (h.1 c247)
  · skip
    refine gw_aload_n 681 d_X13_law_680 rfl rfl ?_
    refine gw_iconst 682 d_X13_law_681 rfl rfl ?_
    refine gw_cVIx (a := [gI 0]) (rest := []) 685 d_X13_law_682 rfl ml_13_67 v_X11_all rfl sh_0 rfl rfl rfl (h.2 c247) (fun v70 m71 h72 => ?_)
    refine gw_iload 687 d_X13_law_685 rfl rfl ?_
    refine gw_icmp_ne 739 690 d_X13_law_687 rfl rfl (fun c248 => ?_) (fun c248 => ?_)
    · skip
      refine gw_aload_n 691 d_X13_law_690 rfl rfl ?_
      refine gw_iconst 692 d_X13_law_691 rfl rfl ?_
      refine gw_cVIx (a := [gI 1]) (rest := []) 695 d_X13_law_692 rfl ml_13_67 v_X11_all rfl sh_0 rfl rfl rfl (h72.1 c248) (fun v73 m74 h75 => ?_)
      refine gw_iload 697 d_X13_law_695 rfl rfl ?_
      refine gw_icmp_ne 739 700 d_X13_law_697 rfl rfl (fun c249 => ?_) (fun c249 => ?_)
      · skip
        refine gw_aload_n 701 d_X13_law_700 rfl rfl ?_
        refine gw_iconst 702 d_X13_law_701 rfl rfl ?_
        refine gw_cVIx (a := [gI 5]) (rest := []) 705 d_X13_law_702 rfl ml_13_67 v_X11_all rfl sh_0 rfl rfl rfl (h75.1 c249) (fun v76 m77 h78 => ?_)
        refine gw_iload 707 d_X13_law_705 rfl rfl ?_
        refine gw_icmp_ne 739 710 d_X13_law_707 rfl rfl (fun c250 => ?_) (fun c250 => ?_)
        · skip
          refine gw_iload 712 d_X13_law_710 rfl rfl ?_
          refine gw_if_lt 725 715 d_X13_law_712 rfl rfl (fun c251 => ?_) (fun c251 => ?_)
          · skip
            exact ((h78.1 c250).1 c251)
          · skip
            refine gw_iload 717 d_X13_law_715 rfl rfl ?_
            refine gw_iload 719 d_X13_law_717 rfl rfl ?_
            refine gw_ishr 720 d_X13_law_719 rfl  ?_
            refine gw_iconst 721 d_X13_law_720 rfl rfl ?_
            refine gw_iand 722 d_X13_law_721 rfl  ?_
            refine gw_if_ne 739 725 d_X13_law_722 rfl rfl (fun c252 => ?_) (fun c252 => ?_)
            · skip
              exact (((h78.1 c250).2 c251).1 c252)
            · skip
              exact (((h78.1 c250).2 c251).2 c252)
        · skip
          exact (h78.2 c250)
      · skip
        exact (h75.2 c249)
    · skip
      exact (h72.2 c248)
set_option maxRecDepth 100000 in
set_option maxHeartbeats 4000000 in
theorem r_X13_law_725 {d : Nat} {QR : Option gw_SV → gw_Mem → Prop} {Γ : gw_Ga} (x2 : Int) (x3 : Int) (x4 : Int) (y5 : Option gw_SV) (x6 : Int) (x7 : Int) (x8 : Int) (x9 : Int) (x10 : Int) (x11 : Int) (x12 : Int) (y13 : Option gw_SV) (y14 : Option gw_SV) (y15 : Option gw_SV) (y16 : Option gw_SV) (y17 : Option gw_SV) (y18 : Option gw_SV) (y19 : Option gw_SV) (m : gw_Mem) (h : gw_CIx Γ d M_X11_all [gR 0, gI 4] m (fun v187 m188 => ((v187 < x7 → gw_G M_X13_law d QR Γ 739 [some (gR 900), some (gR 0), some (gI x2), some (gI x3), some (gI x4), y5, some (gI x6), some (gI x7), some (gI x8), some (gI x9), some (gI x10), some (gI x11), some (gI x12), y13, y14, y15, y16, y17, y18, y19] [] m188) ∧ (¬ (v187 < x7) → gw_G M_X13_law d QR Γ 740 [some (gR 900), some (gR 0), some (gI x2), some (gI x3), some (gI x4), y5, some (gI x6), some (gI x7), some (gI x8), some (gI x9), some (gI x10), some (gI x11), some (gI x12), y13, y14, y15, y16, y17, y18, y19] [gI 1] m188)))) : gw_G M_X13_law d QR Γ 725 [some (gR 900), some (gR 0), some (gI x2), some (gI x3), some (gI x4), y5, some (gI x6), some (gI x7), some (gI x8), some (gI x9), some (gI x10), some (gI x11), some (gI x12), y13, y14, y15, y16, y17, y18, y19] [] m := by
  refine gw_aload_n 726 d_X13_law_725 rfl rfl ?_
  refine gw_iconst 727 d_X13_law_726 rfl rfl ?_
  refine gw_cVIx (a := [gI 4]) (rest := []) 730 d_X13_law_727 rfl ml_13_67 v_X11_all rfl sh_0 rfl rfl rfl h (fun v187 m188 h189 => ?_)
  refine gw_iload 732 d_X13_law_730 rfl rfl ?_
  refine gw_icmp_lt 739 735 d_X13_law_732 rfl rfl (fun c253 => ?_) (fun c253 => ?_)
  · skip
    exact (h189.1 c253)
  · skip
    refine gw_iconst 736 d_X13_law_735 rfl rfl ?_
    refine gw_goto 740 d_X13_law_736 rfl ?_
    exact (h189.2 c253)
set_option maxRecDepth 100000 in
set_option maxHeartbeats 4000000 in
theorem r_X13_law_739 {d : Nat} {QR : Option gw_SV → gw_Mem → Prop} {Γ : gw_Ga} (x2 : Int) (x3 : Int) (x4 : Int) (y5 : Option gw_SV) (x6 : Int) (x7 : Int) (x8 : Int) (x9 : Int) (x10 : Int) (x11 : Int) (x12 : Int) (y13 : Option gw_SV) (y14 : Option gw_SV) (y15 : Option gw_SV) (y16 : Option gw_SV) (y17 : Option gw_SV) (y18 : Option gw_SV) (y19 : Option gw_SV) (m : gw_Mem) (h : gw_G M_X13_law d QR Γ 740 [some (gR 900), some (gR 0), some (gI x2), some (gI x3), some (gI x4), y5, some (gI x6), some (gI x7), some (gI x8), some (gI x9), some (gI x10), some (gI x11), some (gI x12), y13, y14, y15, y16, y17, y18, y19] [gI 0] m) : gw_G M_X13_law d QR Γ 739 [some (gR 900), some (gR 0), some (gI x2), some (gI x3), some (gI x4), y5, some (gI x6), some (gI x7), some (gI x8), some (gI x9), some (gI x10), some (gI x11), some (gI x12), y13, y14, y15, y16, y17, y18, y19] [] m := by
  refine gw_iconst 740 d_X13_law_739 rfl rfl ?_
  exact h
set_option maxRecDepth 100000 in
set_option maxHeartbeats 4000000 in
theorem r_X13_law_740 {d : Nat} {QR : Option gw_SV → gw_Mem → Prop} {Γ : gw_Ga} (x2 : Int) (x3 : Int) (x4 : Int) (y5 : Option gw_SV) (x6 : Int) (x7 : Int) (x8 : Int) (x9 : Int) (x10 : Int) (x11 : Int) (x12 : Int) (y13 : Option gw_SV) (y14 : Option gw_SV) (y15 : Option gw_SV) (y16 : Option gw_SV) (y17 : Option gw_SV) (y18 : Option gw_SV) (y19 : Option gw_SV) (z0 : Int) (m : gw_Mem) (h : gw_CIx Γ d M_X11_all [gR 0, gI 3] m (fun v79 m80 => ((v79 < 0 → gw_G M_X13_law d QR Γ 970 [some (gR 900), some (gR 0), some (gI z0), some (gI x3), some (gI x4), y5, some (gI x6), some (gI x7), some (gI x8), some (gI x9), some (gI x10), some (gI x11), some (gI v79), y13, y14, y15, y16, y17, y18, y19] [] m80) ∧ (¬ (v79 < 0) → gw_CIx Γ d M_X13_rule [gR 900, gI 2] m80 (fun v82 m83 => ((5 ≤ v82 → gw_G M_X13_law d QR Γ 970 [some (gR 900), some (gR 0), some (gI z0), some (gI x3), some (gI x4), y5, some (gI x6), some (gI x7), some (gI x8), some (gI x9), some (gI x10), some (gI x11), some (gI v79), y13, y14, y15, y16, y17, y18, y19] [] m83) ∧ (¬ (5 ≤ v82) → ((z0 = 0 → gw_G M_X13_law d QR Γ 970 [some (gR 900), some (gR 0), some (gI z0), some (gI x3), some (gI x4), y5, some (gI x6), some (gI x7), some (gI x8), some (gI x9), some (gI x10), some (gI x11), some (gI v79), y13, y14, y15, y16, y17, y18, y19] [] m83) ∧ (¬ (z0 = 0) → ((x11 = 0 → gw_CIx Γ d M_X11_all [gR 0, gI 2] m83 (fun v85 m86 => ((v85 < 0 → gw_G M_X13_law d QR Γ 823 [some (gR 900), some (gR 0), some (gI z0), some (gI x3), some (gI x4), y5, some (gI x6), some (gI x7), some (gI x8), some (gI x9), some (gI x10), some (gI x11), some (gI v79), y13, y14, y15, y16, y17, y18, y19] [] m86) ∧ (¬ (v85 < 0) → gw_CIx Γ d M_X11_all [gR 0, gI 2] m86 (fun v88 m89 => ((v79 < v88 → gw_G M_X13_law d QR Γ 823 [some (gR 900), some (gR 0), some (gI z0), some (gI x3), some (gI x4), y5, some (gI x6), some (gI x7), some (gI x8), some (gI x9), some (gI x10), some (gI x11), some (gI v79), y13, y14, y15, y16, y17, y18, y19] [] m89) ∧ (¬ (v79 < v88) → gw_CIx Γ d M_X11_best [gR 0, gI v79, gI 3] m89 (fun v91 m92 => ((v91 < x10 → gw_G M_X13_law d QR Γ 823 [some (gR 900), some (gR 0), some (gI z0), some (gI x3), some (gI x4), y5, some (gI x6), some (gI x7), some (gI x8), some (gI x9), some (gI x10), some (gI x11), some (gI v79), y13, y14, y15, y16, y17, y18, y19] [] m92) ∧ (¬ (v91 < x10) → gw_CIx Γ d M_X11_best [gR 0, gI 299, gI 3] m92 (fun v94 m95 => gw_CIx Γ d M_X11_best [gR 0, gI v79, gI 3] m95 (fun v97 m98 => ((v94 < v97 → gw_G M_X13_law d QR Γ 823 [some (gR 900), some (gR 0), some (gI z0), some (gI x3), some (gI x4), y5, some (gI x6), some (gI x7), some (gI x8), some (gI x9), some (gI x10), some (gI x11), some (gI v79), y13, y14, y15, y16, y17, y18, y19] [] m98) ∧ (¬ (v94 < v97) → gw_G M_X13_law d QR Γ 824 [some (gR 900), some (gR 0), some (gI z0), some (gI x3), some (gI x4), y5, some (gI x6), some (gI x7), some (gI x8), some (gI x9), some (gI x10), some (gI x11), some (gI v79), y13, y14, y15, y16, y17, y18, y19] [gI 1] m98)))))))))))))) ∧ (¬ (x11 = 0) → gw_G M_X13_law d QR Γ 823 [some (gR 900), some (gR 0), some (gI z0), some (gI x3), some (gI x4), y5, some (gI x6), some (gI x7), some (gI x8), some (gI x9), some (gI x10), some (gI x11), some (gI v79), y13, y14, y15, y16, y17, y18, y19] [] m83))))))))))) : gw_G M_X13_law d QR Γ 740 [some (gR 900), some (gR 0), some (gI x2), some (gI x3), some (gI x4), y5, some (gI x6), some (gI x7), some (gI x8), some (gI x9), some (gI x10), some (gI x11), some (gI x12), y13, y14, y15, y16, y17, y18, y19] [gI z0] m := by
  refine gw_istore_n (ls' := [some (gR 900), some (gR 0), some (gI z0), some (gI x3), some (gI x4), y5, some (gI x6), some (gI x7), some (gI x8), some (gI x9), some (gI x10), some (gI x11), some (gI x12), y13, y14, y15, y16, y17, y18, y19]) 741 d_X13_law_740 rfl rfl rfl rfl ?_
  refine gw_aload_n 742 d_X13_law_741 rfl rfl ?_
  refine gw_iconst 743 d_X13_law_742 rfl rfl ?_
  refine gw_cVIx (a := [gI 3]) (rest := []) 746 d_X13_law_743 rfl ml_13_67 v_X11_all rfl sh_0 rfl rfl rfl h (fun v79 m80 h81 => ?_)
  refine gw_istore (ls' := [some (gR 900), some (gR 0), some (gI z0), some (gI x3), some (gI x4), y5, some (gI x6), some (gI x7), some (gI x8), some (gI x9), some (gI x10), some (gI x11), some (gI v79), y13, y14, y15, y16, y17, y18, y19]) 748 d_X13_law_746 rfl rfl rfl rfl ?_
  refine gw_iload 750 d_X13_law_748 rfl rfl ?_
  refine gw_if_lt 970 753 d_X13_law_750 rfl rfl (fun c254 => ?_) (fun c254 => ?_)
  · skip
    exact (h81.1 c254)
  · skip
    refine gw_aload_n 754 d_X13_law_753 rfl rfl ?_
    refine gw_iconst 755 d_X13_law_754 rfl rfl ?_
    refine gw_cSIx (a := [gR 900, gI 2]) (rest := []) 758 d_X13_law_755 rfl ml_13_34 v_X13_rule rfl rfl rfl (h81.2 c254) (fun v82 m83 h84 => ?_)
    refine gw_iconst 759 d_X13_law_758 rfl rfl ?_
    refine gw_icmp_ge 970 762 d_X13_law_759 rfl rfl (fun c255 => ?_) (fun c255 => ?_)
    · skip
      exact (h84.1 c255)
    · skip
      refine gw_iload_n 763 d_X13_law_762 rfl rfl ?_
      refine gw_if_eq 970 766 d_X13_law_763 rfl rfl (fun c256 => ?_) (fun c256 => ?_)
      · skip
        exact ((h84.2 c255).1 c256)
      · skip
        refine gw_iload 768 d_X13_law_766 rfl rfl ?_
        refine gw_if_ne 823 771 d_X13_law_768 rfl rfl (fun c257 => ?_) (fun c257 => ?_)
        · skip
          refine gw_aload_n 772 d_X13_law_771 rfl rfl ?_
          refine gw_iconst 773 d_X13_law_772 rfl rfl ?_
          refine gw_cVIx (a := [gI 2]) (rest := []) 776 d_X13_law_773 rfl ml_13_67 v_X11_all rfl sh_0 rfl rfl rfl (((h84.2 c255).2 c256).1 c257) (fun v85 m86 h87 => ?_)
          refine gw_if_lt 823 779 d_X13_law_776 rfl rfl (fun c258 => ?_) (fun c258 => ?_)
          · skip
            exact (h87.1 c258)
          · skip
            refine gw_aload_n 780 d_X13_law_779 rfl rfl ?_
            refine gw_iconst 781 d_X13_law_780 rfl rfl ?_
            refine gw_cVIx (a := [gI 2]) (rest := []) 784 d_X13_law_781 rfl ml_13_67 v_X11_all rfl sh_0 rfl rfl rfl (h87.2 c258) (fun v88 m89 h90 => ?_)
            refine gw_iload 786 d_X13_law_784 rfl rfl ?_
            refine gw_icmp_gt 823 789 d_X13_law_786 rfl rfl (fun c259 => ?_) (fun c259 => ?_)
            · skip
              exact (h90.1 c259)
            · skip
              refine gw_aload_n 790 d_X13_law_789 rfl rfl ?_
              refine gw_iload 792 d_X13_law_790 rfl rfl ?_
              refine gw_iconst 793 d_X13_law_792 rfl rfl ?_
              refine gw_cVIx (a := [gI v79, gI 3]) (rest := []) 796 d_X13_law_793 rfl ml_13_70 v_X11_best rfl sh_0 rfl rfl rfl (h90.2 c259) (fun v91 m92 h93 => ?_)
              refine gw_iload 798 d_X13_law_796 rfl rfl ?_
              refine gw_icmp_lt 823 801 d_X13_law_798 rfl rfl (fun c260 => ?_) (fun c260 => ?_)
              · skip
                exact (h93.1 c260)
              · skip
                refine gw_aload_n 802 d_X13_law_801 rfl rfl ?_
                refine gw_sipush 805 d_X13_law_802 rfl rfl (by decide) ?_
                refine gw_iconst 806 d_X13_law_805 rfl rfl ?_
                refine gw_cVIx (a := [gI 299, gI 3]) (rest := []) 809 d_X13_law_806 rfl ml_13_70 v_X11_best rfl sh_0 rfl rfl rfl (h93.2 c260) (fun v94 m95 h96 => ?_)
                refine gw_aload_n 810 d_X13_law_809 rfl rfl ?_
                refine gw_iload 812 d_X13_law_810 rfl rfl ?_
                refine gw_iconst 813 d_X13_law_812 rfl rfl ?_
                refine gw_cVIx (a := [gI v79, gI 3]) (rest := [gI v94]) 816 d_X13_law_813 rfl ml_13_70 v_X11_best rfl sh_0 rfl rfl rfl h96 (fun v97 m98 h99 => ?_)
                refine gw_icmp_lt 823 819 d_X13_law_816 rfl rfl (fun c261 => ?_) (fun c261 => ?_)
                · skip
                  exact (h99.1 c261)
                · skip
                  refine gw_iconst 820 d_X13_law_819 rfl rfl ?_
                  refine gw_goto 824 d_X13_law_820 rfl ?_
                  exact (h99.2 c261)
        · skip
          exact (((h84.2 c255).2 c256).2 c257)
set_option maxRecDepth 100000 in
set_option maxHeartbeats 4000000 in
theorem r_X13_law_823 {d : Nat} {QR : Option gw_SV → gw_Mem → Prop} {Γ : gw_Ga} (x2 : Int) (x3 : Int) (x4 : Int) (y5 : Option gw_SV) (x6 : Int) (x7 : Int) (x8 : Int) (x9 : Int) (x10 : Int) (x11 : Int) (x12 : Int) (y13 : Option gw_SV) (y14 : Option gw_SV) (y15 : Option gw_SV) (y16 : Option gw_SV) (y17 : Option gw_SV) (y18 : Option gw_SV) (y19 : Option gw_SV) (m : gw_Mem) (h : gw_G M_X13_law d QR Γ 824 [some (gR 900), some (gR 0), some (gI x2), some (gI x3), some (gI x4), y5, some (gI x6), some (gI x7), some (gI x8), some (gI x9), some (gI x10), some (gI x11), some (gI x12), y13, y14, y15, y16, y17, y18, y19] [gI 0] m) : gw_G M_X13_law d QR Γ 823 [some (gR 900), some (gR 0), some (gI x2), some (gI x3), some (gI x4), y5, some (gI x6), some (gI x7), some (gI x8), some (gI x9), some (gI x10), some (gI x11), some (gI x12), y13, y14, y15, y16, y17, y18, y19] [] m := by
  refine gw_iconst 824 d_X13_law_823 rfl rfl ?_
  exact h
set_option maxRecDepth 100000 in
set_option maxHeartbeats 4000000 in
theorem r_X13_law_824 {d : Nat} {QR : Option gw_SV → gw_Mem → Prop} {Γ : gw_Ga} (x2 : Int) (x3 : Int) (x4 : Int) (y5 : Option gw_SV) (x6 : Int) (x7 : Int) (x8 : Int) (x9 : Int) (x10 : Int) (x11 : Int) (x12 : Int) (y13 : Option gw_SV) (y14 : Option gw_SV) (y15 : Option gw_SV) (y16 : Option gw_SV) (y17 : Option gw_SV) (y18 : Option gw_SV) (y19 : Option gw_SV) (z0 : Int) (m : gw_Mem) (h : gw_CIx Γ d M_X11_best [gR 0, gI x12, gI 0] m (fun v100 m101 => gw_CIx Γ d M_X11_best [gR 0, gI x12, gI 1] m101 (fun v103 m104 => gw_CIx Γ d M_X11_best [gR 0, gI x12, gI 2] m104 (fun v106 m107 => gw_CIx Γ d M_X11_best [gR 0, gI x12, gI 3] m107 (fun v109 m110 => ((z0 = 0 → gw_G M_X13_law d QR Γ 968 [some (gR 900), some (gR 0), some (gI z0), some (gI x3), some (gI x4), y5, some (gI x6), some (gI x7), some (gI x8), some (gI x9), some (gI x10), some (gI x11), some (gI x12), some (gI v100), some (gI v103), some (gI v106), some (gI v109), y17, y18, y19] [] m110) ∧ (¬ (z0 = 0) → gw_CIx Γ d M_X11_image [gR 0] m110 (fun v112 m113 => ((v112 = 1 → gw_CIx Γ d M_X11_rule [gR 0, gI 0, gI v100] m113 (fun v115 m116 => gw_CIx Γ d M_X13_rule [gR 900, gI 0] m116 (fun v118 m119 => ((v115 = v118 → gw_CIx Γ d M_X11_rule [gR 0, gI 1, gI v103] m119 (fun v121 m122 => gw_CIx Γ d M_X13_rule [gR 900, gI 1] m122 (fun v124 m125 => ((v121 = v124 → gw_CIx Γ d M_X11_rule [gR 0, gI 2, gI v106] m125 (fun v127 m128 => gw_CIx Γ d M_X13_rule [gR 900, gI 2] m128 (fun v130 m131 => ((v127 = v130 → gw_CIx Γ d M_X11_all [gR 0, gI 1] m131 (fun v133 m134 => ((v133 = v109 → gw_CIx Γ d M_X11_all [gR 0, gI 3] m134 (fun v136 m137 => ((v136 < 0 → gw_G M_X13_law d QR Γ 968 [some (gR 900), some (gR 0), some (gI z0), some (gI x3), some (gI x4), y5, some (gI x6), some (gI x7), some (gI x8), some (gI x9), some (gI x10), some (gI x11), some (gI x12), some (gI v100), some (gI v103), some (gI v106), some (gI v109), y17, y18, y19] [] m137) ∧ (¬ (v136 < 0) → gw_CIx Γ d M_X11_all [gR 0, gI 3] m137 (fun v139 m140 => ((x12 < v139 → gw_G M_X13_law d QR Γ 968 [some (gR 900), some (gR 0), some (gI z0), some (gI x3), some (gI x4), y5, some (gI x6), some (gI x7), some (gI x8), some (gI x9), some (gI x10), some (gI x11), some (gI x12), some (gI v100), some (gI v103), some (gI v106), some (gI v109), y17, y18, y19] [] m140) ∧ (¬ (x12 < v139) → gw_CIx Γ d M_X11_restore [gR 0] m140 (fun v142 m143 => ((v142 = 1 → gw_CIx Γ d M_X11_all [gR 0, gI 1] m143 (fun v145 m146 => ((v145 = x10 → gw_G M_X13_law d QR Γ 969 [some (gR 900), some (gR 0), some (gI z0), some (gI x3), some (gI x4), y5, some (gI x6), some (gI x7), some (gI x8), some (gI x9), some (gI x10), some (gI x11), some (gI x12), some (gI v100), some (gI v103), some (gI v106), some (gI v109), y17, y18, y19] [gI 1] m146) ∧ (¬ (v145 = x10) → gw_G M_X13_law d QR Γ 968 [some (gR 900), some (gR 0), some (gI z0), some (gI x3), some (gI x4), y5, some (gI x6), some (gI x7), some (gI x8), some (gI x9), some (gI x10), some (gI x11), some (gI x12), some (gI v100), some (gI v103), some (gI v106), some (gI v109), y17, y18, y19] [] m146)))) ∧ (¬ (v142 = 1) → gw_G M_X13_law d QR Γ 968 [some (gR 900), some (gR 0), some (gI z0), some (gI x3), some (gI x4), y5, some (gI x6), some (gI x7), some (gI x8), some (gI x9), some (gI x10), some (gI x11), some (gI x12), some (gI v100), some (gI v103), some (gI v106), some (gI v109), y17, y18, y19] [] m143)))))))))) ∧ (¬ (v133 = v109) → gw_G M_X13_law d QR Γ 968 [some (gR 900), some (gR 0), some (gI z0), some (gI x3), some (gI x4), y5, some (gI x6), some (gI x7), some (gI x8), some (gI x9), some (gI x10), some (gI x11), some (gI x12), some (gI v100), some (gI v103), some (gI v106), some (gI v109), y17, y18, y19] [] m134)))) ∧ (¬ (v127 = v130) → gw_G M_X13_law d QR Γ 968 [some (gR 900), some (gR 0), some (gI z0), some (gI x3), some (gI x4), y5, some (gI x6), some (gI x7), some (gI x8), some (gI x9), some (gI x10), some (gI x11), some (gI x12), some (gI v100), some (gI v103), some (gI v106), some (gI v109), y17, y18, y19] [] m131))))) ∧ (¬ (v121 = v124) → gw_G M_X13_law d QR Γ 968 [some (gR 900), some (gR 0), some (gI z0), some (gI x3), some (gI x4), y5, some (gI x6), some (gI x7), some (gI x8), some (gI x9), some (gI x10), some (gI x11), some (gI x12), some (gI v100), some (gI v103), some (gI v106), some (gI v109), y17, y18, y19] [] m125))))) ∧ (¬ (v115 = v118) → gw_G M_X13_law d QR Γ 968 [some (gR 900), some (gR 0), some (gI z0), some (gI x3), some (gI x4), y5, some (gI x6), some (gI x7), some (gI x8), some (gI x9), some (gI x10), some (gI x11), some (gI x12), some (gI v100), some (gI v103), some (gI v106), some (gI v109), y17, y18, y19] [] m119))))) ∧ (¬ (v112 = 1) → gw_G M_X13_law d QR Γ 968 [some (gR 900), some (gR 0), some (gI z0), some (gI x3), some (gI x4), y5, some (gI x6), some (gI x7), some (gI x8), some (gI x9), some (gI x10), some (gI x11), some (gI x12), some (gI v100), some (gI v103), some (gI v106), some (gI v109), y17, y18, y19] [] m113)))))))))) : gw_G M_X13_law d QR Γ 824 [some (gR 900), some (gR 0), some (gI x2), some (gI x3), some (gI x4), y5, some (gI x6), some (gI x7), some (gI x8), some (gI x9), some (gI x10), some (gI x11), some (gI x12), y13, y14, y15, y16, y17, y18, y19] [gI z0] m := by
  refine gw_istore_n (ls' := [some (gR 900), some (gR 0), some (gI z0), some (gI x3), some (gI x4), y5, some (gI x6), some (gI x7), some (gI x8), some (gI x9), some (gI x10), some (gI x11), some (gI x12), y13, y14, y15, y16, y17, y18, y19]) 825 d_X13_law_824 rfl rfl rfl rfl ?_
  refine gw_aload_n 826 d_X13_law_825 rfl rfl ?_
  refine gw_iload 828 d_X13_law_826 rfl rfl ?_
  refine gw_iconst 829 d_X13_law_828 rfl rfl ?_
  refine gw_cVIx (a := [gI x12, gI 0]) (rest := []) 832 d_X13_law_829 rfl ml_13_70 v_X11_best rfl sh_0 rfl rfl rfl h (fun v100 m101 h102 => ?_)
  refine gw_istore (ls' := [some (gR 900), some (gR 0), some (gI z0), some (gI x3), some (gI x4), y5, some (gI x6), some (gI x7), some (gI x8), some (gI x9), some (gI x10), some (gI x11), some (gI x12), some (gI v100), y14, y15, y16, y17, y18, y19]) 834 d_X13_law_832 rfl rfl rfl rfl ?_
  refine gw_aload_n 835 d_X13_law_834 rfl rfl ?_
  refine gw_iload 837 d_X13_law_835 rfl rfl ?_
  refine gw_iconst 838 d_X13_law_837 rfl rfl ?_
  refine gw_cVIx (a := [gI x12, gI 1]) (rest := []) 841 d_X13_law_838 rfl ml_13_70 v_X11_best rfl sh_0 rfl rfl rfl h102 (fun v103 m104 h105 => ?_)
  refine gw_istore (ls' := [some (gR 900), some (gR 0), some (gI z0), some (gI x3), some (gI x4), y5, some (gI x6), some (gI x7), some (gI x8), some (gI x9), some (gI x10), some (gI x11), some (gI x12), some (gI v100), some (gI v103), y15, y16, y17, y18, y19]) 843 d_X13_law_841 rfl rfl rfl rfl ?_
  refine gw_aload_n 844 d_X13_law_843 rfl rfl ?_
  refine gw_iload 846 d_X13_law_844 rfl rfl ?_
  refine gw_iconst 847 d_X13_law_846 rfl rfl ?_
  refine gw_cVIx (a := [gI x12, gI 2]) (rest := []) 850 d_X13_law_847 rfl ml_13_70 v_X11_best rfl sh_0 rfl rfl rfl h105 (fun v106 m107 h108 => ?_)
  refine gw_istore (ls' := [some (gR 900), some (gR 0), some (gI z0), some (gI x3), some (gI x4), y5, some (gI x6), some (gI x7), some (gI x8), some (gI x9), some (gI x10), some (gI x11), some (gI x12), some (gI v100), some (gI v103), some (gI v106), y16, y17, y18, y19]) 852 d_X13_law_850 rfl rfl rfl rfl ?_
  refine gw_aload_n 853 d_X13_law_852 rfl rfl ?_
  refine gw_iload 855 d_X13_law_853 rfl rfl ?_
  refine gw_iconst 856 d_X13_law_855 rfl rfl ?_
  refine gw_cVIx (a := [gI x12, gI 3]) (rest := []) 859 d_X13_law_856 rfl ml_13_70 v_X11_best rfl sh_0 rfl rfl rfl h108 (fun v109 m110 h111 => ?_)
  refine gw_istore (ls' := [some (gR 900), some (gR 0), some (gI z0), some (gI x3), some (gI x4), y5, some (gI x6), some (gI x7), some (gI x8), some (gI x9), some (gI x10), some (gI x11), some (gI x12), some (gI v100), some (gI v103), some (gI v106), some (gI v109), y17, y18, y19]) 861 d_X13_law_859 rfl rfl rfl rfl ?_
  refine gw_iload_n 862 d_X13_law_861 rfl rfl ?_
  refine gw_if_eq 968 865 d_X13_law_862 rfl rfl (fun c262 => ?_) (fun c262 => ?_)
  · skip
    exact (h111.1 c262)
  · skip
    refine gw_aload_n 866 d_X13_law_865 rfl rfl ?_
    refine gw_cVIx (a := []) (rest := []) 869 d_X13_law_866 rfl ml_13_73 v_X11_image rfl sh_0 rfl rfl rfl (h111.2 c262) (fun v112 m113 h114 => ?_)
    refine gw_iconst 870 d_X13_law_869 rfl rfl ?_
    refine gw_icmp_ne 968 873 d_X13_law_870 rfl rfl (fun c263 => ?_) (fun c263 => ?_)
    · skip
      refine gw_aload_n 874 d_X13_law_873 rfl rfl ?_
      refine gw_iconst 875 d_X13_law_874 rfl rfl ?_
      refine gw_iload 877 d_X13_law_875 rfl rfl ?_
      refine gw_cVIx (a := [gI 0, gI v100]) (rest := []) 880 d_X13_law_877 rfl ml_13_37 v_X11_rule rfl sh_0 rfl rfl rfl (h114.1 c263) (fun v115 m116 h117 => ?_)
      refine gw_aload_n 881 d_X13_law_880 rfl rfl ?_
      refine gw_iconst 882 d_X13_law_881 rfl rfl ?_
      refine gw_cSIx (a := [gR 900, gI 0]) (rest := [gI v115]) 885 d_X13_law_882 rfl ml_13_34 v_X13_rule rfl rfl rfl h117 (fun v118 m119 h120 => ?_)
      refine gw_icmp_ne 968 888 d_X13_law_885 rfl rfl (fun c264 => ?_) (fun c264 => ?_)
      · skip
        refine gw_aload_n 889 d_X13_law_888 rfl rfl ?_
        refine gw_iconst 890 d_X13_law_889 rfl rfl ?_
        refine gw_iload 892 d_X13_law_890 rfl rfl ?_
        refine gw_cVIx (a := [gI 1, gI v103]) (rest := []) 895 d_X13_law_892 rfl ml_13_37 v_X11_rule rfl sh_0 rfl rfl rfl (h120.1 c264) (fun v121 m122 h123 => ?_)
        refine gw_aload_n 896 d_X13_law_895 rfl rfl ?_
        refine gw_iconst 897 d_X13_law_896 rfl rfl ?_
        refine gw_cSIx (a := [gR 900, gI 1]) (rest := [gI v121]) 900 d_X13_law_897 rfl ml_13_34 v_X13_rule rfl rfl rfl h123 (fun v124 m125 h126 => ?_)
        refine gw_icmp_ne 968 903 d_X13_law_900 rfl rfl (fun c265 => ?_) (fun c265 => ?_)
        · skip
          refine gw_aload_n 904 d_X13_law_903 rfl rfl ?_
          refine gw_iconst 905 d_X13_law_904 rfl rfl ?_
          refine gw_iload 907 d_X13_law_905 rfl rfl ?_
          refine gw_cVIx (a := [gI 2, gI v106]) (rest := []) 910 d_X13_law_907 rfl ml_13_37 v_X11_rule rfl sh_0 rfl rfl rfl (h126.1 c265) (fun v127 m128 h129 => ?_)
          refine gw_aload_n 911 d_X13_law_910 rfl rfl ?_
          refine gw_iconst 912 d_X13_law_911 rfl rfl ?_
          refine gw_cSIx (a := [gR 900, gI 2]) (rest := [gI v127]) 915 d_X13_law_912 rfl ml_13_34 v_X13_rule rfl rfl rfl h129 (fun v130 m131 h132 => ?_)
          refine gw_icmp_ne 968 918 d_X13_law_915 rfl rfl (fun c266 => ?_) (fun c266 => ?_)
          · skip
            refine gw_aload_n 919 d_X13_law_918 rfl rfl ?_
            refine gw_iconst 920 d_X13_law_919 rfl rfl ?_
            refine gw_cVIx (a := [gI 1]) (rest := []) 923 d_X13_law_920 rfl ml_13_67 v_X11_all rfl sh_0 rfl rfl rfl (h132.1 c266) (fun v133 m134 h135 => ?_)
            refine gw_iload 925 d_X13_law_923 rfl rfl ?_
            refine gw_icmp_ne 968 928 d_X13_law_925 rfl rfl (fun c267 => ?_) (fun c267 => ?_)
            · skip
              refine gw_aload_n 929 d_X13_law_928 rfl rfl ?_
              refine gw_iconst 930 d_X13_law_929 rfl rfl ?_
              refine gw_cVIx (a := [gI 3]) (rest := []) 933 d_X13_law_930 rfl ml_13_67 v_X11_all rfl sh_0 rfl rfl rfl (h135.1 c267) (fun v136 m137 h138 => ?_)
              refine gw_if_lt 968 936 d_X13_law_933 rfl rfl (fun c268 => ?_) (fun c268 => ?_)
              · skip
                exact (h138.1 c268)
              · skip
                refine gw_aload_n 937 d_X13_law_936 rfl rfl ?_
                refine gw_iconst 938 d_X13_law_937 rfl rfl ?_
                refine gw_cVIx (a := [gI 3]) (rest := []) 941 d_X13_law_938 rfl ml_13_67 v_X11_all rfl sh_0 rfl rfl rfl (h138.2 c268) (fun v139 m140 h141 => ?_)
                refine gw_iload 943 d_X13_law_941 rfl rfl ?_
                refine gw_icmp_gt 968 946 d_X13_law_943 rfl rfl (fun c269 => ?_) (fun c269 => ?_)
                · skip
                  exact (h141.1 c269)
                · skip
                  refine gw_aload_n 947 d_X13_law_946 rfl rfl ?_
                  refine gw_cVIx (a := []) (rest := []) 950 d_X13_law_947 rfl ml_13_77 v_X11_restore rfl sh_0 rfl rfl rfl (h141.2 c269) (fun v142 m143 h144 => ?_)
                  refine gw_iconst 951 d_X13_law_950 rfl rfl ?_
                  refine gw_icmp_ne 968 954 d_X13_law_951 rfl rfl (fun c270 => ?_) (fun c270 => ?_)
                  · skip
                    refine gw_aload_n 955 d_X13_law_954 rfl rfl ?_
                    refine gw_iconst 956 d_X13_law_955 rfl rfl ?_
                    refine gw_cVIx (a := [gI 1]) (rest := []) 959 d_X13_law_956 rfl ml_13_67 v_X11_all rfl sh_0 rfl rfl rfl (h144.1 c270) (fun v145 m146 h147 => ?_)
                    refine gw_iload 961 d_X13_law_959 rfl rfl ?_
                    refine gw_icmp_ne 968 964 d_X13_law_961 rfl rfl (fun c271 => ?_) (fun c271 => ?_)
                    · skip
                      refine gw_iconst 965 d_X13_law_964 rfl rfl ?_
                      refine gw_goto 969 d_X13_law_965 rfl ?_
                      exact (h147.1 c271)
                    · skip
                      exact (h147.2 c271)
                  · skip
                    exact (h144.2 c270)
            · skip
              exact (h135.2 c267)
          · skip
            exact (h132.2 c266)
        · skip
          exact (h126.2 c265)
      · skip
        exact (h120.2 c264)
    · skip
      exact (h114.2 c263)
set_option maxRecDepth 100000 in
set_option maxHeartbeats 4000000 in
theorem r_X13_law_968 {d : Nat} {QR : Option gw_SV → gw_Mem → Prop} {Γ : gw_Ga} (x2 : Int) (x3 : Int) (x4 : Int) (y5 : Option gw_SV) (x6 : Int) (x7 : Int) (x8 : Int) (x9 : Int) (x10 : Int) (x11 : Int) (x12 : Int) (x13 : Int) (x14 : Int) (x15 : Int) (x16 : Int) (y17 : Option gw_SV) (y18 : Option gw_SV) (y19 : Option gw_SV) (m : gw_Mem) (h : gw_G M_X13_law d QR Γ 969 [some (gR 900), some (gR 0), some (gI x2), some (gI x3), some (gI x4), y5, some (gI x6), some (gI x7), some (gI x8), some (gI x9), some (gI x10), some (gI x11), some (gI x12), some (gI x13), some (gI x14), some (gI x15), some (gI x16), y17, y18, y19] [gI 0] m) : gw_G M_X13_law d QR Γ 968 [some (gR 900), some (gR 0), some (gI x2), some (gI x3), some (gI x4), y5, some (gI x6), some (gI x7), some (gI x8), some (gI x9), some (gI x10), some (gI x11), some (gI x12), some (gI x13), some (gI x14), some (gI x15), some (gI x16), y17, y18, y19] [] m := by
  refine gw_iconst 969 d_X13_law_968 rfl rfl ?_
  exact h
set_option maxRecDepth 100000 in
set_option maxHeartbeats 4000000 in
theorem r_X13_law_969 {d : Nat} {QR : Option gw_SV → gw_Mem → Prop} {Γ : gw_Ga} (x2 : Int) (x3 : Int) (x4 : Int) (y5 : Option gw_SV) (x6 : Int) (x7 : Int) (x8 : Int) (x9 : Int) (x10 : Int) (x11 : Int) (x12 : Int) (x13 : Int) (x14 : Int) (x15 : Int) (x16 : Int) (y17 : Option gw_SV) (y18 : Option gw_SV) (y19 : Option gw_SV) (z0 : Int) (m : gw_Mem) (h : gw_G M_X13_law d QR Γ 970 [some (gR 900), some (gR 0), some (gI z0), some (gI x3), some (gI x4), y5, some (gI x6), some (gI x7), some (gI x8), some (gI x9), some (gI x10), some (gI x11), some (gI x12), some (gI x13), some (gI x14), some (gI x15), some (gI x16), y17, y18, y19] [] m) : gw_G M_X13_law d QR Γ 969 [some (gR 900), some (gR 0), some (gI x2), some (gI x3), some (gI x4), y5, some (gI x6), some (gI x7), some (gI x8), some (gI x9), some (gI x10), some (gI x11), some (gI x12), some (gI x13), some (gI x14), some (gI x15), some (gI x16), y17, y18, y19] [gI z0] m := by
  refine gw_istore_n (ls' := [some (gR 900), some (gR 0), some (gI z0), some (gI x3), some (gI x4), y5, some (gI x6), some (gI x7), some (gI x8), some (gI x9), some (gI x10), some (gI x11), some (gI x12), some (gI x13), some (gI x14), some (gI x15), some (gI x16), y17, y18, y19]) 970 d_X13_law_969 rfl rfl rfl rfl ?_
  exact h
set_option maxRecDepth 100000 in
set_option maxHeartbeats 4000000 in
theorem r_X13_law_970 {d : Nat} {QR : Option gw_SV → gw_Mem → Prop} {Γ : gw_Ga} (x2 : Int) (x3 : Int) (x4 : Int) (y5 : Option gw_SV) (x6 : Int) (x7 : Int) (x8 : Int) (x9 : Int) (x10 : Int) (x11 : Int) (x12 : Int) (y13 : Option gw_SV) (y14 : Option gw_SV) (y15 : Option gw_SV) (y16 : Option gw_SV) (y17 : Option gw_SV) (y18 : Option gw_SV) (y19 : Option gw_SV) (m : gw_Mem) (h : gw_G M_X13_law d QR Γ 976 [some (gR 900), some (gR 0), some (gI x2), some (gI x3), some (gI x4), y5, some (gI x6), some (gI x7), some (gI x8), some (gI x9), some (gI x10), some (gI x11), some (gI x12), some (gI (-1)), some (gI 0), y15, y16, y17, y18, y19] [] m) : gw_G M_X13_law d QR Γ 970 [some (gR 900), some (gR 0), some (gI x2), some (gI x3), some (gI x4), y5, some (gI x6), some (gI x7), some (gI x8), some (gI x9), some (gI x10), some (gI x11), some (gI x12), y13, y14, y15, y16, y17, y18, y19] [] m := by
  refine gw_iconst 971 d_X13_law_970 rfl rfl ?_
  refine gw_istore (ls' := [some (gR 900), some (gR 0), some (gI x2), some (gI x3), some (gI x4), y5, some (gI x6), some (gI x7), some (gI x8), some (gI x9), some (gI x10), some (gI x11), some (gI x12), some (gI (-1)), y14, y15, y16, y17, y18, y19]) 973 d_X13_law_971 rfl rfl rfl rfl ?_
  refine gw_iconst 974 d_X13_law_973 rfl rfl ?_
  refine gw_istore (ls' := [some (gR 900), some (gR 0), some (gI x2), some (gI x3), some (gI x4), y5, some (gI x6), some (gI x7), some (gI x8), some (gI x9), some (gI x10), some (gI x11), some (gI x12), some (gI (-1)), some (gI 0), y15, y16, y17, y18, y19]) 976 d_X13_law_974 rfl rfl rfl rfl ?_
  exact h
set_option maxRecDepth 100000 in
set_option maxHeartbeats 4000000 in
theorem r_X13_law_976 {d : Nat} {QR : Option gw_SV → gw_Mem → Prop} {Γ : gw_Ga} (x2 : Int) (x3 : Int) (x4 : Int) (y5 : Option gw_SV) (x6 : Int) (x7 : Int) (x8 : Int) (x9 : Int) (x10 : Int) (x11 : Int) (x12 : Int) (x13 : Int) (x14 : Int) (y15 : Option gw_SV) (y16 : Option gw_SV) (y17 : Option gw_SV) (y18 : Option gw_SV) (y19 : Option gw_SV) (m : gw_Mem) (h : ((120 ≤ x14 → gw_G M_X13_law d QR Γ 1140 [some (gR 900), some (gR 0), some (gI x2), some (gI x3), some (gI x4), y5, some (gI x6), some (gI x7), some (gI x8), some (gI x9), some (gI x10), some (gI x11), some (gI x12), some (gI x13), some (gI x14), y15, y16, y17, y18, y19] [] m) ∧ (¬ (120 ≤ x14) → ((x2 = 0 → gw_G M_X13_law d QR Γ 1140 [some (gR 900), some (gR 0), some (gI x2), some (gI x3), some (gI x4), y5, some (gI x6), some (gI x7), some (gI x8), some (gI x9), some (gI x10), some (gI x11), some (gI x12), some (gI x13), some (gI x14), y15, y16, y17, y18, y19] [] m) ∧ (¬ (x2 = 0) → gw_CIx Γ d M_X11_chosen [gR 0, gI x14, gI 1] m (fun v148 m149 => gw_CIx Γ d M_X11_chosen [gR 0, gI x14, gI 0] m149 (fun v151 m152 => gw_CIx Γ d M_X13_rule [gR 900, gI 0] m152 (fun v154 m155 => gw_CIx Γ d M_X13_rule [gR 900, gI 0] m155 (fun v157 m158 => v157 ≠ 0 ∧ gw_G M_X13_law d QR Γ 1026 [some (gR 900), some (gR 0), some (gI x2), some (gI x3), some (gI x4), y5, some (gI x6), some (gI x7), some (gI x8), some (gI x9), some (gI x10), some (gI x11), some (gI x12), some (gI x13), some (gI x14), some (gI v148), some (gI v151), some (gI (gw_w ((gw_w ((gw_w (x4 + v154)) - 1)).tdiv v157))), some (gI 0), y19] [] m158))))))))) : gw_G M_X13_law d QR Γ 976 [some (gR 900), some (gR 0), some (gI x2), some (gI x3), some (gI x4), y5, some (gI x6), some (gI x7), some (gI x8), some (gI x9), some (gI x10), some (gI x11), some (gI x12), some (gI x13), some (gI x14), y15, y16, y17, y18, y19] [] m := by
  refine gw_iload 978 d_X13_law_976 rfl rfl ?_
  refine gw_bipush 980 d_X13_law_978 rfl rfl (by decide) ?_
  refine gw_icmp_ge 1140 983 d_X13_law_980 rfl rfl (fun c272 => ?_) (fun c272 => ?_)
  · skip
    exact (h.1 c272)
  · skip
    refine gw_iload_n 984 d_X13_law_983 rfl rfl ?_
    refine gw_if_eq 1140 987 d_X13_law_984 rfl rfl (fun c273 => ?_) (fun c273 => ?_)
    · skip
      exact ((h.2 c272).1 c273)
    · skip
      refine gw_aload_n 988 d_X13_law_987 rfl rfl ?_
      refine gw_iload 990 d_X13_law_988 rfl rfl ?_
      refine gw_iconst 991 d_X13_law_990 rfl rfl ?_
      refine gw_cVIx (a := [gI x14, gI 1]) (rest := []) 994 d_X13_law_991 rfl ml_13_80 v_X11_chosen rfl sh_0 rfl rfl rfl ((h.2 c272).2 c273) (fun v148 m149 h150 => ?_)
      refine gw_istore (ls' := [some (gR 900), some (gR 0), some (gI x2), some (gI x3), some (gI x4), y5, some (gI x6), some (gI x7), some (gI x8), some (gI x9), some (gI x10), some (gI x11), some (gI x12), some (gI x13), some (gI x14), some (gI v148), y16, y17, y18, y19]) 996 d_X13_law_994 rfl rfl rfl rfl ?_
      refine gw_aload_n 997 d_X13_law_996 rfl rfl ?_
      refine gw_iload 999 d_X13_law_997 rfl rfl ?_
      refine gw_iconst 1000 d_X13_law_999 rfl rfl ?_
      refine gw_cVIx (a := [gI x14, gI 0]) (rest := []) 1003 d_X13_law_1000 rfl ml_13_80 v_X11_chosen rfl sh_0 rfl rfl rfl h150 (fun v151 m152 h153 => ?_)
      refine gw_istore (ls' := [some (gR 900), some (gR 0), some (gI x2), some (gI x3), some (gI x4), y5, some (gI x6), some (gI x7), some (gI x8), some (gI x9), some (gI x10), some (gI x11), some (gI x12), some (gI x13), some (gI x14), some (gI v148), some (gI v151), y17, y18, y19]) 1005 d_X13_law_1003 rfl rfl rfl rfl ?_
      refine gw_iload 1007 d_X13_law_1005 rfl rfl ?_
      refine gw_aload_n 1008 d_X13_law_1007 rfl rfl ?_
      refine gw_iconst 1009 d_X13_law_1008 rfl rfl ?_
      refine gw_cSIx (a := [gR 900, gI 0]) (rest := [gI x4]) 1012 d_X13_law_1009 rfl ml_13_34 v_X13_rule rfl rfl rfl h153 (fun v154 m155 h156 => ?_)
      refine gw_iadd 1013 d_X13_law_1012 rfl  ?_
      refine gw_iconst 1014 d_X13_law_1013 rfl rfl ?_
      refine gw_isub 1015 d_X13_law_1014 rfl  ?_
      refine gw_aload_n 1016 d_X13_law_1015 rfl rfl ?_
      refine gw_iconst 1017 d_X13_law_1016 rfl rfl ?_
      refine gw_cSIx (a := [gR 900, gI 0]) (rest := [gI (gw_w ((gw_w (x4 + v154)) - 1))]) 1020 d_X13_law_1017 rfl ml_13_34 v_X13_rule rfl rfl rfl h156 (fun v157 m158 h159 => ?_)
      refine gw_idiv 1021 d_X13_law_1020 rfl h159.1 ?_
      refine gw_istore (ls' := [some (gR 900), some (gR 0), some (gI x2), some (gI x3), some (gI x4), y5, some (gI x6), some (gI x7), some (gI x8), some (gI x9), some (gI x10), some (gI x11), some (gI x12), some (gI x13), some (gI x14), some (gI v148), some (gI v151), some (gI (gw_w ((gw_w ((gw_w (x4 + v154)) - 1)).tdiv v157))), y18, y19]) 1023 d_X13_law_1021 rfl rfl rfl rfl ?_
      refine gw_iconst 1024 d_X13_law_1023 rfl rfl ?_
      refine gw_istore (ls' := [some (gR 900), some (gR 0), some (gI x2), some (gI x3), some (gI x4), y5, some (gI x6), some (gI x7), some (gI x8), some (gI x9), some (gI x10), some (gI x11), some (gI x12), some (gI x13), some (gI x14), some (gI v148), some (gI v151), some (gI (gw_w ((gw_w ((gw_w (x4 + v154)) - 1)).tdiv v157))), some (gI 0), y19]) 1026 d_X13_law_1024 rfl rfl rfl rfl ?_
      exact h159.2
set_option maxRecDepth 100000 in
set_option maxHeartbeats 4000000 in
theorem r_X13_law_1026 {d : Nat} {QR : Option gw_SV → gw_Mem → Prop} {Γ : gw_Ga} (x2 : Int) (x3 : Int) (x4 : Int) (y5 : Option gw_SV) (x6 : Int) (x7 : Int) (x8 : Int) (x9 : Int) (x10 : Int) (x11 : Int) (x12 : Int) (x13 : Int) (x14 : Int) (x15 : Int) (x16 : Int) (x17 : Int) (x18 : Int) (y19 : Option gw_SV) (m : gw_Mem) (h : gw_CIx Γ d M_X13_marks [gR 900, gI 0] m (fun v160 m161 => ((v160 ≤ x18 → gw_G M_X13_law d QR Γ 976 [some (gR 900), some (gR 0), some (gI (if (if 0 ≤ x16 then (0 : Int) else (1 : Int)) = (if 0 ≤ x15 then (0 : Int) else (1 : Int)) then (if x13 ≤ x15 then (if x16 < 0 then (1 : Int) else (if x14 < x17 then (0 : Int) else (1 : Int))) else (if x15 = (-4) then (if x16 < 0 then (1 : Int) else (if x14 < x17 then (0 : Int) else (1 : Int))) else (0 : Int))) else (0 : Int))), some (gI x3), some (gI x4), y5, some (gI x6), some (gI x7), some (gI x8), some (gI x9), some (gI x10), some (gI x11), some (gI x12), some (gI x15), some (gI (gw_w (x14 + 11))), some (gI x15), some (gI x16), some (gI x17), some (gI x18), y19] [] m161) ∧ (¬ (v160 ≤ x18) → ((x16 < 0 → gw_G M_X13_law d QR Γ 1065 [some (gR 900), some (gR 0), some (gI x2), some (gI x3), some (gI x4), y5, some (gI x6), some (gI x7), some (gI x8), some (gI x9), some (gI x10), some (gI x11), some (gI x12), some (gI x13), some (gI x14), some (gI x15), some (gI x16), some (gI x17), some (gI x18), y19] [gI x17] m161) ∧ (¬ (x16 < 0) → ((gw_and (gw_shr x16 x18) 1 = 1 → gw_CIx Γ d M_X13_mark [gR 900, gI 0, gI x18, gI 1] m161 (fun v163 m164 => gw_G M_X13_law d QR Γ 1066 [some (gR 900), some (gR 0), some (gI x2), some (gI x3), some (gI x4), y5, some (gI x6), some (gI x7), some (gI x8), some (gI x9), some (gI x10), some (gI x11), some (gI x12), some (gI x13), some (gI x14), some (gI x15), some (gI x16), some (gI x17), some (gI x18), y19] [gI v163, gI x17] m164)) ∧ (¬ (gw_and (gw_shr x16 x18) 1 = 1) → gw_G M_X13_law d QR Γ 1065 [some (gR 900), some (gR 0), some (gI x2), some (gI x3), some (gI x4), y5, some (gI x6), some (gI x7), some (gI x8), some (gI x9), some (gI x10), some (gI x11), some (gI x12), some (gI x13), some (gI x14), some (gI x15), some (gI x16), some (gI x17), some (gI x18), y19] [gI x17] m161)))))))) : gw_G M_X13_law d QR Γ 1026 [some (gR 900), some (gR 0), some (gI x2), some (gI x3), some (gI x4), y5, some (gI x6), some (gI x7), some (gI x8), some (gI x9), some (gI x10), some (gI x11), some (gI x12), some (gI x13), some (gI x14), some (gI x15), some (gI x16), some (gI x17), some (gI x18), y19] [] m := by
  refine gw_iload 1028 d_X13_law_1026 rfl rfl ?_
  refine gw_aload_n 1029 d_X13_law_1028 rfl rfl ?_
  refine gw_iconst 1030 d_X13_law_1029 rfl rfl ?_
  refine gw_cSIx (a := [gR 900, gI 0]) (rest := [gI x18]) 1033 d_X13_law_1030 rfl ml_13_24 v_X13_marks rfl rfl rfl h (fun v160 m161 h162 => ?_)
  refine gw_icmp_ge 1075 1036 d_X13_law_1033 rfl rfl (fun c274 => ?_) (fun c274 => ?_)
  · skip
    refine gw_iload 1077 d_X13_law_1075 rfl rfl ?_
    have j275 : gw_G M_X13_law d QR Γ 1085 [some (gR 900), some (gR 0), some (gI x2), some (gI x3), some (gI x4), y5, some (gI x6), some (gI x7), some (gI x8), some (gI x9), some (gI x10), some (gI x11), some (gI x12), some (gI x13), some (gI x14), some (gI x15), some (gI x16), some (gI x17), some (gI x18), y19] [gI (if 0 ≤ x16 then (0 : Int) else (1 : Int))] m161 := by
      refine gw_iload 1087 d_X13_law_1085 rfl rfl ?_
      have j277 : gw_G M_X13_law d QR Γ 1095 [some (gR 900), some (gR 0), some (gI x2), some (gI x3), some (gI x4), y5, some (gI x6), some (gI x7), some (gI x8), some (gI x9), some (gI x10), some (gI x11), some (gI x12), some (gI x13), some (gI x14), some (gI x15), some (gI x16), some (gI x17), some (gI x18), y19] [gI (if 0 ≤ x15 then (0 : Int) else (1 : Int)), gI (if 0 ≤ x16 then (0 : Int) else (1 : Int))] m161 := by
        have j279 : gw_G M_X13_law d QR Γ 1129 [some (gR 900), some (gR 0), some (gI x2), some (gI x3), some (gI x4), y5, some (gI x6), some (gI x7), some (gI x8), some (gI x9), some (gI x10), some (gI x11), some (gI x12), some (gI x13), some (gI x14), some (gI x15), some (gI x16), some (gI x17), some (gI x18), y19] [gI (if (if 0 ≤ x16 then (0 : Int) else (1 : Int)) = (if 0 ≤ x15 then (0 : Int) else (1 : Int)) then (if x13 ≤ x15 then (if x16 < 0 then (1 : Int) else (if x14 < x17 then (0 : Int) else (1 : Int))) else (if x15 = (-4) then (if x16 < 0 then (1 : Int) else (if x14 < x17 then (0 : Int) else (1 : Int))) else (0 : Int))) else (0 : Int))] m161 := by
          refine gw_istore_n (ls' := [some (gR 900), some (gR 0), some (gI (if (if 0 ≤ x16 then (0 : Int) else (1 : Int)) = (if 0 ≤ x15 then (0 : Int) else (1 : Int)) then (if x13 ≤ x15 then (if x16 < 0 then (1 : Int) else (if x14 < x17 then (0 : Int) else (1 : Int))) else (if x15 = (-4) then (if x16 < 0 then (1 : Int) else (if x14 < x17 then (0 : Int) else (1 : Int))) else (0 : Int))) else (0 : Int))), some (gI x3), some (gI x4), y5, some (gI x6), some (gI x7), some (gI x8), some (gI x9), some (gI x10), some (gI x11), some (gI x12), some (gI x13), some (gI x14), some (gI x15), some (gI x16), some (gI x17), some (gI x18), y19]) 1130 d_X13_law_1129 rfl rfl rfl rfl ?_
          refine gw_iload 1132 d_X13_law_1130 rfl rfl ?_
          refine gw_istore (ls' := [some (gR 900), some (gR 0), some (gI (if (if 0 ≤ x16 then (0 : Int) else (1 : Int)) = (if 0 ≤ x15 then (0 : Int) else (1 : Int)) then (if x13 ≤ x15 then (if x16 < 0 then (1 : Int) else (if x14 < x17 then (0 : Int) else (1 : Int))) else (if x15 = (-4) then (if x16 < 0 then (1 : Int) else (if x14 < x17 then (0 : Int) else (1 : Int))) else (0 : Int))) else (0 : Int))), some (gI x3), some (gI x4), y5, some (gI x6), some (gI x7), some (gI x8), some (gI x9), some (gI x10), some (gI x11), some (gI x12), some (gI x15), some (gI x14), some (gI x15), some (gI x16), some (gI x17), some (gI x18), y19]) 1134 d_X13_law_1132 rfl rfl rfl rfl ?_
          refine gw_iinc (ls' := [some (gR 900), some (gR 0), some (gI (if (if 0 ≤ x16 then (0 : Int) else (1 : Int)) = (if 0 ≤ x15 then (0 : Int) else (1 : Int)) then (if x13 ≤ x15 then (if x16 < 0 then (1 : Int) else (if x14 < x17 then (0 : Int) else (1 : Int))) else (if x15 = (-4) then (if x16 < 0 then (1 : Int) else (if x14 < x17 then (0 : Int) else (1 : Int))) else (0 : Int))) else (0 : Int))), some (gI x3), some (gI x4), y5, some (gI x6), some (gI x7), some (gI x8), some (gI x9), some (gI x10), some (gI x11), some (gI x12), some (gI x15), some (gI (gw_w (x14 + 11))), some (gI x15), some (gI x16), some (gI x17), some (gI x18), y19]) 1137 d_X13_law_1134 rfl rfl rfl rfl rfl ?_
          refine gw_goto 976 d_X13_law_1137 rfl ?_
          exact (h162.1 c274)
        refine gw_icmp_ne 1128 1098 d_X13_law_1095 rfl rfl (fun c280 => ?_) (fun c280 => ?_)
        · skip
          refine gw_iload 1100 d_X13_law_1098 rfl rfl ?_
          refine gw_iload 1102 d_X13_law_1100 rfl rfl ?_
          refine gw_icmp_ge 1112 1105 d_X13_law_1102 rfl rfl (fun c281 => ?_) (fun c281 => ?_)
          · skip
            refine gw_iload 1114 d_X13_law_1112 rfl rfl ?_
            refine gw_if_lt 1124 1117 d_X13_law_1114 rfl rfl (fun c282 => ?_) (fun c282 => ?_)
            · skip
              refine gw_iconst 1125 d_X13_law_1124 rfl rfl ?_
              refine gw_goto 1129 d_X13_law_1125 rfl ?_
              simpa only [if_pos c280, if_pos c281, if_pos c282] using j279
            · skip
              refine gw_iload 1119 d_X13_law_1117 rfl rfl ?_
              refine gw_iload 1121 d_X13_law_1119 rfl rfl ?_
              refine gw_icmp_gt 1128 1124 d_X13_law_1121 rfl rfl (fun c283 => ?_) (fun c283 => ?_)
              · skip
                refine gw_iconst 1129 d_X13_law_1128 rfl rfl ?_
                simpa only [if_pos c280, if_pos c281, if_neg c282, if_pos c283] using j279
              · skip
                refine gw_iconst 1125 d_X13_law_1124 rfl rfl ?_
                refine gw_goto 1129 d_X13_law_1125 rfl ?_
                simpa only [if_pos c280, if_pos c281, if_neg c282, if_neg c283] using j279
          · skip
            refine gw_iload 1107 d_X13_law_1105 rfl rfl ?_
            refine gw_bipush 1109 d_X13_law_1107 rfl rfl (by decide) ?_
            refine gw_icmp_ne 1128 1112 d_X13_law_1109 rfl rfl (fun c284 => ?_) (fun c284 => ?_)
            · skip
              refine gw_iload 1114 d_X13_law_1112 rfl rfl ?_
              refine gw_if_lt 1124 1117 d_X13_law_1114 rfl rfl (fun c285 => ?_) (fun c285 => ?_)
              · skip
                refine gw_iconst 1125 d_X13_law_1124 rfl rfl ?_
                refine gw_goto 1129 d_X13_law_1125 rfl ?_
                simpa only [if_pos c280, if_neg c281, if_pos c284, if_pos c285] using j279
              · skip
                refine gw_iload 1119 d_X13_law_1117 rfl rfl ?_
                refine gw_iload 1121 d_X13_law_1119 rfl rfl ?_
                refine gw_icmp_gt 1128 1124 d_X13_law_1121 rfl rfl (fun c286 => ?_) (fun c286 => ?_)
                · skip
                  refine gw_iconst 1129 d_X13_law_1128 rfl rfl ?_
                  simpa only [if_pos c280, if_neg c281, if_pos c284, if_neg c285, if_pos c286] using j279
                · skip
                  refine gw_iconst 1125 d_X13_law_1124 rfl rfl ?_
                  refine gw_goto 1129 d_X13_law_1125 rfl ?_
                  simpa only [if_pos c280, if_neg c281, if_pos c284, if_neg c285, if_neg c286] using j279
            · skip
              refine gw_iconst 1129 d_X13_law_1128 rfl rfl ?_
              simpa only [if_pos c280, if_neg c281, if_neg c284] using j279
        · skip
          refine gw_iconst 1129 d_X13_law_1128 rfl rfl ?_
          simpa only [if_neg c280] using j279
      refine gw_if_ge 1094 1090 d_X13_law_1087 rfl rfl (fun c278 => ?_) (fun c278 => ?_)
      · skip
        refine gw_iconst 1095 d_X13_law_1094 rfl rfl ?_
        simpa only [if_pos c278] using j277
      · skip
        refine gw_iconst 1091 d_X13_law_1090 rfl rfl ?_
        refine gw_goto 1095 d_X13_law_1091 rfl ?_
        simpa only [if_neg c278] using j277
    refine gw_if_ge 1084 1080 d_X13_law_1077 rfl rfl (fun c276 => ?_) (fun c276 => ?_)
    · skip
      refine gw_iconst 1085 d_X13_law_1084 rfl rfl ?_
      simpa only [if_pos c276] using j275
    · skip
      refine gw_iconst 1081 d_X13_law_1080 rfl rfl ?_
      refine gw_goto 1085 d_X13_law_1081 rfl ?_
      simpa only [if_neg c276] using j275
  · skip
    refine gw_iload 1038 d_X13_law_1036 rfl rfl ?_
    refine gw_iload 1040 d_X13_law_1038 rfl rfl ?_
    refine gw_if_lt 1065 1043 d_X13_law_1040 rfl rfl (fun c287 => ?_) (fun c287 => ?_)
    · skip
      exact ((h162.2 c274).1 c287)
    · skip
      refine gw_iload 1045 d_X13_law_1043 rfl rfl ?_
      refine gw_iload 1047 d_X13_law_1045 rfl rfl ?_
      refine gw_ishr 1048 d_X13_law_1047 rfl  ?_
      refine gw_iconst 1049 d_X13_law_1048 rfl rfl ?_
      refine gw_iand 1050 d_X13_law_1049 rfl  ?_
      refine gw_iconst 1051 d_X13_law_1050 rfl rfl ?_
      refine gw_icmp_ne 1065 1054 d_X13_law_1051 rfl rfl (fun c288 => ?_) (fun c288 => ?_)
      · skip
        refine gw_aload_n 1055 d_X13_law_1054 rfl rfl ?_
        refine gw_iconst 1056 d_X13_law_1055 rfl rfl ?_
        refine gw_iload 1058 d_X13_law_1056 rfl rfl ?_
        refine gw_iconst 1059 d_X13_law_1058 rfl rfl ?_
        refine gw_cSIx (a := [gR 900, gI 0, gI x18, gI 1]) (rest := [gI x17]) 1062 d_X13_law_1059 rfl ml_13_27 v_X13_mark rfl rfl rfl (((h162.2 c274).2 c287).1 c288) (fun v163 m164 h165 => ?_)
        refine gw_goto 1066 d_X13_law_1062 rfl ?_
        exact h165
      · skip
        exact (((h162.2 c274).2 c287).2 c288)
set_option maxRecDepth 100000 in
set_option maxHeartbeats 4000000 in
theorem r_X13_law_1065 {d : Nat} {QR : Option gw_SV → gw_Mem → Prop} {Γ : gw_Ga} (x2 : Int) (x3 : Int) (x4 : Int) (y5 : Option gw_SV) (x6 : Int) (x7 : Int) (x8 : Int) (x9 : Int) (x10 : Int) (x11 : Int) (x12 : Int) (x13 : Int) (x14 : Int) (x15 : Int) (x16 : Int) (x17 : Int) (x18 : Int) (y19 : Option gw_SV) (z0 : Int) (m : gw_Mem) (h : gw_G M_X13_law d QR Γ 1066 [some (gR 900), some (gR 0), some (gI x2), some (gI x3), some (gI x4), y5, some (gI x6), some (gI x7), some (gI x8), some (gI x9), some (gI x10), some (gI x11), some (gI x12), some (gI x13), some (gI x14), some (gI x15), some (gI x16), some (gI x17), some (gI x18), y19] [gI 0, gI z0] m) : gw_G M_X13_law d QR Γ 1065 [some (gR 900), some (gR 0), some (gI x2), some (gI x3), some (gI x4), y5, some (gI x6), some (gI x7), some (gI x8), some (gI x9), some (gI x10), some (gI x11), some (gI x12), some (gI x13), some (gI x14), some (gI x15), some (gI x16), some (gI x17), some (gI x18), y19] [gI z0] m := by
  refine gw_iconst 1066 d_X13_law_1065 rfl rfl ?_
  exact h
set_option maxRecDepth 100000 in
set_option maxHeartbeats 4000000 in
theorem r_X13_law_1066 {d : Nat} {QR : Option gw_SV → gw_Mem → Prop} {Γ : gw_Ga} (x2 : Int) (x3 : Int) (x4 : Int) (y5 : Option gw_SV) (x6 : Int) (x7 : Int) (x8 : Int) (x9 : Int) (x10 : Int) (x11 : Int) (x12 : Int) (x13 : Int) (x14 : Int) (x15 : Int) (x16 : Int) (x17 : Int) (x18 : Int) (y19 : Option gw_SV) (z0 : Int) (z1 : Int) (m : gw_Mem) (h : gw_G M_X13_law d QR Γ 1026 [some (gR 900), some (gR 0), some (gI x2), some (gI x3), some (gI x4), y5, some (gI x6), some (gI x7), some (gI x8), some (gI x9), some (gI x10), some (gI x11), some (gI x12), some (gI x13), some (gI x14), some (gI x15), some (gI x16), some (gI (gw_w (z1 + z0))), some (gI (gw_w (x18 + 1))), y19] [] m) : gw_G M_X13_law d QR Γ 1066 [some (gR 900), some (gR 0), some (gI x2), some (gI x3), some (gI x4), y5, some (gI x6), some (gI x7), some (gI x8), some (gI x9), some (gI x10), some (gI x11), some (gI x12), some (gI x13), some (gI x14), some (gI x15), some (gI x16), some (gI x17), some (gI x18), y19] [gI z0, gI z1] m := by
  refine gw_iadd 1067 d_X13_law_1066 rfl  ?_
  refine gw_istore (ls' := [some (gR 900), some (gR 0), some (gI x2), some (gI x3), some (gI x4), y5, some (gI x6), some (gI x7), some (gI x8), some (gI x9), some (gI x10), some (gI x11), some (gI x12), some (gI x13), some (gI x14), some (gI x15), some (gI x16), some (gI (gw_w (z1 + z0))), some (gI x18), y19]) 1069 d_X13_law_1067 rfl rfl rfl rfl ?_
  refine gw_iinc (ls' := [some (gR 900), some (gR 0), some (gI x2), some (gI x3), some (gI x4), y5, some (gI x6), some (gI x7), some (gI x8), some (gI x9), some (gI x10), some (gI x11), some (gI x12), some (gI x13), some (gI x14), some (gI x15), some (gI x16), some (gI (gw_w (z1 + z0))), some (gI (gw_w (x18 + 1))), y19]) 1072 d_X13_law_1069 rfl rfl rfl rfl rfl ?_
  refine gw_goto 1026 d_X13_law_1072 rfl ?_
  exact h
set_option maxRecDepth 100000 in
set_option maxHeartbeats 4000000 in
theorem r_X13_law_1140 {d : Nat} {QR : Option gw_SV → gw_Mem → Prop} {Γ : gw_Ga} (x2 : Int) (x3 : Int) (x4 : Int) (y5 : Option gw_SV) (x6 : Int) (x7 : Int) (x8 : Int) (x9 : Int) (x10 : Int) (x11 : Int) (x12 : Int) (x13 : Int) (x14 : Int) (y15 : Option gw_SV) (y16 : Option gw_SV) (y17 : Option gw_SV) (y18 : Option gw_SV) (y19 : Option gw_SV) (m : gw_Mem) (h : gw_CIx Γ d M_X13_cell [gR 900, gI 8] m (fun v166 m167 => gw_G M_X13_law d QR Γ 1164 [some (gR 900), some (gR 0), some (gI x2), some (gI x3), some (gI x4), y5, some (gI x6), some (gI x7), some (gI x8), some (gI x9), some (gI x10), some (gI x11), some (gI x12), some (gI x13), some (gI (gw_w (3 + (v166.tmod 5)))), some (gI 0), some (gI 0), some (gI 0), some (gI 0), y19] [] m167)) : gw_G M_X13_law d QR Γ 1140 [some (gR 900), some (gR 0), some (gI x2), some (gI x3), some (gI x4), y5, some (gI x6), some (gI x7), some (gI x8), some (gI x9), some (gI x10), some (gI x11), some (gI x12), some (gI x13), some (gI x14), y15, y16, y17, y18, y19] [] m := by
  refine gw_iconst 1141 d_X13_law_1140 rfl rfl ?_
  refine gw_aload_n 1142 d_X13_law_1141 rfl rfl ?_
  refine gw_bipush 1144 d_X13_law_1142 rfl rfl (by decide) ?_
  refine gw_cSIx (a := [gR 900, gI 8]) (rest := [gI 3]) 1147 d_X13_law_1144 rfl ml_13_9 v_X13_cell rfl rfl rfl h (fun v166 m167 h168 => ?_)
  refine gw_iconst 1148 d_X13_law_1147 rfl rfl ?_
  refine gw_irem 1149 d_X13_law_1148 rfl (by decide) ?_
  refine gw_iadd 1150 d_X13_law_1149 rfl  ?_
  refine gw_istore (ls' := [some (gR 900), some (gR 0), some (gI x2), some (gI x3), some (gI x4), y5, some (gI x6), some (gI x7), some (gI x8), some (gI x9), some (gI x10), some (gI x11), some (gI x12), some (gI x13), some (gI (gw_w (3 + (v166.tmod 5)))), y15, y16, y17, y18, y19]) 1152 d_X13_law_1150 rfl rfl rfl rfl ?_
  refine gw_iconst 1153 d_X13_law_1152 rfl rfl ?_
  refine gw_istore (ls' := [some (gR 900), some (gR 0), some (gI x2), some (gI x3), some (gI x4), y5, some (gI x6), some (gI x7), some (gI x8), some (gI x9), some (gI x10), some (gI x11), some (gI x12), some (gI x13), some (gI (gw_w (3 + (v166.tmod 5)))), some (gI 0), y16, y17, y18, y19]) 1155 d_X13_law_1153 rfl rfl rfl rfl ?_
  refine gw_iconst 1156 d_X13_law_1155 rfl rfl ?_
  refine gw_istore (ls' := [some (gR 900), some (gR 0), some (gI x2), some (gI x3), some (gI x4), y5, some (gI x6), some (gI x7), some (gI x8), some (gI x9), some (gI x10), some (gI x11), some (gI x12), some (gI x13), some (gI (gw_w (3 + (v166.tmod 5)))), some (gI 0), some (gI 0), y17, y18, y19]) 1158 d_X13_law_1156 rfl rfl rfl rfl ?_
  refine gw_iconst 1159 d_X13_law_1158 rfl rfl ?_
  refine gw_istore (ls' := [some (gR 900), some (gR 0), some (gI x2), some (gI x3), some (gI x4), y5, some (gI x6), some (gI x7), some (gI x8), some (gI x9), some (gI x10), some (gI x11), some (gI x12), some (gI x13), some (gI (gw_w (3 + (v166.tmod 5)))), some (gI 0), some (gI 0), some (gI 0), y18, y19]) 1161 d_X13_law_1159 rfl rfl rfl rfl ?_
  refine gw_iconst 1162 d_X13_law_1161 rfl rfl ?_
  refine gw_istore (ls' := [some (gR 900), some (gR 0), some (gI x2), some (gI x3), some (gI x4), y5, some (gI x6), some (gI x7), some (gI x8), some (gI x9), some (gI x10), some (gI x11), some (gI x12), some (gI x13), some (gI (gw_w (3 + (v166.tmod 5)))), some (gI 0), some (gI 0), some (gI 0), some (gI 0), y19]) 1164 d_X13_law_1162 rfl rfl rfl rfl ?_
  exact h168
set_option maxRecDepth 100000 in
set_option maxHeartbeats 4000000 in
theorem r_X13_law_1164 {d : Nat} {QR : Option gw_SV → gw_Mem → Prop} {Γ : gw_Ga} (y0 : Option gw_SV) (x2 : Int) (x3 : Int) (x4 : Int) (y5 : Option gw_SV) (x6 : Int) (x7 : Int) (x8 : Int) (x9 : Int) (x10 : Int) (x11 : Int) (x12 : Int) (x13 : Int) (x14 : Int) (x15 : Int) (x16 : Int) (x17 : Int) (x18 : Int) (y19 : Option gw_SV) (m : gw_Mem) (h : ((x14 ≤ x18 → ((x2 = 0 → QR (some (gI 0)) m) ∧ (¬ (x2 = 0) → gw_CIx Γ d M_X11_colours [gR 0, gI x14, gI x15, gI (-1)] m (fun v169 m170 => ((v169 = (if x14.tmod 2 = 0 then (2 : Int) else (3 : Int)) → gw_CIx Γ d M_X11_colours [gR 0, gI x14, gI x16, gI (-1)] m170 (fun v172 m173 => ((v172 = 2 → gw_CIx Γ d M_X11_colours [gR 0, gI x14, gI (gw_w ((gw_shl 1 x17) - 1)), gI (-1)] m173 (fun v175 m176 => ((v175 = x14 → gw_CIx Γ d M_X11_colours [gR 0, gI x14, gI (gw_w ((gw_shl 1 x17) - 1)), gI (gw_w (x14 - 1))] m176 (fun v178 m179 => ((v178 = gw_w (x14 - 1) → gw_CIx Γ d M_X11_colours [gR 0, gI x14, gI 0, gI (-1)] m179 (fun v181 m182 => ((v181 = 1 → gw_CIx Γ d M_X11_colours [gR 0, gI x14, gI x16, gI (gw_w (x14 - 1))] m182 (fun v184 m185 => QR (some (gI (if v184 = 1 then (1 : Int) else (0 : Int)))) m185)) ∧ (¬ (v181 = 1) → QR (some (gI 0)) m182)))) ∧ (¬ (v178 = gw_w (x14 - 1)) → QR (some (gI 0)) m179)))) ∧ (¬ (v175 = x14) → QR (some (gI 0)) m176)))) ∧ (¬ (v172 = 2) → QR (some (gI 0)) m173)))) ∧ (¬ (v169 = (if x14.tmod 2 = 0 then (2 : Int) else (3 : Int))) → QR (some (gI 0)) m170)))))) ∧ (¬ (x14 ≤ x18) → gw_G M_X13_law d QR Γ 1177 [y0, some (gR 0), some (gI x2), some (gI x3), some (gI x4), y5, some (gI x6), some (gI x7), some (gI x8), some (gI x9), some (gI x10), some (gI x11), some (gI x12), some (gI x13), some (gI x14), some (gI x15), some (gI x16), some (gI x17), some (gI x18), some (gI (gw_w (x18 + 1)))] [] m))) : gw_G M_X13_law d QR Γ 1164 [y0, some (gR 0), some (gI x2), some (gI x3), some (gI x4), y5, some (gI x6), some (gI x7), some (gI x8), some (gI x9), some (gI x10), some (gI x11), some (gI x12), some (gI x13), some (gI x14), some (gI x15), some (gI x16), some (gI x17), some (gI x18), y19] [] m := by
  refine gw_iload 1166 d_X13_law_1164 rfl rfl ?_
  refine gw_iload 1168 d_X13_law_1166 rfl rfl ?_
  refine gw_icmp_ge 1253 1171 d_X13_law_1168 rfl rfl (fun c289 => ?_) (fun c289 => ?_)
  · skip
    refine gw_iload_n 1254 d_X13_law_1253 rfl rfl ?_
    refine gw_if_eq 1367 1257 d_X13_law_1254 rfl rfl (fun c290 => ?_) (fun c290 => ?_)
    · skip
      refine gw_iconst 1368 d_X13_law_1367 rfl rfl ?_
      exact gw_ireturn d_X13_law_1368 (Or.inr ⟨rfl, gw_b0⟩) ((h.1 c289).1 c290)
    · skip
      refine gw_aload_n 1258 d_X13_law_1257 rfl rfl ?_
      refine gw_iload 1260 d_X13_law_1258 rfl rfl ?_
      refine gw_iload 1262 d_X13_law_1260 rfl rfl ?_
      refine gw_iconst 1263 d_X13_law_1262 rfl rfl ?_
      refine gw_cVIx (a := [gI x14, gI x15, gI (-1)]) (rest := []) 1266 d_X13_law_1263 rfl ml_13_83 v_X11_colours rfl sh_0 rfl rfl rfl ((h.1 c289).2 c290) (fun v169 m170 h171 => ?_)
      refine gw_iload 1268 d_X13_law_1266 rfl rfl ?_
      refine gw_iconst 1269 d_X13_law_1268 rfl rfl ?_
      refine gw_irem 1270 d_X13_law_1269 rfl (by decide) ?_
      have j291 : gw_G M_X13_law d QR Γ 1278 [y0, some (gR 0), some (gI x2), some (gI x3), some (gI x4), y5, some (gI x6), some (gI x7), some (gI x8), some (gI x9), some (gI x10), some (gI x11), some (gI x12), some (gI x13), some (gI x14), some (gI x15), some (gI x16), some (gI x17), some (gI x18), y19] [gI (if x14.tmod 2 = 0 then (2 : Int) else (3 : Int)), gI v169] m170 := by
        refine gw_icmp_ne 1367 1281 d_X13_law_1278 rfl rfl (fun c293 => ?_) (fun c293 => ?_)
        · skip
          refine gw_aload_n 1282 d_X13_law_1281 rfl rfl ?_
          refine gw_iload 1284 d_X13_law_1282 rfl rfl ?_
          refine gw_iload 1286 d_X13_law_1284 rfl rfl ?_
          refine gw_iconst 1287 d_X13_law_1286 rfl rfl ?_
          refine gw_cVIx (a := [gI x14, gI x16, gI (-1)]) (rest := []) 1290 d_X13_law_1287 rfl ml_13_83 v_X11_colours rfl sh_0 rfl rfl rfl (h171.1 c293) (fun v172 m173 h174 => ?_)
          refine gw_iconst 1291 d_X13_law_1290 rfl rfl ?_
          refine gw_icmp_ne 1367 1294 d_X13_law_1291 rfl rfl (fun c294 => ?_) (fun c294 => ?_)
          · skip
            refine gw_aload_n 1295 d_X13_law_1294 rfl rfl ?_
            refine gw_iload 1297 d_X13_law_1295 rfl rfl ?_
            refine gw_iconst 1298 d_X13_law_1297 rfl rfl ?_
            refine gw_iload 1300 d_X13_law_1298 rfl rfl ?_
            refine gw_ishl 1301 d_X13_law_1300 rfl  ?_
            refine gw_iconst 1302 d_X13_law_1301 rfl rfl ?_
            refine gw_isub 1303 d_X13_law_1302 rfl  ?_
            refine gw_iconst 1304 d_X13_law_1303 rfl rfl ?_
            refine gw_cVIx (a := [gI x14, gI (gw_w ((gw_shl 1 x17) - 1)), gI (-1)]) (rest := []) 1307 d_X13_law_1304 rfl ml_13_83 v_X11_colours rfl sh_0 rfl rfl rfl (h174.1 c294) (fun v175 m176 h177 => ?_)
            refine gw_iload 1309 d_X13_law_1307 rfl rfl ?_
            refine gw_icmp_ne 1367 1312 d_X13_law_1309 rfl rfl (fun c295 => ?_) (fun c295 => ?_)
            · skip
              refine gw_aload_n 1313 d_X13_law_1312 rfl rfl ?_
              refine gw_iload 1315 d_X13_law_1313 rfl rfl ?_
              refine gw_iconst 1316 d_X13_law_1315 rfl rfl ?_
              refine gw_iload 1318 d_X13_law_1316 rfl rfl ?_
              refine gw_ishl 1319 d_X13_law_1318 rfl  ?_
              refine gw_iconst 1320 d_X13_law_1319 rfl rfl ?_
              refine gw_isub 1321 d_X13_law_1320 rfl  ?_
              refine gw_iload 1323 d_X13_law_1321 rfl rfl ?_
              refine gw_iconst 1324 d_X13_law_1323 rfl rfl ?_
              refine gw_isub 1325 d_X13_law_1324 rfl  ?_
              refine gw_cVIx (a := [gI x14, gI (gw_w ((gw_shl 1 x17) - 1)), gI (gw_w (x14 - 1))]) (rest := []) 1328 d_X13_law_1325 rfl ml_13_83 v_X11_colours rfl sh_0 rfl rfl rfl (h177.1 c295) (fun v178 m179 h180 => ?_)
              refine gw_iload 1330 d_X13_law_1328 rfl rfl ?_
              refine gw_iconst 1331 d_X13_law_1330 rfl rfl ?_
              refine gw_isub 1332 d_X13_law_1331 rfl  ?_
              refine gw_icmp_ne 1367 1335 d_X13_law_1332 rfl rfl (fun c296 => ?_) (fun c296 => ?_)
              · skip
                refine gw_aload_n 1336 d_X13_law_1335 rfl rfl ?_
                refine gw_iload 1338 d_X13_law_1336 rfl rfl ?_
                refine gw_iconst 1339 d_X13_law_1338 rfl rfl ?_
                refine gw_iconst 1340 d_X13_law_1339 rfl rfl ?_
                refine gw_cVIx (a := [gI x14, gI 0, gI (-1)]) (rest := []) 1343 d_X13_law_1340 rfl ml_13_83 v_X11_colours rfl sh_0 rfl rfl rfl (h180.1 c296) (fun v181 m182 h183 => ?_)
                refine gw_iconst 1344 d_X13_law_1343 rfl rfl ?_
                refine gw_icmp_ne 1367 1347 d_X13_law_1344 rfl rfl (fun c297 => ?_) (fun c297 => ?_)
                · skip
                  refine gw_aload_n 1348 d_X13_law_1347 rfl rfl ?_
                  refine gw_iload 1350 d_X13_law_1348 rfl rfl ?_
                  refine gw_iload 1352 d_X13_law_1350 rfl rfl ?_
                  refine gw_iload 1354 d_X13_law_1352 rfl rfl ?_
                  refine gw_iconst 1355 d_X13_law_1354 rfl rfl ?_
                  refine gw_isub 1356 d_X13_law_1355 rfl  ?_
                  refine gw_cVIx (a := [gI x14, gI x16, gI (gw_w (x14 - 1))]) (rest := []) 1359 d_X13_law_1356 rfl ml_13_83 v_X11_colours rfl sh_0 rfl rfl rfl (h183.1 c297) (fun v184 m185 h186 => ?_)
                  refine gw_iconst 1360 d_X13_law_1359 rfl rfl ?_
                  have j298 : gw_G M_X13_law d QR Γ 1368 [y0, some (gR 0), some (gI x2), some (gI x3), some (gI x4), y5, some (gI x6), some (gI x7), some (gI x8), some (gI x9), some (gI x10), some (gI x11), some (gI x12), some (gI x13), some (gI x14), some (gI x15), some (gI x16), some (gI x17), some (gI x18), y19] [gI (if v184 = 1 then (1 : Int) else (0 : Int))] m185 := by
                    exact gw_ireturn d_X13_law_1368 (Or.inr ⟨rfl, (gw_bi gw_b1 gw_b0)⟩) h186
                  refine gw_icmp_ne 1367 1363 d_X13_law_1360 rfl rfl (fun c299 => ?_) (fun c299 => ?_)
                  · skip
                    refine gw_iconst 1364 d_X13_law_1363 rfl rfl ?_
                    refine gw_goto 1368 d_X13_law_1364 rfl ?_
                    simpa only [if_pos c299] using j298
                  · skip
                    refine gw_iconst 1368 d_X13_law_1367 rfl rfl ?_
                    simpa only [if_neg c299] using j298
                · skip
                  refine gw_iconst 1368 d_X13_law_1367 rfl rfl ?_
                  exact gw_ireturn d_X13_law_1368 (Or.inr ⟨rfl, gw_b0⟩) (h183.2 c297)
              · skip
                refine gw_iconst 1368 d_X13_law_1367 rfl rfl ?_
                exact gw_ireturn d_X13_law_1368 (Or.inr ⟨rfl, gw_b0⟩) (h180.2 c296)
            · skip
              refine gw_iconst 1368 d_X13_law_1367 rfl rfl ?_
              exact gw_ireturn d_X13_law_1368 (Or.inr ⟨rfl, gw_b0⟩) (h177.2 c295)
          · skip
            refine gw_iconst 1368 d_X13_law_1367 rfl rfl ?_
            exact gw_ireturn d_X13_law_1368 (Or.inr ⟨rfl, gw_b0⟩) (h174.2 c294)
        · skip
          refine gw_iconst 1368 d_X13_law_1367 rfl rfl ?_
          exact gw_ireturn d_X13_law_1368 (Or.inr ⟨rfl, gw_b0⟩) (h171.2 c293)
      refine gw_if_ne 1277 1273 d_X13_law_1270 rfl rfl (fun c292 => ?_) (fun c292 => ?_)
      · skip
        refine gw_iconst 1274 d_X13_law_1273 rfl rfl ?_
        refine gw_goto 1278 d_X13_law_1274 rfl ?_
        simpa only [if_pos c292] using j291
      · skip
        refine gw_iconst 1278 d_X13_law_1277 rfl rfl ?_
        simpa only [if_neg c292] using j291
  · skip
    refine gw_iload 1173 d_X13_law_1171 rfl rfl ?_
    refine gw_iconst 1174 d_X13_law_1173 rfl rfl ?_
    refine gw_iadd 1175 d_X13_law_1174 rfl  ?_
    refine gw_istore (ls' := [y0, some (gR 0), some (gI x2), some (gI x3), some (gI x4), y5, some (gI x6), some (gI x7), some (gI x8), some (gI x9), some (gI x10), some (gI x11), some (gI x12), some (gI x13), some (gI x14), some (gI x15), some (gI x16), some (gI x17), some (gI x18), some (gI (gw_w (x18 + 1)))]) 1177 d_X13_law_1175 rfl rfl rfl rfl ?_
    exact (h.2 c289)
set_option maxRecDepth 100000 in
set_option maxHeartbeats 4000000 in
theorem r_X13_law_1177 {d : Nat} {QR : Option gw_SV → gw_Mem → Prop} {Γ : gw_Ga} (y0 : Option gw_SV) (x2 : Int) (x3 : Int) (x4 : Int) (y5 : Option gw_SV) (x6 : Int) (x7 : Int) (x8 : Int) (x9 : Int) (x10 : Int) (x11 : Int) (x12 : Int) (x13 : Int) (x14 : Int) (x15 : Int) (x16 : Int) (x17 : Int) (x18 : Int) (x19 : Int) (m : gw_Mem) (h : ((x14 ≤ x19 → gw_G M_X13_law d QR Γ 1164 [y0, some (gR 0), some (gI x2), some (gI x3), some (gI x4), y5, some (gI x6), some (gI x7), some (gI x8), some (gI x9), some (gI x10), some (gI x11), some (gI x12), some (gI x13), some (gI x14), some (gI x15), some (gI x16), some (gI x17), some (gI (gw_w (x18 + 1))), some (gI x19)] [] m) ∧ (¬ (x14 ≤ x19) → gw_G M_X13_law d QR Γ 1177 [y0, some (gR 0), some (gI x2), some (gI x3), some (gI x4), y5, some (gI x6), some (gI x7), some (gI x8), some (gI x9), some (gI x10), some (gI x11), some (gI x12), some (gI x13), some (gI x14), some (gI (gw_or x15 (if x19 = gw_w (x18 + 1) then gw_shl 1 x17 else (if x18 = 0 then (if x19 = gw_w (x14 - 1) then gw_shl 1 x17 else (0 : Int)) else (0 : Int))))), some (gI (gw_or x16 (if x18 = 0 then gw_shl 1 x17 else (0 : Int)))), some (gI (gw_w (x17 + 1))), some (gI x18), some (gI (gw_w (x19 + 1)))] [] m))) : gw_G M_X13_law d QR Γ 1177 [y0, some (gR 0), some (gI x2), some (gI x3), some (gI x4), y5, some (gI x6), some (gI x7), some (gI x8), some (gI x9), some (gI x10), some (gI x11), some (gI x12), some (gI x13), some (gI x14), some (gI x15), some (gI x16), some (gI x17), some (gI x18), some (gI x19)] [] m := by
  refine gw_iload 1179 d_X13_law_1177 rfl rfl ?_
  refine gw_iload 1181 d_X13_law_1179 rfl rfl ?_
  refine gw_icmp_ge 1247 1184 d_X13_law_1181 rfl rfl (fun c300 => ?_) (fun c300 => ?_)
  · skip
    refine gw_iinc (ls' := [y0, some (gR 0), some (gI x2), some (gI x3), some (gI x4), y5, some (gI x6), some (gI x7), some (gI x8), some (gI x9), some (gI x10), some (gI x11), some (gI x12), some (gI x13), some (gI x14), some (gI x15), some (gI x16), some (gI x17), some (gI (gw_w (x18 + 1))), some (gI x19)]) 1250 d_X13_law_1247 rfl rfl rfl rfl rfl ?_
    refine gw_goto 1164 d_X13_law_1250 rfl ?_
    exact (h.1 c300)
  · skip
    refine gw_iload 1186 d_X13_law_1184 rfl rfl ?_
    refine gw_iload 1188 d_X13_law_1186 rfl rfl ?_
    refine gw_iload 1190 d_X13_law_1188 rfl rfl ?_
    refine gw_iconst 1191 d_X13_law_1190 rfl rfl ?_
    refine gw_iadd 1192 d_X13_law_1191 rfl  ?_
    have j301 : gw_G M_X13_law d QR Γ 1217 [y0, some (gR 0), some (gI x2), some (gI x3), some (gI x4), y5, some (gI x6), some (gI x7), some (gI x8), some (gI x9), some (gI x10), some (gI x11), some (gI x12), some (gI x13), some (gI x14), some (gI x15), some (gI x16), some (gI x17), some (gI x18), some (gI x19)] [gI (if x19 = gw_w (x18 + 1) then gw_shl 1 x17 else (if x18 = 0 then (if x19 = gw_w (x14 - 1) then gw_shl 1 x17 else (0 : Int)) else (0 : Int))), gI x15] m := by
      refine gw_ior 1218 d_X13_law_1217 rfl  ?_
      refine gw_istore (ls' := [y0, some (gR 0), some (gI x2), some (gI x3), some (gI x4), y5, some (gI x6), some (gI x7), some (gI x8), some (gI x9), some (gI x10), some (gI x11), some (gI x12), some (gI x13), some (gI x14), some (gI (gw_or x15 (if x19 = gw_w (x18 + 1) then gw_shl 1 x17 else (if x18 = 0 then (if x19 = gw_w (x14 - 1) then gw_shl 1 x17 else (0 : Int)) else (0 : Int))))), some (gI x16), some (gI x17), some (gI x18), some (gI x19)]) 1220 d_X13_law_1218 rfl rfl rfl rfl ?_
      refine gw_iload 1222 d_X13_law_1220 rfl rfl ?_
      refine gw_iload 1224 d_X13_law_1222 rfl rfl ?_
      have j303 : gw_G M_X13_law d QR Γ 1235 [y0, some (gR 0), some (gI x2), some (gI x3), some (gI x4), y5, some (gI x6), some (gI x7), some (gI x8), some (gI x9), some (gI x10), some (gI x11), some (gI x12), some (gI x13), some (gI x14), some (gI (gw_or x15 (if x19 = gw_w (x18 + 1) then gw_shl 1 x17 else (if x18 = 0 then (if x19 = gw_w (x14 - 1) then gw_shl 1 x17 else (0 : Int)) else (0 : Int))))), some (gI x16), some (gI x17), some (gI x18), some (gI x19)] [gI (if x18 = 0 then gw_shl 1 x17 else (0 : Int)), gI x16] m := by
        refine gw_ior 1236 d_X13_law_1235 rfl  ?_
        refine gw_istore (ls' := [y0, some (gR 0), some (gI x2), some (gI x3), some (gI x4), y5, some (gI x6), some (gI x7), some (gI x8), some (gI x9), some (gI x10), some (gI x11), some (gI x12), some (gI x13), some (gI x14), some (gI (gw_or x15 (if x19 = gw_w (x18 + 1) then gw_shl 1 x17 else (if x18 = 0 then (if x19 = gw_w (x14 - 1) then gw_shl 1 x17 else (0 : Int)) else (0 : Int))))), some (gI (gw_or x16 (if x18 = 0 then gw_shl 1 x17 else (0 : Int)))), some (gI x17), some (gI x18), some (gI x19)]) 1238 d_X13_law_1236 rfl rfl rfl rfl ?_
        refine gw_iinc (ls' := [y0, some (gR 0), some (gI x2), some (gI x3), some (gI x4), y5, some (gI x6), some (gI x7), some (gI x8), some (gI x9), some (gI x10), some (gI x11), some (gI x12), some (gI x13), some (gI x14), some (gI (gw_or x15 (if x19 = gw_w (x18 + 1) then gw_shl 1 x17 else (if x18 = 0 then (if x19 = gw_w (x14 - 1) then gw_shl 1 x17 else (0 : Int)) else (0 : Int))))), some (gI (gw_or x16 (if x18 = 0 then gw_shl 1 x17 else (0 : Int)))), some (gI (gw_w (x17 + 1))), some (gI x18), some (gI x19)]) 1241 d_X13_law_1238 rfl rfl rfl rfl rfl ?_
        refine gw_iinc (ls' := [y0, some (gR 0), some (gI x2), some (gI x3), some (gI x4), y5, some (gI x6), some (gI x7), some (gI x8), some (gI x9), some (gI x10), some (gI x11), some (gI x12), some (gI x13), some (gI x14), some (gI (gw_or x15 (if x19 = gw_w (x18 + 1) then gw_shl 1 x17 else (if x18 = 0 then (if x19 = gw_w (x14 - 1) then gw_shl 1 x17 else (0 : Int)) else (0 : Int))))), some (gI (gw_or x16 (if x18 = 0 then gw_shl 1 x17 else (0 : Int)))), some (gI (gw_w (x17 + 1))), some (gI x18), some (gI (gw_w (x19 + 1)))]) 1244 d_X13_law_1241 rfl rfl rfl rfl rfl ?_
        refine gw_goto 1177 d_X13_law_1244 rfl ?_
        exact (h.2 c300)
      refine gw_if_ne 1234 1227 d_X13_law_1224 rfl rfl (fun c304 => ?_) (fun c304 => ?_)
      · skip
        refine gw_iconst 1228 d_X13_law_1227 rfl rfl ?_
        refine gw_iload 1230 d_X13_law_1228 rfl rfl ?_
        refine gw_ishl 1231 d_X13_law_1230 rfl  ?_
        refine gw_goto 1235 d_X13_law_1231 rfl ?_
        simpa only [if_pos c304] using j303
      · skip
        refine gw_iconst 1235 d_X13_law_1234 rfl rfl ?_
        simpa only [if_neg c304] using j303
    refine gw_icmp_eq 1209 1195 d_X13_law_1192 rfl rfl (fun c302 => ?_) (fun c302 => ?_)
    · skip
      refine gw_iconst 1210 d_X13_law_1209 rfl rfl ?_
      refine gw_iload 1212 d_X13_law_1210 rfl rfl ?_
      refine gw_ishl 1213 d_X13_law_1212 rfl  ?_
      refine gw_goto 1217 d_X13_law_1213 rfl ?_
      simpa only [if_pos c302] using j301
    · skip
      refine gw_iload 1197 d_X13_law_1195 rfl rfl ?_
      refine gw_if_ne 1216 1200 d_X13_law_1197 rfl rfl (fun c305 => ?_) (fun c305 => ?_)
      · skip
        refine gw_iload 1202 d_X13_law_1200 rfl rfl ?_
        refine gw_iload 1204 d_X13_law_1202 rfl rfl ?_
        refine gw_iconst 1205 d_X13_law_1204 rfl rfl ?_
        refine gw_isub 1206 d_X13_law_1205 rfl  ?_
        refine gw_icmp_ne 1216 1209 d_X13_law_1206 rfl rfl (fun c306 => ?_) (fun c306 => ?_)
        · skip
          refine gw_iconst 1210 d_X13_law_1209 rfl rfl ?_
          refine gw_iload 1212 d_X13_law_1210 rfl rfl ?_
          refine gw_ishl 1213 d_X13_law_1212 rfl  ?_
          refine gw_goto 1217 d_X13_law_1213 rfl ?_
          simpa only [if_neg c302, if_pos c305, if_pos c306] using j301
        · skip
          refine gw_iconst 1217 d_X13_law_1216 rfl rfl ?_
          simpa only [if_neg c302, if_pos c305, if_neg c306] using j301
      · skip
        refine gw_iconst 1217 d_X13_law_1216 rfl rfl ?_
        simpa only [if_neg c302, if_neg c305] using j301
