/-! the law, from its end on backwards: the colours; what is chosen -/
def gl_QR : Option gw_SV → gw_Mem → Prop := fun r _ => r = some (gI 1)
theorem gp_in_b (n a : Int) : ∀ (j : Nat) (b : Int) (s : Int × Int × Int), (gp_in n a j b s).2.2 = s.2.2 + j := by
  intro j
  induction j with
  | zero => intro b s; show s.2.2 = s.2.2 + 0; omega
  | succ j ih =>
    intro b s
    rw [gp_in, ih]
    show s.2.2 + 1 + (j : Int) = s.2.2 + ((j + 1 : Nat) : Int)
    omega
section GLB
variable {Γ : gw_Ga} {m : gw_Mem}
theorem gl_1177 (x6 x7 x8 x9 x10 x11 x12 x13 : Int) (n a : Int) (hn : 3 ≤ n ∧ n ≤ 7) (ha : 0 ≤ a ∧ a < n) : ∀ (j : Nat) (b : Int) (s : Int × Int × Int), b + j = n → 0 ≤ b → 0 ≤ s.2.2 → s.2.2 + j ≤ 1000 → gw_G M_X13_law 60 gl_QR Γ 1164 [some (gR 900), some (gR 0), some (gI 1), some (gI (gp_people Γ.1 7)), some (gI (gp_end Γ.1)), some (gR 117), some (gI x6), some (gI x7), some (gI x8), some (gI x9), some (gI x10), some (gI x11), some (gI x12), some (gI x13), some (gI n), some (gI ((gp_in n a j b s).1)), some (gI ((gp_in n a j b s).2.1)), some (gI ((gp_in n a j b s).2.2)), some (gI (a + 1)), some (gI n)] [] m → gw_G M_X13_law 60 gl_QR Γ 1177 [some (gR 900), some (gR 0), some (gI 1), some (gI (gp_people Γ.1 7)), some (gI (gp_end Γ.1)), some (gR 117), some (gI x6), some (gI x7), some (gI x8), some (gI x9), some (gI x10), some (gI x11), some (gI x12), some (gI x13), some (gI n), some (gI ((s).1)), some (gI ((s).2.1)), some (gI ((s).2.2)), some (gI a), some (gI b)] [] m := by
  intro j
  induction j with
  | zero =>
    intro b s hb h0 h1 h2 hk
    apply r_X13_law_1177
    refine ⟨fun _ => ?_, fun z => absurd (by omega) z⟩
    have e : b = n := by omega
    rw [gw_w_id (x := a + 1) (by omega), e]
    exact hk
  | succ j ih =>
    intro b s hb h0 h1 h2 hk
    apply r_X13_law_1177
    refine ⟨fun z => absurd z (by omega), fun _ => ?_⟩
    rw [gw_w_id (x := a + 1) (by omega), gw_w_id (x := n - 1) (by omega), gw_w_id (x := s.2.2 + 1) (by omega), gw_w_id (x := b + 1) (by omega)]
    rw [gp_in] at hk
    exact ih (b + 1) (gw_or s.1 (if b = a + 1 then gw_shl 1 s.2.2 else if a = 0 then (if b = n - 1 then gw_shl 1 s.2.2 else 0) else 0), gw_or s.2.1 (if a = 0 then gw_shl 1 s.2.2 else 0), s.2.2 + 1) (by omega) (by omega) (by show 0 ≤ s.2.2 + 1; omega) (by show s.2.2 + 1 + (j : Int) ≤ 1000; omega) hk
theorem gl_1164 (x6 x7 x8 x9 x10 x11 x12 x13 : Int) (n : Int) (hn : 3 ≤ n ∧ n ≤ 7) : ∀ (j : Nat) (a : Int) (s : Int × Int × Int) (y19 : Option gw_SV), a + j = n → 0 ≤ a → 0 ≤ s.2.2 → s.2.2 ≤ 7 * a → gp_asks n (gp_outl n j a s).1 (gp_outl n j a s).2.1 (gp_outl n j a s).2.2 → gw_G M_X13_law 60 gl_QR Γ 1164 [some (gR 900), some (gR 0), some (gI 1), some (gI (gp_people Γ.1 7)), some (gI (gp_end Γ.1)), some (gR 117), some (gI x6), some (gI x7), some (gI x8), some (gI x9), some (gI x10), some (gI x11), some (gI x12), some (gI x13), some (gI n), some (gI ((s).1)), some (gI ((s).2.1)), some (gI ((s).2.2)), some (gI a), y19] [] m := by
  intro j
  induction j with
  | zero =>
    intro a s y19 hb h0 h1 h2 hk
    have hk : gp_asks n s.1 s.2.1 s.2.2 := hk
    obtain ⟨c1, c2, c3, c4, c5, c6, r1, r2⟩ := hk
    apply r_X13_law_1164
    refine ⟨fun _ => ⟨fun z => absurd z (by omega), fun _ => ?_⟩, fun z => absurd (by omega) z⟩
    refine gp_c_colours n s.1 (-1) r1 rfl (fun v1 m1 hv1 => ⟨fun _ => ?_, fun z => absurd (c1 v1 hv1) z⟩)
    refine gp_c_colours n s.2.1 (-1) r2 rfl (fun v1 m1 hv1 => ⟨fun _ => ?_, fun z => absurd (c2 v1 hv1) z⟩)
    refine gp_c_colours n (gw_w (gw_shl 1 s.2.2 - 1)) (-1) (gw_w_in _) rfl (fun v1 m1 hv1 => ⟨fun _ => ?_, fun z => absurd (c3 v1 hv1) z⟩)
    refine gp_c_colours n (gw_w (gw_shl 1 s.2.2 - 1)) (gw_w (n - 1)) (gw_w_in _) rfl (fun v1 m1 hv1 => ⟨fun _ => ?_, fun z => absurd (c4 v1 hv1) z⟩)
    refine gp_c_colours n 0 (-1) gw_in0 rfl (fun v1 m1 hv1 => ⟨fun _ => ?_, fun z => absurd (c5 v1 hv1) z⟩)
    refine gp_c_colours n s.2.1 (gw_w (n - 1)) r2 rfl (fun v1 m1 hv1 => ?_)
    rw [if_pos (c6 v1 hv1)]
    rfl
  | succ j ih =>
    intro a s y19 hb h0 h1 h2 hk
    apply r_X13_law_1164
    refine ⟨fun z => absurd z (by omega), fun _ => ?_⟩
    rw [gw_w_id (x := a + 1) (by omega)]
    have eb := gp_in_b n a (n - (a + 1)).toNat (a + 1) s
    rw [gp_outl] at hk
    exact gl_1177 x6 x7 x8 x9 x10 x11 x12 x13 n a hn (by omega) (n - (a + 1)).toNat (a + 1) s (by omega) (by omega) h1 (by omega) (ih (a + 1) _ _ (by omega) (by omega) (by omega) (by omega) hk)
theorem gl_1140 (x6 x7 x8 x9 x10 x11 x12 x13 x14 : Int) (y15 y16 y17 y18 y19 : Option gw_SV) : gw_G M_X13_law 60 gl_QR Γ 1140 [some (gR 900), some (gR 0), some (gI 1), some (gI (gp_people Γ.1 7)), some (gI (gp_end Γ.1)), some (gR 117), some (gI x6), some (gI x7), some (gI x8), some (gI x9), some (gI x10), some (gI x11), some (gI x12), some (gI x13), some (gI x14), y15, y16, y17, y18, y19] [] m := by
  apply r_X13_law_1140
  refine gw_CIx.eqX rfl (sp_X13_cell _ 8 (by omega) m) rfl ?_
  have h := gp_tmod (gp_c0 Γ.1 8).1 (show (0 : Int) < 5 by omega)
  have e : gw_w (3 + (gp_c Γ.1 8).tmod 5) = 3 + (gp_c Γ.1 8).tmod 5 := gw_w_id (by omega)
  rw [e]
  have hn : 3 ≤ 3 + (gp_c Γ.1 8).tmod 5 ∧ 3 + (gp_c Γ.1 8).tmod 5 ≤ 7 := by omega
  clear e h
  generalize 3 + (gp_c Γ.1 8).tmod 5 = n at *
  exact gl_1164 x6 x7 x8 x9 x10 x11 x12 x13 n hn n.toNat 0 (0, 0, 0) _ (by omega) (by omega) (by show (0 : Int) ≤ 0; omega) (by show (0 : Int) ≤ 7 * 0; omega) (gp_rings n hn)
/-- what the chosen set takes of the first k stops -/
def gp_f (g : gw_Mem) (s : Int) (k : Nat) : Int := if s < 0 then 0 else gp_tk g s k
theorem gl_1026 {g : gw_Mem} (hR : gp_R g m) (hF : gp_F Γ.1 g 5 (gp_people Γ.1 7)) (x6 x7 x8 x9 x10 x11 x12 x13 : Int) (t : Int) (val set : Int) (hw : 0 ≤ gd_way g ∧ gd_way g ≤ 110) (ok : ∀ y : Int, y = 1 → ∀ y16 y17 y18 y19 : Option gw_SV, gw_G M_X13_law 60 gl_QR Γ 976 [some (gR 900), some (gR 0), some (gI y), some (gI (gp_people Γ.1 7)), some (gI (gp_end Γ.1)), some (gR 117), some (gI x6), some (gI x7), some (gI x8), some (gI x9), some (gI x10), some (gI x11), some (gI x12), some (gI val), some (gI (gw_w (t + 11))), some (gI val), y16, y17, y18, y19] [] m) (h1 : (if (if 0 ≤ set then (0 : Int) else (1 : Int)) = (if 0 ≤ val then (0 : Int) else (1 : Int)) then (if x13 ≤ val then (if set < 0 then (1 : Int) else (if t < gd_way g + gp_f g set (g 118 0).toNat then (0 : Int) else (1 : Int))) else (if val = (-4) then (if set < 0 then (1 : Int) else (if t < gd_way g + gp_f g set (g 118 0).toNat then (0 : Int) else (1 : Int))) else (0 : Int))) else (0 : Int)) = 1) : ∀ (j k : Nat) (y19 : Option gw_SV), k + j = (g 118 0).toNat → gw_G M_X13_law 60 gl_QR Γ 1026 [some (gR 900), some (gR 0), some (gI 1), some (gI (gp_people Γ.1 7)), some (gI (gp_end Γ.1)), some (gR 117), some (gI x6), some (gI x7), some (gI x8), some (gI x9), some (gI x10), some (gI x11), some (gI x12), some (gI x13), some (gI t), some (gI val), some (gI set), some (gI (gd_way g + gp_f g set k)), some (gI ((k : Int))), y19] [] m := by
  have em : g 118 0 = gp_marks Γ.1 0 := hF.2.1 0 (by omega)
  have mr := gp_marks_r Γ.1 0
  have fr : ∀ k : Nat, (k : Int) ≤ g 118 0 → 0 ≤ gp_f g set k ∧ gp_f g set k ≤ 20 * k := fun k hk => by
    unfold gp_f
    have := gp_tk_ct hR.1 set k hk
    split <;> omega
  intro j
  induction j with
  | zero =>
    intro k y19 hk
    apply r_X13_law_1026
    refine gw_CIx.eqX rfl (sp_X13_marks _ 0 m) rfl ⟨fun _ => ?_, fun z => absurd (by omega) z⟩
    have ek : k = (g 118 0).toNat := by omega
    rw [ek]
    exact ok _ h1 _ _ _ _
  | succ j ih =>
    intro k y19 hk
    apply r_X13_law_1026
    have f1 := fr (k + 1) (by omega)
    have f0 := fr k (by omega)
    have es : gp_f g set (k + 1) = gp_f g set k + (if set < 0 then 0 else if gw_and (gw_shr set k) 1 = 1 then g 120 k else 0) := by
      unfold gp_f
      by_cases c : set < 0
      · rw [if_pos c, if_pos c, if_pos c]; omega
      · rw [if_neg c, if_neg c, if_neg c, gp_tk_s]
    have nx := ih (k + 1)
    refine gw_CIx.eqX rfl (sp_X13_marks _ 0 m) rfl ⟨fun z => absurd z (by omega), fun _ => ⟨fun c => ?_, fun c => ⟨fun b => ?_, fun b => ?_⟩⟩⟩
    · apply r_X13_law_1065
      apply r_X13_law_1066
      rw [if_pos c] at es
      rw [gw_w_id (x := gd_way g + gp_f g set k + 0) (by omega), gw_w1 (by omega), show gd_way g + gp_f g set k + 0 = gd_way g + gp_f g set (k + 1) by omega]
      exact nx _ (by omega)
    · refine gw_CIx.eqX rfl (sp_X13_mark _ 0 (k : Int) 1 (by omega) m) rfl ?_
      apply r_X13_law_1066
      have e20 := (hF.2.2.1 0 (k : Int) (by omega) (by omega) (by omega)).2
      rw [show 8 * (0 : Int) + (k : Int) = k by omega] at e20
      rw [if_neg c, if_pos b] at es
      rw [← e20]
      clear e20
      rw [gw_w_id (x := gd_way g + gp_f g set k + g 120 (k : Int)) (by omega), gw_w1 (by omega), show gd_way g + gp_f g set k + g 120 (k : Int) = gd_way g + gp_f g set (k + 1) by omega]
      exact nx _ (by omega)
    · apply r_X13_law_1065
      apply r_X13_law_1066
      rw [if_neg c, if_neg b] at es
      rw [gw_w_id (x := gd_way g + gp_f g set k + 0) (by omega), gw_w1 (by omega), show gd_way g + gp_f g set k + 0 = gd_way g + gp_f g set (k + 1) by omega]
      exact nx _ (by omega)
theorem gl_976 {g : gw_Mem} (hR : gp_R g m) (hF : gp_F Γ.1 g 5 (gp_people Γ.1 7)) (x6 x7 x8 x9 x10 x11 x12 : Int) : ∀ (j : Nat) (t x13 : Int) (y15 y16 y17 y18 y19 : Option gw_SV), t + 11 * j = 121 → j ≤ 11 → (∀ t' : Int, t ≤ t' → t' ≤ 999 → 0 ≤ ga_chosen g t' 1 → x13 ≤ ga_chosen g t' 1) → gw_G M_X13_law 60 gl_QR Γ 976 [some (gR 900), some (gR 0), some (gI 1), some (gI (gp_people Γ.1 7)), some (gI (gp_end Γ.1)), some (gR 117), some (gI x6), some (gI x7), some (gI x8), some (gI x9), some (gI x10), some (gI x11), some (gI x12), some (gI x13), some (gI t), y15, y16, y17, y18, y19] [] m := by
  have hway := gd_way_rng hR.1
  have er := gp_end_r Γ.1
  have rr := gp_rule_r Γ.1 0 (by omega)
  have rl : gd_rlo 0 = 1 := rfl
  have rh : gd_rhi 0 = 4 := rfl
  intro j
  induction j with
  | zero =>
    intro t x13 y15 y16 y17 y18 y19 ht _ _
    apply r_X13_law_976
    refine ⟨fun _ => ?_, fun z => absurd (by omega) z⟩
    exact gl_1140 x6 x7 x8 x9 x10 x11 x12 _ _ _ _ _ _ _
  | succ j ih =>
    intro t x13 y15 y16 y17 y18 y19 ht hj hbef
    apply r_X13_law_976
    refine ⟨fun z => absurd z (by omega), fun _ => ⟨fun z => absurd z (by omega), fun _ => ?_⟩⟩
    refine gp_c_chosen hR t 1 rfl (gp_c_chosen hR t 0 rfl (gw_CIx.eqX rfl (sp_X13_rule _ 0 m) rfl (gw_CIx.eqX rfl (sp_X13_rule _ 0 m) rfl ⟨by omega, ?_⟩)))
    have ew : gw_w ((gw_w ((gw_w (gp_end Γ.1 + gp_rule Γ.1 0)) - 1)).tdiv (gp_rule Γ.1 0)) = gd_way g := by
      have e : gd_way g = (gp_end Γ.1 + gp_rule Γ.1 0 - 1).tdiv (gp_rule Γ.1 0) := by
        unfold gd_way
        rw [hF.1, hF.2.2.2.1 0 (by omega) (by omega)]
      rw [gw_w_id (x := gp_end Γ.1 + gp_rule Γ.1 0) (by omega), gw_w_id (x := gp_end Γ.1 + gp_rule Γ.1 0 - 1) (by omega), ← e, gw_w_id (by omega)]
    rw [ew]
    have ch := gp_chosen hR.1 t (by omega)
    have s0 : gp_f g (ga_chosen g t 0) 0 = 0 := by
      unfold gp_f
      split <;> rfl
    have st := gl_1026 (Γ := Γ) hR hF x6 x7 x8 x9 x10 x11 x12 x13 t (ga_chosen g t 1) (ga_chosen g t 0) hway (fun y hy y16 y17 y18 y19 => ?_) ?_ (g 118 0).toNat 0 y19 (by omega)
    · rw [s0, Int.add_zero] at st
      exact st
    · subst hy
      rw [gw_w_id (x := t + 11) (by omega)]
      refine ih (t + 11) _ _ _ _ _ _ (by omega) (by omega) (fun t' h1 h2 h3 => ?_)
      rcases ch with c | c
      · omega
      · exact (c.2.2.2 t' (by omega) h2).1
    · rcases ch with c | c
      · rw [c.1, c.2.1]
        rw [if_pos rfl]
        by_cases z : x13 ≤ -4
        · rw [if_pos z, if_pos (by omega)]
        · rw [if_neg z, if_pos rfl, if_pos (by omega)]
      · have ef : gp_f g (ga_chosen g t 0) (g 118 0).toNat = gp_tk g (ga_chosen g t 0) (g 118 0).toNat := by
          unfold gp_f
          rw [if_neg (by omega)]
        have hb := hbef t (by omega) (by omega) c.2.1
        rw [if_pos c.1, if_pos c.2.1, if_pos rfl, if_pos hb, if_neg (by omega), ef, if_neg (by omega)]
theorem gl_970 {g : gw_Mem} (hR : gp_R g m) (hF : gp_F Γ.1 g 5 (gp_people Γ.1 7)) (x6 x7 x8 x9 x10 x11 x12 : Int) (y13 y14 y15 y16 y17 y18 y19 : Option gw_SV) : gw_G M_X13_law 60 gl_QR Γ 970 [some (gR 900), some (gR 0), some (gI 1), some (gI (gp_people Γ.1 7)), some (gI (gp_end Γ.1)), some (gR 117), some (gI x6), some (gI x7), some (gI x8), some (gI x9), some (gI x10), some (gI x11), some (gI x12), y13, y14, y15, y16, y17, y18, y19] [] m := by
  apply r_X13_law_970
  exact gl_976 hR hF x6 x7 x8 x9 x10 x11 x12 11 0 (-1) _ _ _ _ _ (by omega) (by omega) (fun t' h1 h2 h3 => by omega)
end GLB
