/-! the law lays the plan -/
def gp_g0 : gw_Mem := fun o j => if o = 117 then (if j = 0 then 40 else 0) else if o = 122 then ([2, 5, 0, 10, 3] : List Int).getD j.toNat 0 else 0
def gp_T (g m : gw_Mem) : Prop := gd_JP g ∧ gc_P g m 4 ∧ m 0 8 = 0 ∧ m 0 12 = -1
theorem gp_T0 : gp_T gp_g0 gl_m0 := by
  have e118 : ∀ k : Int, gp_g0 118 k = 0 := fun k => rfl
  have e6 : gp_g0 117 6 = 0 := by decide
  have e0 : gp_g0 117 0 = 40 := by decide
  refine ⟨⟨by rw [e0]; omega, fun k _ => by rw [e118]; omega, fun k j _ hj => ?_, fun j hj => ?_, by rw [e6]; omega, fun j hj => ?_, fun i j hi _ => ?_, by decide, fun j _ => ?_⟩, ⟨?_, fun k _ => rfl, fun k j _ h0 h1 => ?_, fun j h0 h1 => ?_, ?_, fun j h0 h1 => ?_, fun j _ _ => rfl, fun j _ _ => rfl⟩, rfl, rfl⟩
  · rw [e118] at hj; omega
  · rw [e118] at hj; omega
  · rw [e6] at hj; omega
  · rw [e6] at hi; omega
  · show (0 : Int) ≤ 0 ∧ (0 : Int) ≤ 2
    omega
  · rw [e0]; rfl
  · rw [e118] at h1; omega
  · rw [e118] at h1; omega
  · rw [e6]; rfl
  · rw [e6] at h1; omega
theorem gp_fg (m : gw_Mem) : (∀ o : Nat, o ≠ 0 → gc_fg m o = m o) ∧ (∀ j : Int, j ≠ 8 → j ≠ 12 → gc_fg m 0 j = m 0 j) ∧ gc_fg m 0 8 = 0 ∧ gc_fg m 0 12 = -1 := by
  unfold gc_fg
  refine ⟨fun o ho => by rw [gw_up_ne ho, gw_up_ne ho], fun j h8 h12 => by rw [gw_up_at, if_neg h12, gw_up_at, if_neg h8], ?_, ?_⟩
  · rw [gw_up_at, if_neg (by omega), gw_up_at, if_pos rfl]
  · rw [gw_up_at, if_pos rfl]
theorem gp_T_fg {g m : gw_Mem} (hJ : gd_JP g) (hP : gc_P g m 4) : gp_T g (gc_fg m) := by
  obtain ⟨a, -, b, c⟩ := gp_fg m
  exact ⟨hJ, gc_P_m hP (fun o h1 h2 => a o (by omega)), b, c⟩
section GPO
variable {Γ : gw_Ga} {d : Nat} {P : Int → gw_Mem → Prop} {g m : gw_Mem}
theorem gp_c_end (h : gp_T g m) (v : Int) (hv : 10 ≤ v ∧ v ≤ 99) (hd : Nat.blt 12 d = true) (k : ∀ m' : gw_Mem, gp_T (gw_up g 117 0 v) m' → P (g 117 0) m') : gw_CIx Γ d M_X11_end [gR 0, gI v] m P :=
  gw_CIx.of (sp_X11_end g m h.2.1 v) hd (fun r m' _ _ hq => by
    obtain ⟨rfl, rfl⟩ := hq
    unfold ga_end cu_end
    rw [if_pos hv, if_pos hv]
    exact k _ (gp_T_fg (gd_JP_end h.1 hv) (gc_P_end h.2.1)))
theorem gp_c_mark (h : gp_T g m) (k p l : Int) (hk : 0 ≤ k ∧ k ≤ 3) (hp : 0 ≤ p ∧ p ≤ 99) (hl : gd_lo k ≤ l ∧ l ≤ gd_hi k) (h8 : g 118 k < 8) (hf : ∀ j : Nat, j < (g 118 k).toNat → g 119 (8 * k + j) ≠ p) (hd : Nat.blt 13 d = true) (kk : ∀ m' : gw_Mem, gp_T (gd_comes g k p l) m' → P (g 118 k) m') : gw_CIx Γ d M_X11_mark [gR 0, gI k, gI p, gI l] m P :=
  gw_CIx.of (sp_X11_mark g m h.1 h.2.1 k p l) hd (fun r m' _ _ hq => by
    obtain ⟨rfl, rfl⟩ := hq
    have hn := (gd_ma_neg g k p (g 118 k).toNat).mpr hf
    unfold ga_mark cu_mark
    rw [if_pos ⟨hk, hp, hl⟩, if_pos ⟨hk, hp, hl⟩, if_neg (by omega), if_neg (by omega), if_neg (by omega), if_neg (by omega)]
    exact kk _ (gp_T_fg (gd_JP_comes h.1 hk hp hl h8) (gc_P_comes (b := 4) h.1 h.2.1 hk h8)))
theorem gp_c_rule0 (h : gp_T g m) (w v : Int) (hv : (0 ≤ w ∧ w ≤ 4) ∧ gd_rlo w ≤ v ∧ v ≤ gd_rhi w) (hd : Nat.blt 12 d = true) (kk : ∀ m' : gw_Mem, gp_T (gw_up g 122 w v) m' → P (g 122 w) m') : gw_CIx Γ d M_X11_rule [gR 0, gI w, gI v] m P :=
  gw_CIx.of (sp_X11_rule g m h.2.1 w v) hd (fun r m' _ _ hq => by
    obtain ⟨rfl, rfl⟩ := hq
    unfold ga_rule cu_rule
    rw [if_pos hv, if_pos hv]
    exact kk _ (gp_T_fg (gd_JP_rule h.1 hv) (gc_P_rule (b := 4) h.2.1)))
theorem gp_c_person (h : gp_T g m) (k p e : Int) (hk : 0 ≤ k ∧ k ≤ 3) (hp : 1 ≤ p ∧ p ≤ 4) (he : gw_b e) (ht : ¬ (k = 3 ∧ 0 ≤ gd_tl g (g 117 6).toNat)) (hn : g 117 6 < 10) (hd : Nat.blt 13 d = true) (kk : ∀ m' : gw_Mem, gp_T (gd_joins g k p e) m' → P (g 117 6) m') : gw_CIx Γ d M_X11_person [gR 0, gI k, gI p, gI e] m P :=
  gw_CIx.of (sp_X11_person g m h.1 h.2.1 k p e he) hd (fun r m' _ _ hq => by
    obtain ⟨rfl, rfl⟩ := hq
    unfold ga_person cu_person
    rw [if_pos ⟨hk, hp⟩, if_pos ⟨hk, hp⟩, if_neg ht, if_neg ht, if_neg (by omega), if_neg (by omega)]
    exact kk _ (gp_T_fg (gd_JP_joins h.1 hk hp he ht hn) (gc_P_joins (b := 4) h.2.1)))
end GPO
/-- the marks so far: the kinds below kind, and k of kind -/
def gp_Mk (cx : gw_Cx) (g : gw_Mem) (kind k : Int) : Prop := g 117 0 = gp_end cx ∧ g 117 6 = 0 ∧ (∀ q : Int, 0 ≤ q ∧ q ≤ 3 → g 118 q = if q < kind then gp_marks cx q else if q = kind then k else 0) ∧ ∀ q i : Int, 0 ≤ q ∧ q ≤ 3 → 0 ≤ i → i < g 118 q → g 119 (8 * q + i) = gp_mark cx q i 0 ∧ g 120 (8 * q + i) = gp_mark cx q i 1
theorem gp_Mk_s {cx : gw_Cx} {g : gw_Mem} {kind k : Int} (hJ : gd_JP g) (h : gp_Mk cx g kind k) (hk : 0 ≤ kind ∧ kind ≤ 3) (h8 : 0 ≤ k ∧ k < 8) : gp_Mk cx (gd_comes g kind (gp_mark cx kind k 0) (gp_mark cx kind k 1)) kind (k + 1) := by
  obtain ⟨h1, h2, h3, h4⟩ := h
  have e : g 118 kind = k := by rw [h3 kind hk, if_neg (by omega), if_pos rfl]
  have ne := gd_comes_ne g kind (gp_mark cx kind k 0) (gp_mark cx kind k 1)
  have s8 := gd_comes_8 g kind (gp_mark cx kind k 0) (gp_mark cx kind k 1)
  have s9 := gd_comes_9 g kind (gp_mark cx kind k 0) (gp_mark cx kind k 1)
  have s20 := gd_comes_20 g kind (gp_mark cx kind k 0) (gp_mark cx kind k 1)
  generalize gd_comes g kind (gp_mark cx kind k 0) (gp_mark cx kind k 1) = g' at *
  rw [e] at s8 s9 s20
  refine ⟨by rw [ne 117 (by omega) (by omega) (by omega) (by omega)]; exact h1, by rw [ne 117 (by omega) (by omega) (by omega) (by omega)]; exact h2, fun q hq => ?_, fun q i hq hi0 hi => ?_⟩
  · rw [s8]
    by_cases c : q = kind
    · rw [if_pos c, if_neg (by omega), if_pos c]
    · rw [if_neg c, h3 q hq, if_neg c]
      by_cases c2 : q < kind
      · rw [if_pos c2, if_pos c2]
      · rw [if_neg c2, if_neg c2, if_neg c]
  · rw [s8] at hi
    have z := (hJ.2.1 q hq)
    rw [s9, s20]
    by_cases c : q = kind
    · rw [if_pos c] at hi
      by_cases c2 : i = k
      · rw [c, c2, if_pos rfl, if_pos rfl]
        exact ⟨rfl, rfl⟩
      · rw [if_neg (by omega), if_neg (by omega)]
        exact h4 q i hq hi0 (by rw [c, e]; omega)
    · rw [if_neg c] at hi
      rw [if_neg (by omega), if_neg (by omega)]
      exact h4 q i hq hi0 hi
theorem gp_Mk_n {cx : gw_Cx} {g : gw_Mem} {kind : Int} (h : gp_Mk cx g kind (gp_marks cx kind)) : gp_Mk cx g (kind + 1) 0 := by
  obtain ⟨h1, h2, h3, h4⟩ := h
  refine ⟨h1, h2, fun q hq => ?_, h4⟩
  rw [h3 q hq]
  by_cases c : q < kind
  · rw [if_pos c, if_pos (by omega)]
  · rw [if_neg c]
    by_cases c2 : q = kind
    · rw [if_pos c2, if_pos (by omega), c2]
    · rw [if_neg c2, if_neg (by omega)]
      split <;> rfl
/-- the plan as the script has it: w rules, p people so far -/
def gp_F (cx : gw_Cx) (g : gw_Mem) (w p : Int) : Prop := g 117 0 = gp_end cx ∧ (∀ q : Int, 0 ≤ q ∧ q ≤ 3 → g 118 q = gp_marks cx q) ∧ (∀ q i : Int, 0 ≤ q ∧ q ≤ 3 → 0 ≤ i → i < g 118 q → g 119 (8 * q + i) = gp_mark cx q i 0 ∧ g 120 (8 * q + i) = gp_mark cx q i 1) ∧ (∀ j : Int, 0 ≤ j → j < w → g 122 j = gp_rule cx j) ∧ g 117 6 = p ∧ ∀ q : Int, 0 ≤ q → q < p → g 123 q = gp_one cx q 0 ∧ g 124 q = gp_one cx q 1 ∧ g 125 q = gp_one cx q 2
theorem gp_Mk_F {cx : gw_Cx} {g : gw_Mem} (h : gp_Mk cx g 4 0) : gp_F cx g 0 0 := by
  obtain ⟨h1, h2, h3, h4⟩ := h
  refine ⟨h1, fun q hq => ?_, h4, fun j a b => by omega, h2, fun q a b => by omega⟩
  rw [h3 q hq, if_pos (by omega)]
theorem gp_F_r {cx : gw_Cx} {g : gw_Mem} {w : Int} (hw : 0 ≤ w) (h : gp_F cx g w 0) : gp_F cx (gw_up g 122 w (gp_rule cx w)) (w + 1) 0 := by
  obtain ⟨h1, h2, h3, h4, h5, h6⟩ := h
  have ne : ∀ o : Nat, o ≠ 122 → gw_up g 122 w (gp_rule cx w) o = g o := fun o ho => gw_up_ne ho
  refine ⟨by rw [ne 117 (by omega)]; exact h1, fun q hq => by rw [ne 118 (by omega)]; exact h2 q hq, fun q i hq a b => ?_, fun j a b => ?_, by rw [ne 117 (by omega)]; exact h5, fun q a b => by omega⟩
  · rw [ne 118 (by omega)] at b
    rw [ne 119 (by omega), ne 120 (by omega)]
    exact h3 q i hq a b
  · rw [gw_up_at]
    by_cases c : j = w
    · rw [if_pos c, c]
    · rw [if_neg c]
      exact h4 j a (by omega)
theorem gp_F_p {cx : gw_Cx} {g : gw_Mem} {p : Int} (hp : 0 ≤ p) (h : gp_F cx g 5 p) {e : Int} (he : e = gp_one cx p 2) : gp_F cx (gd_joins g (gp_one cx p 0) (gp_one cx p 1) e) 5 (p + 1) := by
  obtain ⟨h1, h2, h3, h4, h5, h6⟩ := h
  subst he
  unfold gd_joins
  rw [h5]
  have ne : ∀ o : Nat, o ≠ 117 → o ≠ 123 → o ≠ 124 → o ≠ 125 → gw_up (gw_up (gw_up (gw_up g 123 p (gp_one cx p 0)) 124 p (gp_one cx p 1)) 125 p (gp_one cx p 2)) 117 6 (p + 1) o = g o := fun o a b c d => by rw [gw_up_ne a, gw_up_ne d, gw_up_ne c, gw_up_ne b]
  refine ⟨?_, fun q hq => by rw [ne 118 (by omega) (by omega) (by omega) (by omega)]; exact h2 q hq, fun q i hq a b => ?_, fun j a b => by rw [ne 122 (by omega) (by omega) (by omega) (by omega)]; exact h4 j a b, by rw [gw_up_at, if_pos rfl], fun q a b => ?_⟩
  · rw [gw_up_at, if_neg (by omega), gw_up_ne (by omega), gw_up_ne (by omega), gw_up_ne (by omega)]
    exact h1
  · rw [ne 118 (by omega) (by omega) (by omega) (by omega)] at b
    rw [ne 119 (by omega) (by omega) (by omega) (by omega), ne 120 (by omega) (by omega) (by omega) (by omega)]
    exact h3 q i hq a b
  · have e3 : gw_up (gw_up (gw_up (gw_up g 123 p (gp_one cx p 0)) 124 p (gp_one cx p 1)) 125 p (gp_one cx p 2)) 117 6 (p + 1) 123 q = if q = p then gp_one cx p 0 else g 123 q := by rw [gw_up_ne (by omega), gw_up_ne (by omega), gw_up_ne (by omega), gw_up_at]
    have e4 : gw_up (gw_up (gw_up (gw_up g 123 p (gp_one cx p 0)) 124 p (gp_one cx p 1)) 125 p (gp_one cx p 2)) 117 6 (p + 1) 124 q = if q = p then gp_one cx p 1 else g 124 q := by rw [gw_up_ne (by omega), gw_up_ne (by omega), gw_up_at, gw_up_ne (by omega)]
    have e5 : gw_up (gw_up (gw_up (gw_up g 123 p (gp_one cx p 0)) 124 p (gp_one cx p 1)) 125 p (gp_one cx p 2)) 117 6 (p + 1) 125 q = if q = p then gp_one cx p 2 else g 125 q := by rw [gw_up_ne (by omega), gw_up_at, gw_up_ne (by omega), gw_up_ne (by omega)]
    rw [e3, e4, e5]
    by_cases c : q = p
    · rw [if_pos c, if_pos c, if_pos c, c]
      exact ⟨rfl, rfl, rfl⟩
    · rw [if_neg c, if_neg c, if_neg c]
      exact h6 q a (by omega)
theorem gp_tl_no {cx : gw_Cx} {g : gw_Mem} {p : Nat} (h : gp_F cx g 5 p) : ¬ (gp_one cx p 0 = 3 ∧ 0 ≤ gd_tl g (g 117 6).toNat) := by
  intro z
  have hn : (g 117 6).toNat = p := by have := h.2.2.2.2.1; omega
  rw [hn] at z
  have t := gd_tl_rng g p
  obtain ⟨q, hq⟩ := gw_nat z.2
  have t3 := t.2.2.2 z.2
  rw [hq] at t3
  have hqp : q < p := by have := t.2.1; omega
  rw [(h.2.2.2.2.2 q (by omega) (by omega)).1] at t3
  exact gp_one_tail cx hqp z.1 t3
theorem sp_X13_lays (cx : gw_Cx) (m : gw_Mem) (h0 : gp_T gp_g0 m) : gw_SpecX cx M_X13_lays 20 [gR 0, gR 900, gI 7] m (fun r m' => r = 1 ∧ ∃ g : gw_Mem, gp_T g m' ∧ gp_F cx g 5 (gp_people cx 7)) := by
  refine gw_introC pl_X13_lays rfl (fun Γ hΓ => ?_)
  subst hΓ
  apply r_X13_lays_0
  have er := gp_end_r Γ.1
  have pr := gp_people_r Γ.1
  refine gw_CIx.eqX rfl (sp_X13_end _ m) rfl (gp_c_end h0 (gp_end Γ.1) (by omega) rfl (fun m1 h1 => ?_))
  have e40 : gp_g0 117 0 = 40 := by decide
  rw [if_pos e40]
  have M0 : gp_Mk Γ.1 (gw_up gp_g0 117 0 (gp_end Γ.1)) 0 0 := by
    refine ⟨by rw [gw_up_at, if_pos rfl], by rw [gw_up_at, if_neg (by omega)]; decide, fun q hq => ?_, fun q i hq a b => ?_⟩
    · rw [gw_up_ne (by omega), if_neg (by omega)]
      have : gp_g0 118 q = 0 := rfl
      rw [this]
      split <;> rfl
    · rw [gw_up_ne (by omega)] at b
      have : gp_g0 118 q = 0 := rfl
      omega
  -- the people
  have key3 : ∀ (j p : Nat) (y5 : Option gw_SV) (g q : gw_Mem), (p : Int) + j = gp_people Γ.1 7 → gp_T g q → gp_F Γ.1 g 5 p → gw_G M_X13_lays 20 (fun r m' => ∃ v, r = some (gI v) ∧ v = 1 ∧ ∃ g : gw_Mem, gp_T g m' ∧ gp_F Γ.1 g 5 (gp_people Γ.1 7)) Γ 140 [some (gR 0), some (gR 900), some (gI 7), some (gI 1), some (gI (p : Int)), y5] [] q := by
    intro j
    induction j with
    | zero =>
      intro p y5 g q hj hT hF
      apply r_X13_lays_140
      refine gw_CIx.eqX rfl (sp_X13_people _ 7 (by omega) q) rfl ⟨fun _ => ⟨gw_b1, 1, rfl, rfl, g, hT, ?_⟩, fun z => absurd (by omega) z⟩
      rw [← hj]
      simpa using hF
    | succ j ih =>
      intro p y5 g q hj hT hF
      apply r_X13_lays_140
      have o1 := gp_one_r Γ.1 (p : Int)
      refine gw_CIx.eqX rfl (sp_X13_people _ 7 (by omega) q) rfl ⟨fun z => absurd z (by omega), fun _ => ⟨fun z => absurd z (by omega), fun _ => ?_⟩⟩
      refine gw_CIx.eqX rfl (sp_X13_one _ (p : Int) 0 (by omega) q) rfl (gw_CIx.eqX rfl (sp_X13_one _ (p : Int) 1 (by omega) q) rfl (gw_CIx.eqX rfl (sp_X13_one _ (p : Int) 2 (by omega) q) rfl ?_))
      have ee : (if gp_one Γ.1 (p : Int) 2 = 1 then (1 : Int) else 0) = gp_one Γ.1 (p : Int) 2 := by
        rcases o1.2.2 with e | e <;> rw [e] <;> decide
      rw [ee]
      refine gp_c_person hT _ _ _ o1.1 o1.2.1 o1.2.2 (gp_tl_no hF) (by have := hF.2.2.2.2.1; omega) rfl (fun m2 h2 => ?_)
      rw [if_pos hF.2.2.2.2.1, gw_w1 (by omega)]
      refine ih (p + 1) y5 _ m2 (by omega) h2 ?_
      have := gp_F_p (by omega) hF (e := gp_one Γ.1 (p : Int) 2) rfl
      exact this
  have key2 : ∀ (j w : Nat) (y5 : Option gw_SV) (g q : gw_Mem), w + j = 5 → gp_T g q → gp_F Γ.1 g w 0 → gw_G M_X13_lays 20 (fun r m' => ∃ v, r = some (gI v) ∧ v = 1 ∧ ∃ g : gw_Mem, gp_T g m' ∧ gp_F Γ.1 g 5 (gp_people Γ.1 7)) Γ 100 [some (gR 0), some (gR 900), some (gI 7), some (gI 1), some (gI (w : Int)), y5] [] q := by
    intro j
    induction j with
    | zero =>
      intro w y5 g q hj hT hF
      apply r_X13_lays_100
      refine ⟨fun _ => ?_, fun z => absurd (by omega) z⟩
      apply r_X13_lays_137
      have e5 : w = 5 := by omega
      subst e5
      obtain ⟨P, hP⟩ := gw_nat (show 0 ≤ gp_people Γ.1 7 by omega)
      exact key3 P 0 y5 g q (by omega) hT hF
    | succ j ih =>
      intro w y5 g q hj hT hF
      apply r_X13_lays_100
      have rr := gp_rule_r Γ.1 (w : Int) (by omega)
      refine ⟨fun z => absurd z (by omega), fun _ => ⟨fun z => absurd z (by omega), fun _ => ?_⟩⟩
      refine gw_CIx.eqX rfl (sp_X13_rule _ (w : Int) q) rfl (gp_c_rule0 hT (w : Int) _ ⟨by omega, rr.1, rr.2.1⟩ rfl (fun m2 h2 => ?_))
      have g0 : ¬ g 122 (w : Int) < 0 := by
        have r := hT.1.2.2.2.2.2.2.2.1
        have hw : w = 0 ∨ w = 1 ∨ w = 2 ∨ w = 3 ∨ w = 4 := by omega
        rcases hw with rfl | rfl | rfl | rfl | rfl
        · have := r.1.1; show ¬ g 122 0 < 0; omega
        · have := r.2.1.1; show ¬ g 122 1 < 0; omega
        · have := r.2.2.1.1; show ¬ g 122 2 < 0; omega
        · have := r.2.2.2.1.1; show ¬ g 122 3 < 0; omega
        · have := r.2.2.2.2.1; show ¬ g 122 4 < 0; omega
      rw [if_neg g0, gw_w1 (by omega)]
      exact ih (w + 1) y5 _ m2 (by omega) h2 (gp_F_r (by omega) hF)
  have key1 : ∀ (j k : Nat) (y5 : Option gw_SV) (g q : gw_Mem), k + j = 4 → gp_T g q → gp_Mk Γ.1 g k 0 → gw_G M_X13_lays 20 (fun r m' => ∃ v, r = some (gI v) ∧ v = 1 ∧ ∃ g : gw_Mem, gp_T g m' ∧ gp_F Γ.1 g 5 (gp_people Γ.1 7)) Γ 22 [some (gR 0), some (gR 900), some (gI 7), some (gI 1), some (gI (k : Int)), y5] [] q := by
    intro j
    induction j with
    | zero =>
      intro k y5 g q hj hT hM
      apply r_X13_lays_22
      refine ⟨fun _ => ?_, fun z => absurd (by omega) z⟩
      apply r_X13_lays_97
      have e4 : k = 4 := by omega
      subst e4
      exact key2 5 0 y5 g q (by omega) hT (gp_Mk_F hM)
    | succ j ih =>
      intro k y5 g q hj hT hM
      apply r_X13_lays_22
      refine ⟨fun z => absurd z (by omega), fun _ => ⟨fun z => absurd z (by omega), fun _ => ?_⟩⟩
      have mr := gp_marks_r Γ.1 (k : Int)
      have inner : ∀ (j2 i : Nat) (g q : gw_Mem), (i : Int) + j2 = gp_marks Γ.1 k → gp_T g q → gp_Mk Γ.1 g k i → gw_G M_X13_lays 20 (fun r m' => ∃ v, r = some (gI v) ∧ v = 1 ∧ ∃ g : gw_Mem, gp_T g m' ∧ gp_F Γ.1 g 5 (gp_people Γ.1 7)) Γ 35 [some (gR 0), some (gR 900), some (gI 7), some (gI 1), some (gI (k : Int)), some (gI (i : Int))] [] q := by
        intro j2
        induction j2 with
        | zero =>
          intro i g q hi hT hM
          apply r_X13_lays_35
          refine gw_CIx.eqX rfl (sp_X13_marks _ (k : Int) q) rfl ⟨fun _ => ?_, fun z => absurd (by omega) z⟩
          apply r_X13_lays_91
          rw [gw_w1 (by omega)]
          refine ih (k + 1) _ g q (by omega) hT ?_
          have e : (i : Int) = gp_marks Γ.1 k := by omega
          rw [e] at hM
          exact gp_Mk_n hM
        | succ j2 ih2 =>
          intro i g q hi hT hM
          apply r_X13_lays_35
          refine gw_CIx.eqX rfl (sp_X13_marks _ (k : Int) q) rfl ⟨fun z => absurd z (by omega), fun _ => ⟨fun z => absurd z (by omega), fun _ => ?_⟩⟩
          refine gw_CIx.eqX rfl (sp_X13_mark _ (k : Int) (i : Int) 0 (by omega) q) rfl (gw_CIx.eqX rfl (sp_X13_mark _ (k : Int) (i : Int) 1 (by omega) q) rfl ?_)
          have e8 : g 118 (k : Int) = i := by rw [hM.2.2.1 (k : Int) (by omega), if_neg (by omega), if_pos rfl]
          obtain ⟨z, hz, ez⟩ := gp_place_r Γ.1 (k : Int) (i : Int) (by omega)
          refine gp_c_mark hT (k : Int) _ _ (by omega) (by omega) (gp_len_r Γ.1 (k : Int) (i : Int)) (by omega) (fun a ha => ?_) rfl (fun m2 h2 => ?_)
          · rw [e8] at ha
            rw [(hM.2.2.2 (k : Int) (a : Int) (by omega) (by omega) (by rw [e8]; omega)).1]
            obtain ⟨z2, hz2, ez2⟩ := gp_place_r Γ.1 (k : Int) (a : Int) (by omega)
            omega
          · rw [if_pos e8, gw_w1 (by omega)]
            refine ih2 (i + 1) _ m2 (by omega) h2 ?_
            have := gp_Mk_s hT.1 hM (by omega) (by omega)
            exact this
      obtain ⟨N, hN⟩ := gw_nat mr.1
      exact inner N 0 g q (by omega) hT hM
  exact key1 4 0 none _ m1 (by omega) h1 M0
