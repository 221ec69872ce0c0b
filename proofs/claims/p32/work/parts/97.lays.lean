/-! the law lays the plan -/
def gp_g0 : gw_Mem := fun o j => if o = 117 then (if j = 0 then 40 else 0) else if o = 122 then ([2, 5, 0, 10, 3] : List Int).getD j.toNat 0 else 0
def gp_T (g m : gw_Mem) : Prop := gd_JP g ∧ gc_P g m 4 ∧ m 0 8 = 0 ∧ m 0 12 = -1
theorem gp_T0 : gp_T gp_g0 gl_m0 := by
  have e118 : ∀ k : Int, gp_g0 118 k = 0 := fun k => rfl
  have e6 : gp_g0 117 6 = 0 := by decide
  have e0 : gp_g0 117 0 = 40 := by decide
  refine ⟨⟨by rw [e0]; omega, fun k _ => by rw [e118]; omega, fun k j _ hj => ?_, fun j hj => ?_, by rw [e6]; omega, fun j hj => ?_, fun i j hi _ => ?_, by decide, fun j _ => ?_⟩, ⟨?_, fun k _ => rfl, fun k j _ h1 => ?_, fun j h1 => ?_, ?_, fun j h1 => ?_, fun j _ => rfl, fun j _ => rfl⟩, rfl, rfl⟩
  · rw [e118] at hj; omega
  · rw [e118] at hj; omega
  · rw [e6] at hj; omega
  · rw [e6] at hi; omega
  · show (0 : Int) ≤ 0 ∧ (0 : Int) ≤ 2
    omega
  · rw [e0]; rfl
  · rw [e118] at h1; omega
  · rw [e118] at h1; omega
  · rw [e6]; rfl
  · rw [e6] at h1; omega
theorem gp_fg (m : gw_Mem) : (∀ o : Nat, o ≠ 0 → gc_fg m o = m o) ∧ (∀ j : Int, j ≠ 8 → j ≠ 12 → gc_fg m 0 j = m 0 j) ∧ gc_fg m 0 8 = 0 ∧ gc_fg m 0 12 = -1 := by
  unfold gc_fg
  refine ⟨fun o ho => by rw [gw_up_ne ho, gw_up_ne ho], fun j h8 h12 => by rw [gw_up_at, if_neg h12, gw_up_at, if_neg h8], ?_, ?_⟩
  · rw [gw_up_at, if_neg (by omega), gw_up_at, if_pos rfl]
  · rw [gw_up_at, if_pos rfl]
theorem gp_T_fg {g m : gw_Mem} (hJ : gd_JP g) (hP : gc_P g m 4) : gp_T g (gc_fg m) := by
  obtain ⟨a, -, b, c⟩ := gp_fg m
  exact ⟨hJ, gc_P_m hP (fun o h1 h2 => a o (by omega)), b, c⟩
section GPO
variable {Γ : gw_Ga} {d : Nat} {P : Int → gw_Mem → Prop} {g m : gw_Mem}
theorem gp_c_end (h : gp_T g m) (v : Int) (hv : 10 ≤ v ∧ v ≤ 99) (hd : Nat.blt 12 d = true) (k : ∀ m' : gw_Mem, gp_T (gw_up g 117 0 v) m' → P (g 117 0) m') : gw_CIx Γ d M_X11_end [gR 0, gI v] m P :=
  gw_CIx.of (sp_X11_end g m h.2.1 v) hd (fun r m' _ _ hq => by
    obtain ⟨rfl, rfl⟩ := hq
    unfold ga_end cu_end
    rw [if_pos hv, if_pos hv]
    exact k _ (gp_T_fg (gd_JP_end h.1 hv) (gc_P_end h.2.1)))
theorem gp_c_mark (h : gp_T g m) (k p l : Int) (hk : 0 ≤ k ∧ k ≤ 3) (hp : 0 ≤ p ∧ p ≤ 99) (hl : gd_lo k ≤ l ∧ l ≤ gd_hi k) (h8 : g 118 k < 8) (hf : ∀ j : Nat, j < (g 118 k).toNat → g 119 (8 * k + j) ≠ p) (hd : Nat.blt 13 d = true) (kk : ∀ m' : gw_Mem, gp_T (gd_comes g k p l) m' → P (g 118 k) m') : gw_CIx Γ d M_X11_mark [gR 0, gI k, gI p, gI l] m P :=
  gw_CIx.of (sp_X11_mark g m h.1 h.2.1 k p l) hd (fun r m' _ _ hq => by
    obtain ⟨rfl, rfl⟩ := hq
    have hn := (gd_ma_neg g k p (g 118 k).toNat).mpr hf
    unfold ga_mark cu_mark
    have c1 : (0 ≤ k ∧ k ≤ 3) ∧ (0 ≤ p ∧ p ≤ 99) ∧ gd_lo k ≤ l ∧ l ≤ gd_hi k := ⟨hk, hp, hl⟩
    have c2 : ¬ 0 ≤ gd_ma g k p (g 118 k).toNat := by omega
    have c3 : ¬ g 118 k = 8 := by omega
    rw [if_pos c1, if_pos c1, if_neg c2, if_neg c2, if_neg c3, if_neg c3]
    exact kk _ (gp_T_fg (gd_JP_comes h.1 hk hp hl h8) (gc_P_comes (b := 4) h.1 h.2.1 hk h8)))
theorem gp_c_rule0 (h : gp_T g m) (w v : Int) (hv : (0 ≤ w ∧ w ≤ 4) ∧ gd_rlo w ≤ v ∧ v ≤ gd_rhi w) (hd : Nat.blt 12 d = true) (kk : ∀ m' : gw_Mem, gp_T (gw_up g 122 w v) m' → P (g 122 w) m') : gw_CIx Γ d M_X11_rule [gR 0, gI w, gI v] m P :=
  gw_CIx.of (sp_X11_rule g m h.2.1 w v) hd (fun r m' _ _ hq => by
    obtain ⟨rfl, rfl⟩ := hq
    unfold ga_rule cu_rule
    rw [if_pos hv, if_pos hv]
    exact kk _ (gp_T_fg (gd_JP_rule h.1 hv) (gc_P_rule (b := 4) h.2.1)))
theorem gp_c_person (h : gp_T g m) (k p e : Int) (hk : 0 ≤ k ∧ k ≤ 3) (hp : 1 ≤ p ∧ p ≤ 4) (he : gw_b e) (ht : ¬ (k = 3 ∧ 0 ≤ gd_tl g (g 117 6).toNat)) (hn : g 117 6 < 10) (hd : Nat.blt 13 d = true) (kk : ∀ m' : gw_Mem, gp_T (gd_joins g k p e) m' → P (g 117 6) m') : gw_CIx Γ d M_X11_person [gR 0, gI k, gI p, gI e] m P :=
  gw_CIx.of (sp_X11_person g m h.1 h.2.1 k p e he) hd (fun r m' _ _ hq => by
    obtain ⟨rfl, rfl⟩ := hq
    unfold ga_person cu_person
    have c1 : (0 ≤ k ∧ k ≤ 3) ∧ 1 ≤ p ∧ p ≤ 4 := ⟨hk, hp⟩
    have c3 : ¬ g 117 6 = 10 := by omega
    rw [if_pos c1, if_pos c1, if_neg ht, if_neg ht, if_neg c3, if_neg c3]
    exact kk _ (gp_T_fg (gd_JP_joins h.1 hk hp he ht hn) (gc_P_joins (b := 4) h.2.1)))
end GPO
