/-! calls of the law, and what lasts over them -/
def gp_R (g m : gw_Mem) : Prop := gd_JP g ∧ gc_P g m 4 ∧ gc_W g m ∧ gc_B g m
def gp_K (m m' : gw_Mem) : Prop := m' 117 = m 117 ∧ (∀ o : Nat, 25 ≤ o → o < 46 → m' o = m o) ∧ m' 0 2 = m 0 2
def gp_Im (g m : gw_Mem) : Prop := gc_P g m 25 ∧ m 0 2 = 1
theorem gp_K_rfl (m : gw_Mem) : gp_K m m := ⟨rfl, fun _ _ _ => rfl, rfl⟩
theorem gp_K_Im {g m m' : gw_Mem} (h : gp_Im g m) (k : gp_K m m') : gp_Im g m' := ⟨gc_P_m h.1 (fun o a b => k.2.1 o a (by omega)), by rw [k.2.2]; exact h.2⟩
theorem gc_B_m {g m m' : gw_Mem} (h : gc_B g m) (h12 : m' 0 12 = m 0 12) (h2 : m' 2 = m 2) : gc_B g m' := by
  intro h0
  rw [h12] at h0 ⊢
  obtain ⟨h1, T, h3, h4, h5⟩ := h h0
  refine ⟨h1, T, h3, h4, ?_⟩
  unfold gc_bv at h5 ⊢
  rw [h2]
  exact h5
theorem gp_T_R {g m : gw_Mem} (h : gp_T g m) : gp_R g m := ⟨h.1, h.2.1, fun z => absurd h.2.2.1 z, fun z => by have := h.2.2.2; omega⟩
theorem gp_R_fr {g m m' : gw_Mem} (h : gp_R g m) (ho : ∀ o : Nat, o ≤ 100 → m' o = m o) : gp_R g m' :=
  ⟨h.1, gc_P_m h.2.1 (fun o a b => ho o (by omega)), gc_W_m h.2.2.1 (by rw [ho 0 (by omega)]) (by rw [ho 0 (by omega)]) (ho 1 (by omega)) (fun o a => ho o (by omega)), gc_B_m h.2.2.2 (by rw [ho 0 (by omega)]) (ho 2 (by omega))⟩
theorem gp_R_was {g m : gw_Mem} (h : gp_R g m) (j v : Int) : gp_R g (gw_up m 117 j v) := gp_R_fr h (fun o ho => gw_up_ne (by omega))
section GPQ
variable {Γ : gw_Ga} {d : Nat} {P : Int → gw_Mem → Prop} {g m : gw_Mem}
theorem gp_c_fate (h : gp_R g m) (x w : Int) (hd : Nat.blt 20 d = true) (k : ∀ m' : gw_Mem, gp_R g m' → gp_K m m' → P (ga_fate g x w) m') : gw_CIx Γ d M_X11_fate [gR 0, gI x, gI w] m P :=
  gw_CIx.of (sp_X11_fate g m h.1 h.2.1 h.2.2.1 x w) hd (fun r m' _ _ hq => by
    obtain ⟨rfl, hW, f1, f2⟩ := hq
    exact k m' ⟨h.1, gc_P_m h.2.1 (fun o a b => f1 o (by omega) (by omega) (by omega)), hW, gc_B_m h.2.2.2 (f2 12 (by omega) (by omega)) (f1 2 (by omega) (by omega) (by omega))⟩ ⟨f1 117 (by omega) (by omega) (by omega), fun o a b => f1 o (by omega) (by omega) (by omega), f2 2 (by omega) (by omega)⟩)
theorem gp_c_at (h : gp_R g m) (t x : Int) (hd : Nat.blt 20 d = true) (k : ∀ m' : gw_Mem, gp_R g m' → gp_K m m' → P (ga_at g t x) m') : gw_CIx Γ d M_X11_at [gR 0, gI t, gI x] m P :=
  gw_CIx.of (sp_X11_at g m h.1 h.2.1 h.2.2.1 t x) hd (fun r m' _ _ hq => by
    obtain ⟨rfl, hW, f1, f2⟩ := hq
    exact k m' ⟨h.1, gc_P_m h.2.1 (fun o a b => f1 o (by omega) (by omega) (by omega)), hW, gc_B_m h.2.2.2 (f2 12 (by omega) (by omega)) (f1 2 (by omega) (by omega) (by omega))⟩ ⟨f1 117 (by omega) (by omega) (by omega), fun o a b => f1 o (by omega) (by omega) (by omega), f2 2 (by omega) (by omega)⟩)
theorem gp_c_all (h : gp_R g m) (w : Int) (hd : Nat.blt 20 d = true) (k : ∀ m' : gw_Mem, gp_R g m' → gp_K m m' → P (ga_all g w) m') : gw_CIx Γ d M_X11_all [gR 0, gI w] m P :=
  gw_CIx.of (sp_X11_all g m h.1 h.2.1 h.2.2.1 w) hd (fun r m' _ _ hq => by
    obtain ⟨rfl, hW, f1, f2⟩ := hq
    exact k m' ⟨h.1, gc_P_m h.2.1 (fun o a b => f1 o (by omega) (by omega) (by omega)), hW, gc_B_m h.2.2.2 (f2 12 (by omega) (by omega)) (f1 2 (by omega) (by omega) (by omega))⟩ ⟨f1 117 (by omega) (by omega) (by omega), fun o a b => f1 o (by omega) (by omega) (by omega), f2 2 (by omega) (by omega)⟩)
theorem gp_c_worth (h : gp_R g m) (x : Int) (hd : Nat.blt 20 d = true) (k : ∀ m' : gw_Mem, gp_R g m' → gp_K m m' → P (ga_worth g x) m') : gw_CIx Γ d M_X11_worth [gR 0, gI x] m P :=
  gw_CIx.of (sp_X11_worth g m h.1 h.2.1 h.2.2.1 x) hd (fun r m' _ _ hq => by
    obtain ⟨rfl, hW, f1, f2⟩ := hq
    exact k m' ⟨h.1, gc_P_m h.2.1 (fun o a b => f1 o (by omega) (by omega) (by omega)), hW, gc_B_m h.2.2.2 (f2 12 (by omega) (by omega)) (f1 2 (by omega) (by omega) (by omega))⟩ ⟨f1 117 (by omega) (by omega) (by omega), fun o a b => f1 o (by omega) (by omega) (by omega), f2 2 (by omega) (by omega)⟩)
theorem gp_c_best (h : gp_R g m) (t w : Int) (hd : Nat.blt 20 d = true) (k : ∀ m' : gw_Mem, gp_R g m' → gp_K m m' → P (ga_best g t w) m') : gw_CIx Γ d M_X11_best [gR 0, gI t, gI w] m P :=
  gw_CIx.of (sp_X11_best g m h.1 h.2.1 h.2.2.2 t w) hd (fun r m' _ _ hq => by
    obtain ⟨rfl, hB, f1, f2⟩ := hq
    exact k m' ⟨h.1, gc_P_m h.2.1 (fun o a b => f1 o (by omega) (by omega) (by omega)), gc_W_m h.2.2.1 (f2 8 (by omega)) (f2 10 (by omega)) (f1 1 (by omega) (by omega) (by omega)) (fun o a => f1 o (by omega) (by omega) (by omega)), hB⟩ ⟨f1 117 (by omega) (by omega) (by omega), fun o a b => f1 o (by omega) (by omega) (by omega), f2 2 (by omega)⟩)
theorem gp_c_chosen (h : gp_R g m) (t w : Int) (hd : Nat.blt 20 d = true) (k : P (ga_chosen g t w) m) : gw_CIx Γ d M_X11_chosen [gR 0, gI t, gI w] m P :=
  gw_CIx.eq (sp_X11_chosen g m h.1 h.2.1 t w) hd k
theorem gp_c_colours (n pr i : Int) (hp : gw_inR pr) (hd : Nat.blt 30 d = true) (k : ∀ (v : Int) (m' : gw_Mem), gd_isc n pr i v → P v m') : gw_CIx Γ d M_X11_colours [gR 0, gI n, gI pr, gI i] m P :=
  gw_CIx.of (sp_X11_colours n pr i hp m) hd (fun r m' _ _ hq => k r m' hq.1)
theorem gp_c_rule (h : gp_R g m) (w v : Int) (hv : (0 ≤ w ∧ w ≤ 4) ∧ gd_rlo w ≤ v ∧ v ≤ gd_rhi w) (hd : Nat.blt 12 d = true) (k : ∀ m' : gw_Mem, gp_R (gw_up g 122 w v) m' → gp_K m m' → P (g 122 w) m') : gw_CIx Γ d M_X11_rule [gR 0, gI w, gI v] m P :=
  gw_CIx.of (sp_X11_rule g m h.2.1 w v) hd (fun r m' _ _ hq => by
    obtain ⟨rfl, rfl⟩ := hq
    unfold ga_rule cu_rule
    rw [if_pos hv, if_pos hv]
    have f := gp_fg (gw_up m 22 w v)
    refine k _ (gp_T_R (gp_T_fg (gd_JP_rule h.1 hv) (gc_P_rule (b := 4) h.2.1))) ⟨?_, fun o a b => ?_, ?_⟩
    · rw [f.1 117 (by omega), gw_up_ne (by omega)]
    · rw [f.1 o (by omega), gw_up_ne (by omega)]
    · rw [f.2.1 2 (by omega) (by omega), gw_up_ne (by omega)])
theorem gp_c_image (h : gp_R g m) (hd : Nat.blt 12 d = true) (k : ∀ m' : gw_Mem, gp_R g m' → gp_Im g m' → m' 117 = m 117 → P 1 m') : gw_CIx Γ d M_X11_image [gR 0] m P :=
  gw_CIx.of (sp_X11_image m) hd (fun r m' _ _ hq => by
    obtain ⟨rfl, rfl⟩ := hq
    have ne : ∀ o : Nat, o ≠ 0 → (o < 25 ∨ 46 ≤ o) → gw_up (gc_pl m 25 4) 0 2 1 o = m o := fun o h0 h1 => by
      rw [gw_up_ne h0, gc_pl_ne (by omega)]
    have z : ∀ j : Int, j ≠ 2 → gw_up (gc_pl m 25 4) 0 2 1 0 j = m 0 j := fun j hj => by
      rw [gw_up_at, if_neg hj, gc_pl_ne (by omega)]
    have P25 : gc_P g (gc_pl m 25 4) 25 := gc_pl_P h.1 h.2.1 (by omega)
    refine k _ ⟨h.1, gc_P_m h.2.1 (fun o a b => ne o (by omega) (by omega)), gc_W_m h.2.2.1 (z 8 (by omega)) (z 10 (by omega)) (ne 1 (by omega) (by omega)) (fun o a => ne o (by omega) (by omega)), gc_B_m h.2.2.2 (z 12 (by omega)) (ne 2 (by omega) (by omega))⟩ ⟨gc_P_m P25 (fun o a b => gw_up_ne (by omega)), by rw [gw_up_at, if_pos rfl]⟩ (ne 117 (by omega) (by omega)))
theorem gp_c_restore (hJ : gd_JP g) (h : gp_Im g m) (hd : Nat.blt 12 d = true) (k : ∀ m' : gw_Mem, gp_R g m' → m' 117 = m 117 → P 1 m') : gw_CIx Γ d M_X11_restore [gR 0] m P :=
  gw_CIx.of (sp_X11_restore m) hd (fun r m' _ _ hq => by
    obtain ⟨rfl, rfl⟩ := hq
    rw [if_neg (by rw [h.2]; omega), if_neg (by rw [h.2]; omega)]
    have f := gp_fg (gc_pl m 4 25)
    refine k _ (gp_T_R (gp_T_fg hJ (gc_pl_P hJ h.1 (by omega)))) ?_
    rw [f.1 117 (by omega), gc_pl_ne (by omega)])
end GPQ
/-! what one is worth -/
theorem gp_ha_rng (w : gw_Mem) (n : Nat) (hn : n ≤ 10) (h : ∀ j : Int, 0 ≤ j ∧ j < n → 0 ≤ w 132 j ∧ w 132 j ≤ 300) : 0 ≤ gd_ha w n ∧ gd_ha w n ≤ 300 * n := by
  induction n with
  | zero => exact ⟨Int.le_refl _, Int.le_refl _⟩
  | succ n ih =>
    have q := ih (by omega) (fun j hj => h j (by omega))
    have z := h n (by omega)
    rw [gd_ha, gw_w_id (by omega)]
    omega
theorem gp_worth {g : gw_Mem} (hJ : gd_JP g) (x : Nat) (hx : x < gd_n g) : (g 123 x ≠ 3 ∧ g 125 x = 0 → ga_worth g x = -100002) ∧ (¬ (g 123 x ≠ 3 ∧ g 125 x = 0) → -100000 < ga_worth g x) := by
  have hnc := gd_n_cast hJ
  unfold ga_worth
  rw [if_pos (show 0 ≤ (x : Int) ∧ (x : Int) ≤ g 117 6 - 1 by omega)]
  refine ⟨fun h => by rw [if_pos h], fun h => ?_⟩
  rw [if_neg h]
  have a := gd_walks_heard g
  have b := gd_walks_heard (gd_wq (gd_walks g) g x)
  have en0 : ∀ w : gw_Mem, gd_n (gd_wq w g x) = gd_n w := fun w => rfl
  have en : gd_n (gd_wq (gd_walks g) g x) = gd_n g := by rw [en0, gd_walks_n]
  rw [en] at b
  have ra := gp_ha_rng (gd_walks g) (gd_n g) hnc.2 (fun j hj => a j hj)
  have rb := gp_ha_rng (gd_walks (gd_wq (gd_walks g) g x)) (gd_n g) hnc.2 (fun j hj => b j hj)
  generalize gd_ha (gd_walks g) (gd_n g) = u at *
  generalize gd_ha (gd_walks (gd_wq (gd_walks g) g x)) (gd_n g) = v at *
  rw [gw_w_id (by omega)]
  omega
