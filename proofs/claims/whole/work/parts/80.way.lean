/-! the reference: a way, a group -/
def ga_rw (g : gw_Mem) : Int × (Int → Int) := gz_lp (g 127) (g 117 12) (gz_mc (g 127) (g 117 12)) 8 59 8 0 0 (g 128)
def ga_rg (g : gw_Mem) : Int × (Int → Int) := gz_lp (g 127) (g 117 12) (gz_pc (g 127) (g 117 12)) 10 44 10 0 0 (g 128)
def gz_Cw (r : Int → Int) (k : Nat) : Prop := (0 ≤ r (3 * (k : Int)) ∧ r (3 * (k : Int)) ≤ 3) ∧ (0 ≤ r (3 * (k : Int) + 1) ∧ r (3 * (k : Int) + 1) ≤ 99) ∧ (gd_lo (r (3 * (k : Int))) ≤ r (3 * (k : Int) + 2) ∧ r (3 * (k : Int) + 2) ≤ gd_hi (r (3 * (k : Int)))) ∧ gz_tk r (r (3 * (k : Int))) (r (3 * (k : Int) + 1)) k = 0
def gz_Cg (r : Int → Int) (k : Nat) : Prop := (0 ≤ r (3 * (k : Int)) ∧ r (3 * (k : Int)) ≤ 3) ∧ (1 ≤ r (3 * (k : Int) + 1) ∧ r (3 * (k : Int) + 1) ≤ 4) ∧ gw_b (r (3 * (k : Int) + 2)) ∧ ¬ (r (3 * (k : Int)) = 3 ∧ gz_tt r k = 1)
theorem gz_tp_J {g : gw_Mem} (h : gd_JT g) : gz_tp (g 127) (g 117 12) g := ⟨rfl, h.1, fun j h0 h1 => ⟨rfl, h.2 j ⟨h0, h1⟩⟩⟩
theorem ga_rw_good {g : gw_Mem} (h : gd_JT g) : ((ga_rw g).1 < 0 ∧ -100 ≤ (ga_rw g).1) ∨ ((1 ≤ (ga_rw g).1 ∧ (ga_rw g).1 ≤ 8) ∧ ∀ k : Nat, (k : Int) < (ga_rw g).1 → gz_Cw (ga_rw g).2 k) := by
  have hL := h.1
  have := gz_lp_good (g 127) (g 117 12) (gz_mc (g 127) (g 117 12)) 8 59 gz_Cw hL.1 (fun r n p hp => by
    have a := gz_mc_in (g 127) (L := g 117 12) r n hp
    refine ⟨a.1, a.2.imp id (fun b => ⟨b.1, ?_⟩)⟩
    have q := gz_r3_at r n (gz_mc (g 127) (g 117 12) r n p).2.2.1 (gz_mc (g 127) (g 117 12) r n p).2.2.2.1 (gz_mc (g 127) (g 117 12) r n p).2.2.2.2
    unfold gz_Cw
    rw [q.1, q.2.1, q.2.2.1, gz_tk_congr _ _ n q.2.2.2]
    exact b.2) (fun r r' n hr hC => by
    unfold gz_Cw at hC ⊢
    rw [hr (3 * (n : Int)) (by omega), hr (3 * (n : Int) + 1) (by omega), hr (3 * (n : Int) + 2) (by omega), gz_tk_congr _ _ n (fun j hj => hr j (by omega))]
    exact hC) 8 0 0 (g 128) rfl (by omega) (by omega) (fun k hk => by omega)
  rcases this with z | z
  · exact Or.inl ⟨z.1, Int.le_trans (by omega) z.2⟩
  · exact Or.inr z
theorem ga_rg_good {g : gw_Mem} (h : gd_JT g) : ((ga_rg g).1 < 0 ∧ -100 ≤ (ga_rg g).1) ∨ ((1 ≤ (ga_rg g).1 ∧ (ga_rg g).1 ≤ 10) ∧ ∀ k : Nat, (k : Int) < (ga_rg g).1 → gz_Cg (ga_rg g).2 k) := by
  have hL := h.1
  have := gz_lp_good (g 127) (g 117 12) (gz_pc (g 127) (g 117 12)) 10 44 gz_Cg hL.1 (fun r n p hp => by
    have a := gz_pc_in (g 127) (L := g 117 12) r n hp
    refine ⟨a.1, a.2.imp id (fun b => ⟨b.1, ?_⟩)⟩
    have q := gz_r3_at r n (gz_pc (g 127) (g 117 12) r n p).2.2.1 (gz_pc (g 127) (g 117 12) r n p).2.2.2.1 (gz_pc (g 127) (g 117 12) r n p).2.2.2.2
    unfold gz_Cg
    rw [q.1, q.2.1, q.2.2.1, gz_tt_congr n q.2.2.2]
    exact b.2) (fun r r' n hr hC => by
    unfold gz_Cg at hC ⊢
    rw [hr (3 * (n : Int)) (by omega), hr (3 * (n : Int) + 1) (by omega), hr (3 * (n : Int) + 2) (by omega), gz_tt_congr n (fun j hj => hr j (by omega))]
    exact hC) 10 0 0 (g 128) rfl (by omega) (by omega) (fun k hk => by omega)
  rcases this with z | z
  · exact Or.inl ⟨z.1, Int.le_trans (by omega) z.2⟩
  · exact Or.inr z
/-- the marks of the first n entries in place of all -/
def gd_wm (g : gw_Mem) (r : Int → Int) : Nat → gw_Mem
  | 0 => fun o j => if o = 118 ∧ 0 ≤ j ∧ j < 4 then 0 else g o j
  | n + 1 => gd_comes (gd_wm g r n) (r (3 * (n : Int))) (r (3 * (n : Int) + 1)) (r (3 * (n : Int) + 2))
/-- the people of the first n entries in place of all -/
def gd_gm (g : gw_Mem) (r : Int → Int) : Nat → gw_Mem
  | 0 => gw_up g 117 6 0
  | n + 1 => gd_joins (gd_gm g r n) (r (3 * (n : Int))) (r (3 * (n : Int) + 1)) (r (3 * (n : Int) + 2))
theorem gd_wm_ne (g : gw_Mem) (r : Int → Int) (n : Nat) {o : Nat} (h1 : o ≠ 118) (h2 : o ≠ 119) (h3 : o ≠ 120) (h4 : o ≠ 121) : gd_wm g r n o = g o := by
  induction n with
  | zero =>
    funext j
    show (if o = 118 ∧ 0 ≤ j ∧ j < 4 then 0 else g o j) = g o j
    rw [if_neg (fun z => h1 z.1)]
  | succ n ih => rw [gd_wm, gd_comes_ne _ _ _ _ o h1 h2 h3 h4, ih]
theorem gd_wm_8 (g : gw_Mem) (r : Int → Int) (n : Nat) (k : Int) (hk : 0 ≤ k ∧ k ≤ 3) : 0 ≤ gd_wm g r n 118 k ∧ gd_wm g r n 118 k ≤ n := by
  induction n with
  | zero =>
    show 0 ≤ (if 118 = 118 ∧ 0 ≤ k ∧ k < 4 then 0 else g 118 k) ∧ (if 118 = 118 ∧ 0 ≤ k ∧ k < 4 then 0 else g 118 k) ≤ _
    rw [if_pos (by omega)]
    omega
  | succ n ih =>
    rw [gd_wm, gd_comes_8]
    split
    · rename_i e
      rw [e] at ih
      omega
    · omega
theorem gd_wm_JP {g : gw_Mem} (hJ : gd_JP g) (r : Int → Int) (n : Nat) (hn : n ≤ 8) (h : ∀ k : Nat, k < n → gz_Cw r k) : gd_JP (gd_wm g r n) := by
  induction n with
  | zero =>
    obtain ⟨j1, j2, j3, j4, j5, j6, j7, j8, j9⟩ := hJ
    have ne : ∀ o : Nat, o ≠ 118 → gd_wm g r 0 o = g o := by
      intro o ho
      funext j
      show (if o = 118 ∧ 0 ≤ j ∧ j < 4 then 0 else g o j) = g o j
      rw [if_neg (fun z => ho z.1)]
    have e8 : ∀ k : Int, 0 ≤ k ∧ k ≤ 3 → gd_wm g r 0 118 k = 0 := by
      intro k hk
      show (if 118 = 118 ∧ 0 ≤ k ∧ k < 4 then 0 else g 118 k) = 0
      rw [if_pos (by omega)]
    unfold gd_JP
    rw [ne 117 (by omega), ne 119 (by omega), ne 120 (by omega), ne 121 (by omega), ne 122 (by omega), ne 123 (by omega), ne 124 (by omega), ne 125 (by omega), ne 126 (by omega)]
    refine ⟨j1, fun k hk => by rw [e8 k hk]; omega, fun k j hk hj => by rw [e8 k hk] at hj; omega, fun j hj => by rw [e8 0 (by omega)] at hj; omega, j5, j6, j7, j8, j9⟩
  | succ n ih =>
    have c := h n (by omega)
    have b := gd_wm_8 g r n (r (3 * (n : Int))) c.1
    rw [gd_wm]
    exact gd_JP_comes (ih (by omega) (fun k hk => h k (by omega))) c.1 c.2.1 c.2.2.1 (by omega)
theorem gd_gm_ne (g : gw_Mem) (r : Int → Int) (n : Nat) {o : Nat} (h1 : o ≠ 117) (h2 : o ≠ 123) (h3 : o ≠ 124) (h4 : o ≠ 125) : gd_gm g r n o = g o := by
  induction n with
  | zero => rw [gd_gm, gw_up_ne h1]
  | succ n ih =>
    rw [gd_gm]
    unfold gd_joins
    rw [gw_up_ne h1, gw_up_ne h4, gw_up_ne h3, gw_up_ne h2, ih]
theorem gd_gm_117 (g : gw_Mem) (r : Int → Int) (n : Nat) (j : Int) : gd_gm g r n 117 j = if j = 6 then (n : Int) else g 117 j := by
  induction n generalizing j with
  | zero => rw [gd_gm, gw_up_at]; rfl
  | succ n ih =>
    rw [gd_gm]
    unfold gd_joins
    rw [gw_up_at, gw_up_ne (by omega), gw_up_ne (by omega), gw_up_ne (by omega), ih 6, ih j, if_pos rfl]
    by_cases e : j = 6
    · rw [if_pos e, if_pos e]; omega
    · rw [if_neg e, if_neg e, if_neg e]
theorem gd_gm_3 (g : gw_Mem) (r : Int → Int) (n : Nat) : ∀ k : Nat, k < n → gd_gm g r n 123 (k : Int) = r (3 * (k : Int)) := by
  induction n with
  | zero => intro k hk; omega
  | succ n ih =>
    intro k hk
    rw [gd_gm]
    unfold gd_joins
    rw [gw_up_ne (by omega), gw_up_ne (by omega), gw_up_ne (by omega), gw_up_at, gd_gm_117, if_pos rfl]
    by_cases e : k = n
    · rw [if_pos (by omega), e]
    · rw [if_neg (by omega)]
      exact ih k (by omega)
theorem gd_gm_JP {g : gw_Mem} (hJ : gd_JP g) (r : Int → Int) (n : Nat) (hn : n ≤ 10) (h : ∀ k : Nat, k < n → gz_Cg r k) : gd_JP (gd_gm g r n) := by
  induction n with
  | zero =>
    obtain ⟨j1, j2, j3, j4, j5, j6, j7, j8, j9⟩ := hJ
    rw [gd_gm]
    have e0 : gw_up g 117 6 0 117 0 = g 117 0 := by rw [gw_up_at, if_neg (by omega)]
    have e6 : gw_up g 117 6 0 117 6 = 0 := by rw [gw_up_at, if_pos rfl]
    unfold gd_JP
    rw [e0, e6]
    simp (disch := omega) only [gw_up_ne]
    exact ⟨j1, j2, j3, j4, by omega, fun j hj => by omega, fun i j hi => by omega, j8, j9⟩
  | succ n ih =>
    have c := h n (by omega)
    have e6 : gd_gm g r n 117 6 = n := by rw [gd_gm_117, if_pos rfl]
    rw [gd_gm]
    refine gd_JP_joins (ih (by omega) (fun k hk => h k (by omega))) c.1 c.2.1 c.2.2.1 (fun z => c.2.2.2 ⟨z.1, ?_⟩) (by omega)
    rw [e6] at z
    have tr := gd_tl_rng (gd_gm g r n) n
    rw [show ((n : Int)).toNat = n by omega] at z
    refine (gz_tt_iff r n).2.mpr ⟨(gd_tl (gd_gm g r n) n).toNat, by omega, ?_⟩
    have := tr.2.2.2 z.2
    rw [← gd_gm_3 g r n (gd_tl (gd_gm g r n) n).toNat (by omega), Int.toNat_of_nonneg z.2]
    exact this
theorem gd_comes_congr {g q : gw_Mem} {k p l : Int} (h8 : q 118 = g 118) (h9 : q 119 = g 119) (h20 : q 120 = g 120) (h21 : q 121 = g 121) : gd_comes q k p l 118 = gd_comes g k p l 118 ∧ gd_comes q k p l 119 = gd_comes g k p l 119 ∧ gd_comes q k p l 120 = gd_comes g k p l 120 ∧ gd_comes q k p l 121 = gd_comes g k p l 121 := by
  refine ⟨?_, ?_, ?_, ?_⟩ <;> funext j
  · rw [gd_comes_8, gd_comes_8, h8]
  · rw [gd_comes_9, gd_comes_9, h8, h9]
  · rw [gd_comes_20, gd_comes_20, h8, h20]
  · rw [gd_comes_21, gd_comes_21, h8, h21]
def gz_wp (g m' : gw_Mem) : Prop := (∀ o : Nat, o ≠ 117 → o ≠ 128 → m' o = (if 0 ≤ (ga_rw g).1 then gd_wm g (ga_rw g).2 (ga_rw g).1.toNat else g) o) ∧ (∀ j : Int, j ≠ 12 → j ≠ 13 → j ≠ 14 → m' 117 j = g 117 j) ∧ m' 117 12 = 0
theorem gz_ss_ne (g : gw_Mem) (r : Int → Int) (w p : Int) {o : Nat} (h1 : o ≠ 117) (h2 : o ≠ 128) : gz_ss g r w p o = g o := by
  funext j
  unfold gz_ss
  rw [if_neg h2, if_neg (fun z => h1 z.1), if_neg (fun z => h1 z.1)]
theorem gz_ss_7 (g : gw_Mem) (r : Int → Int) (w p : Int) {j : Int} (h1 : j ≠ 13) (h2 : j ≠ 14) : gz_ss g r w p 117 j = g 117 j := by
  unfold gz_ss
  rw [if_neg (by omega), if_neg (fun z => h1 z.2), if_neg (fun z => h2 z.2)]
theorem sp_X12_way (g : gw_Mem) (hJ : gd_JP g) (hT : gd_JT g) : gw_SpecI M_X12_way 20 [gR 117] g (fun r m' => r = (ga_rw g).1 ∧ gz_wp g m') := by
  refine gw_intro pl_X12_way rfl (fun Γ => ?_)
  apply r_X12_way_0
  have good := ga_rw_good hT
  have hr := sp_X12_readAll (g 127) (g 117 12) g (gz_tp_J hT) 1 (gz_mc (g 127) (g 117 12)) 8 59 (Or.inr ⟨rfl, rfl, rfl⟩) (fun r n p hp => by have a := gz_mc_in (g 127) (L := g 117 12) r n hp; exact ⟨a.1, a.2.imp id And.left⟩) (fun r r' n p h => gz_mc_congr _ _ n p h) (fun r n p hn hp => ⟨fun z => absurd z (by omega), fun _ => sp_X12_markClause _ _ g (gz_tp_J hT) r p hp n hn⟩)
  change gw_SpecI M_X12_readAll 16 [gR 117, gI 1] g (fun v m' => v = (ga_rw g).1 ∧ ∃ (r' : Int → Int) (w q : Int), m' = gz_ss (gw_up g 117 12 0) r' w q ∧ ∀ j : Int, 0 ≤ j → j < 3 * v → r' j = (ga_rw g).2 j) at hr
  refine gw_CI.of hr rfl (fun v m2 _ _ hv => ?_)
  obtain ⟨rfl, r', w, q, rfl, hrr⟩ := hv
  unfold gz_wp
  obtain ⟨R, hR⟩ : ∃ R, R = ga_rw g := ⟨_, rfl⟩
  rw [← hR] at good hrr ⊢
  have b1 : ∀ o : Nat, o ≠ 117 → o ≠ 128 → gz_ss (gw_up g 117 12 0) r' w q o = g o := fun o h1 h2 => by rw [gz_ss_ne _ _ _ _ h1 h2, gw_up_ne h1]
  have b2 : ∀ j : Int, j ≠ 12 → j ≠ 13 → j ≠ 14 → gz_ss (gw_up g 117 12 0) r' w q 117 j = g 117 j := fun j h1 h2 h3 => by rw [gz_ss_7 _ _ _ _ h2 h3, gw_up_at, if_neg h1]
  have b3 : gz_ss (gw_up g 117 12 0) r' w q 117 12 = 0 := by rw [gz_ss_12, gw_up_at, if_pos rfl]
  have b4 : gz_ss (gw_up g 117 12 0) r' w q 128 = r' := gz_ss_128 _ _ _ _
  generalize gz_ss (gw_up g 117 12 0) r' w q = m2 at *
  rcases good with ⟨hneg, _⟩ | ⟨hpos, hC⟩
  · apply r_X12_way_8
    refine ⟨fun z => absurd z (by omega), fun _ => ⟨fun _ => ?_, fun z => absurd (by omega) z⟩⟩
    apply r_X12_way_30
    apply r_X12_way_32
    refine ⟨fun _ => ⟨_, rfl, rfl, fun o h1 h2 => ?_, b2, b3⟩, fun z => absurd (by omega) z⟩
    rw [if_neg (by omega)]
    exact b1 o h1 h2
  · obtain ⟨N, hN⟩ := gw_nat (x := R.1) (by omega)
    have eN : R.1.toNat = N := by omega
    have lay : ∀ (j k : Nat) (u : gw_Mem), k + j = N → (∀ o : Nat, o ≠ 117 → o ≠ 128 → u o = gd_wm g R.2 k o) → (∀ j : Int, j ≠ 12 → j ≠ 13 → j ≠ 14 → u 117 j = g 117 j) → u 117 12 = 0 → u 128 = r' → gw_G M_X12_way 20 (fun r m' => ∃ v, r = some (gI v) ∧ v = R.1 ∧ (∀ o : Nat, o ≠ 117 → o ≠ 128 → m' o = (if 0 ≤ R.1 then gd_wm g R.2 R.1.toNat else g) o) ∧ (∀ j : Int, j ≠ 12 → j ≠ 13 → j ≠ 14 → m' 117 j = g 117 j) ∧ m' 117 12 = 0) Γ 32 [some (gR 117), some (gI R.1), some (gI (k : Int))] [] u := by
      intro j
      induction j with
      | zero =>
        intro k u hk u1 u2 u3 u4
        apply r_X12_way_32
        refine ⟨fun _ => ⟨_, rfl, rfl, fun o h1 h2 => ?_, u2, u3⟩, fun z => absurd (by omega) z⟩
        rw [if_pos (by omega), eN, ← hk, Nat.add_zero]
        exact u1 o h1 h2
      | succ j ih =>
        intro k u hk u1 u2 u3 u4
        apply r_X12_way_32
        rw [gw_w_id (x := 3 * (k : Int)) (by omega), gw_w_id (x := 3 * (k : Int) + 1) (by omega), gw_w_id (x := 3 * (k : Int) + 2) (by omega), u4, hrr (3 * (k : Int)) (by omega) (by omega), hrr (3 * (k : Int) + 1) (by omega) (by omega), hrr (3 * (k : Int) + 2) (by omega) (by omega)]
        refine ⟨fun z => absurd z (by omega), fun _ => ⟨gw_inm (by omega) (by omega), gw_inm (by omega) (by omega), gw_inm (by omega) (by omega), ?_⟩⟩
        have c := hC k (by omega)
        have b := gd_wm_8 g R.2 k (R.2 (3 * (k : Int))) c.1
        have e8 := u1 118 (by omega) (by omega)
        refine gw_CI.eq (sp_X12_comes _ _ _ u c.1 (by rw [e8]; omega)) rfl ?_
        rw [gw_w1 (by omega)]
        have cg := gd_comes_congr (g := gd_wm g R.2 k) (q := u) (k := R.2 (3 * (k : Int))) (p := R.2 (3 * (k : Int) + 1)) (l := R.2 (3 * (k : Int) + 2)) e8 (u1 119 (by omega) (by omega)) (u1 120 (by omega) (by omega)) (u1 121 (by omega) (by omega))
        refine ih (k + 1) _ (by omega) (fun o h1 h2 => ?_) (fun j h1 h2 h3 => ?_) ?_ ?_
        · rw [gd_wm]
          by_cases o8 : o = 118
          · rw [o8]; exact cg.1
          · by_cases o9 : o = 119
            · rw [o9]; exact cg.2.1
            · by_cases o20 : o = 120
              · rw [o20]; exact cg.2.2.1
              · by_cases o21 : o = 121
                · rw [o21]; exact cg.2.2.2
                · rw [gd_comes_ne _ _ _ _ o o8 o9 o20 o21, gd_comes_ne _ _ _ _ o o8 o9 o20 o21]
                  exact u1 o h1 h2
        · rw [gd_comes_ne _ _ _ _ 117 (by omega) (by omega) (by omega) (by omega)]
          exact u2 j h1 h2 h3
        · rw [gd_comes_ne _ _ _ _ 117 (by omega) (by omega) (by omega) (by omega)]
          exact u3
        · rw [gd_comes_ne _ _ _ _ 128 (by omega) (by omega) (by omega) (by omega)]
          exact u4
    have zero : ∀ (j k : Nat) (u : gw_Mem), k + j = 4 → (∀ o : Nat, o ≠ 117 → o ≠ 118 → u o = m2 o) → (∀ j : Int, u 118 j = if 0 ≤ j ∧ j < k then 0 else g 118 j) → u 117 = m2 117 → gw_G M_X12_way 20 (fun r m' => ∃ v, r = some (gI v) ∧ v = R.1 ∧ (∀ o : Nat, o ≠ 117 → o ≠ 128 → m' o = (if 0 ≤ R.1 then gd_wm g R.2 R.1.toNat else g) o) ∧ (∀ j : Int, j ≠ 12 → j ≠ 13 → j ≠ 14 → m' 117 j = g 117 j) ∧ m' 117 12 = 0) Γ 8 [some (gR 117), some (gI R.1), some (gI (k : Int))] [] u := by
      intro j
      induction j with
      | zero =>
        intro k u hk u1 u2 u3
        apply r_X12_way_8
        refine ⟨fun _ => ?_, fun z => absurd (by omega) z⟩
        apply r_X12_way_30
        refine lay N 0 u (by omega) (fun o h1 h2 => ?_) (fun j h1 h2 h3 => by rw [u3]; exact b2 j h1 h2 h3) (by rw [u3]; exact b3) (by rw [u1 128 (by omega) (by omega)]; exact b4)
        funext j
        show u o j = if o = 118 ∧ 0 ≤ j ∧ j < 4 then 0 else g o j
        by_cases o8 : o = 118
        · rw [o8, u2 j]
          by_cases c : 0 ≤ j ∧ j < 4
          · rw [if_pos (by omega), if_pos ⟨rfl, c⟩]
          · rw [if_neg (by omega), if_neg (fun z => c z.2)]
        · rw [if_neg (fun z => o8 z.1), u1 o h1 o8, b1 o h1 h2]
      | succ j ih =>
        intro k u hk u1 u2 u3
        apply r_X12_way_8
        refine ⟨fun z => absurd z (by omega), fun _ => ⟨fun z => absurd z (by omega), fun _ => ⟨gw_inm (by omega) (by omega), ?_⟩⟩⟩
        rw [gw_w1 (by omega)]
        refine ih (k + 1) _ (by omega) (fun o h1 h2 => by rw [gw_up_ne h2]; exact u1 o h1 h2) (fun j => ?_) (by rw [gw_up_ne (by omega)]; exact u3)
        rw [gw_up_at, u2 j]
        by_cases c : j = k
        · rw [if_pos c, if_pos (by omega)]
        · rw [if_neg c]
          by_cases c2 : 0 ≤ j ∧ j < k
          · rw [if_pos c2, if_pos (by omega)]
          · rw [if_neg c2, if_neg (by omega)]
    exact zero 4 0 m2 (by omega) (fun _ _ _ => rfl) (fun j => by rw [if_neg (by omega), b1 118 (by omega) (by omega)]) rfl
def gz_gp (g m' : gw_Mem) : Prop := (∀ o : Nat, o ≠ 117 → o ≠ 128 → m' o = (if 0 ≤ (ga_rg g).1 then gd_gm g (ga_rg g).2 (ga_rg g).1.toNat else g) o) ∧ (∀ j : Int, j ≠ 12 → j ≠ 13 → j ≠ 14 → m' 117 j = (if 0 ≤ (ga_rg g).1 then gd_gm g (ga_rg g).2 (ga_rg g).1.toNat else g) 117 j) ∧ m' 117 12 = 0
theorem sp_X12_group (g : gw_Mem) (hJ : gd_JP g) (hT : gd_JT g) : gw_SpecI M_X12_group 20 [gR 117] g (fun r m' => r = (ga_rg g).1 ∧ gz_gp g m') := by
  refine gw_intro pl_X12_group rfl (fun Γ => ?_)
  apply r_X12_group_0
  have good := ga_rg_good hT
  have hr := sp_X12_readAll (g 127) (g 117 12) g (gz_tp_J hT) 0 (gz_pc (g 127) (g 117 12)) 10 44 (Or.inl ⟨rfl, rfl, rfl⟩) (fun r n p hp => by have a := gz_pc_in (g 127) (L := g 117 12) r n hp; exact ⟨a.1, a.2.imp id And.left⟩) (fun r r' n p h => gz_pc_congr _ _ n p h) (fun r n p hn hp => ⟨fun _ => sp_X12_personClause _ _ g (gz_tp_J hT) r p hp n hn, fun z => absurd rfl z⟩)
  change gw_SpecI M_X12_readAll 16 [gR 117, gI 0] g (fun v m' => v = (ga_rg g).1 ∧ ∃ (r' : Int → Int) (w q : Int), m' = gz_ss (gw_up g 117 12 0) r' w q ∧ ∀ j : Int, 0 ≤ j → j < 3 * v → r' j = (ga_rg g).2 j) at hr
  refine gw_CI.of hr rfl (fun v m2 _ _ hv => ?_)
  obtain ⟨rfl, r', w, q, rfl, hrr⟩ := hv
  unfold gz_gp
  obtain ⟨R, hR⟩ : ∃ R, R = ga_rg g := ⟨_, rfl⟩
  rw [← hR] at good hrr ⊢
  have b1 : ∀ o : Nat, o ≠ 117 → o ≠ 128 → gz_ss (gw_up g 117 12 0) r' w q o = g o := fun o h1 h2 => by rw [gz_ss_ne _ _ _ _ h1 h2, gw_up_ne h1]
  have b2 : ∀ j : Int, j ≠ 12 → j ≠ 13 → j ≠ 14 → gz_ss (gw_up g 117 12 0) r' w q 117 j = g 117 j := fun j h1 h2 h3 => by rw [gz_ss_7 _ _ _ _ h2 h3, gw_up_at, if_neg h1]
  have b3 : gz_ss (gw_up g 117 12 0) r' w q 117 12 = 0 := by rw [gz_ss_12, gw_up_at, if_pos rfl]
  have b4 : gz_ss (gw_up g 117 12 0) r' w q 128 = r' := gz_ss_128 _ _ _ _
  generalize gz_ss (gw_up g 117 12 0) r' w q = m2 at *
  rcases good with ⟨hneg, _⟩ | ⟨hpos, hC⟩
  · rw [if_pos (show R.1 ≤ 0 by omega)]
    apply r_X12_group_24
    refine ⟨fun _ => ⟨_, rfl, rfl, fun o h1 h2 => ?_, fun j h1 h2 h3 => ?_, ?_⟩, fun z => absurd (by omega) z⟩
    · rw [if_neg (by omega), gw_up_ne h1]
      exact b1 o h1 h2
    · rw [if_neg (by omega), gw_up_at]
      by_cases c : j = 6
      · rw [if_pos c, c]
        exact b2 6 (by omega) (by omega) (by omega)
      · rw [if_neg c]
        exact b2 j h1 h2 h3
    · rw [gw_up_at, if_neg (by omega)]
      exact b3
  · obtain ⟨N, hN⟩ := gw_nat (x := R.1) (by omega)
    have eN : R.1.toNat = N := by omega
    have lay : ∀ (j k : Nat) (u : gw_Mem), k + j = N → (∀ o : Nat, o ≠ 117 → o ≠ 128 → u o = gd_gm g R.2 k o) → (∀ j : Int, j ≠ 12 → j ≠ 13 → j ≠ 14 → u 117 j = gd_gm g R.2 k 117 j) → u 117 12 = 0 → u 128 = r' → gw_G M_X12_group 20 (fun r m' => ∃ v, r = some (gI v) ∧ v = R.1 ∧ (∀ o : Nat, o ≠ 117 → o ≠ 128 → m' o = (if 0 ≤ R.1 then gd_gm g R.2 R.1.toNat else g) o) ∧ (∀ j : Int, j ≠ 12 → j ≠ 13 → j ≠ 14 → m' 117 j = (if 0 ≤ R.1 then gd_gm g R.2 R.1.toNat else g) 117 j) ∧ m' 117 12 = 0) Γ 24 [some (gR 117), some (gI R.1), some (gI (k : Int))] [] u := by
      intro j
      induction j with
      | zero =>
        intro k u hk u1 u2 u3 u4
        apply r_X12_group_24
        refine ⟨fun _ => ⟨_, rfl, rfl, fun o h1 h2 => ?_, fun j h1 h2 h3 => ?_, u3⟩, fun z => absurd (by omega) z⟩
        · rw [if_pos (by omega), eN, ← hk, Nat.add_zero]
          exact u1 o h1 h2
        · rw [if_pos (by omega), eN, ← hk, Nat.add_zero]
          exact u2 j h1 h2 h3
      | succ j ih =>
        intro k u hk u1 u2 u3 u4
        apply r_X12_group_24
        rw [gw_w_id (x := 3 * (k : Int)) (by omega), gw_w_id (x := 3 * (k : Int) + 1) (by omega), gw_w_id (x := 3 * (k : Int) + 2) (by omega), u4, hrr (3 * (k : Int)) (by omega) (by omega), hrr (3 * (k : Int) + 1) (by omega) (by omega), hrr (3 * (k : Int) + 2) (by omega) (by omega)]
        refine ⟨fun z => absurd z (by omega), fun _ => ⟨gw_inm (by omega) (by omega), gw_inm (by omega) (by omega), gw_inm (by omega) (by omega), ?_⟩⟩
        have e6 : u 117 6 = k := by rw [u2 6 (by omega) (by omega) (by omega), gd_gm_117, if_pos rfl]
        refine gw_CI.eq (sp_X12_joins _ _ _ u (by omega)) rfl ?_
        rw [gw_w1 (by omega)]
        have f6 : gd_gm g R.2 k 117 6 = k := by rw [gd_gm_117, if_pos rfl]
        refine ih (k + 1) _ (by omega) (fun o h1 h2 => ?_) (fun j h1 h2 h3 => ?_) ?_ ?_
        · rw [gd_gm]
          unfold gd_joins
          rw [gw_up_ne h1, gw_up_ne h1, e6, f6]
          funext x
          unfold gw_up
          rw [u1 o h1 h2]
        · rw [gd_gm]
          unfold gd_joins
          rw [gw_up_at, gw_up_at, e6, f6, gw_up_ne (by omega), gw_up_ne (by omega), gw_up_ne (by omega), gw_up_ne (by omega), gw_up_ne (by omega), gw_up_ne (by omega), u2 j h1 h2 h3]
        · unfold gd_joins
          rw [gw_up_at, if_neg (by omega), gw_up_ne (by omega), gw_up_ne (by omega), gw_up_ne (by omega)]
          exact u3
        · unfold gd_joins
          rw [gw_up_ne (by omega), gw_up_ne (by omega), gw_up_ne (by omega), gw_up_ne (by omega)]
          exact u4
    rw [if_neg (show ¬ R.1 ≤ 0 by omega)]
    refine lay N 0 _ (by omega) (fun o h1 h2 => ?_) (fun j h1 h2 h3 => ?_) ?_ ?_
    · rw [gd_gm, gw_up_ne h1, gw_up_ne h1]
      exact b1 o h1 h2
    · rw [gd_gm, gw_up_at, gw_up_at]
      split
      · rfl
      · exact b2 j h1 h2 h3
    · rw [gw_up_at, if_neg (by omega)]
      exact b3
    · rw [gw_up_ne (by omega)]
      exact b4
