/-! the class: sheets, images -/
theorem sp_X7_renew (b : Nat) (hb : gw_isSheet b) (l n : Int) (m : gw_Mem) : gw_SpecV M_X7_renew 10 [gR b, gI l, gI n] m (fun m' => m' = gw_fill (gw_up (gw_up m b 0 l) b 1 n) (b + 1) 0 24 0) := by
  refine gw_intro pl_X7_renew rfl (fun Γ => ?_)
  apply r_X7_renew_0 b hb
  generalize gw_up (gw_up m b 0 l) b 1 n = m1
  have key : ∀ (j i : Nat), i + j = 24 → gw_G M_X7_renew 10 (fun r m' => r = none ∧ m' = gw_fill m1 (b + 1) 0 24 0) Γ 12 [some (gR b), some (gI l), some (gI n), some (gI (i : Int))] [] (gw_fill m1 (b + 1) 0 i 0) := by
    intro j
    induction j with
    | zero =>
      intro i hi
      apply r_X7_renew_12 b hb
      refine ⟨fun _ => ⟨rfl, ?_⟩, fun h => absurd (by omega) h⟩
      rw [show i = 24 by omega]
      rfl
    | succ j ih =>
      intro i hi
      apply r_X7_renew_12 b hb
      refine ⟨fun h => absurd h (by omega), fun h => ?_⟩
      have h1 := gw_fill_step (m := m1) (o := b + 1) (a := 0) (i := i) (v := 0) (by omega)
      rw [Int.zero_add] at h1
      rw [gw_w1 (by omega), h1]
      exact ⟨gw_inm (by omega) (by omega), ih (i + 1) (by omega)⟩
  have h0 := key 24 0 (by omega)
  rw [show ((0 : Nat) : Int) = 0 from rfl, gw_fill_0] at h0
  exact h0
theorem sp_X7_reaches (b : Nat) (hb : gw_isSheet b) (i n : Int) (m : gw_Mem) (hs : 0 ≤ m b 1 ∧ m b 1 ≤ 24) : gw_SpecI M_X7_reaches 11 [gR b, gI i, gI n] m (fun r m' => r = gw_tf (0 ≤ n ∧ 0 ≤ i ∧ i + n ≤ m b 1) ∧ m' = m) := by
  refine gw_intro pl_X7_reaches rfl (fun Γ => ?_)
  apply r_X7_reaches_0 b hb
  refine gw_CI.eq (sp_X11_within i 0 (m b 1) m) rfl (gw_b_tf (fun h => ?_) (fun h1 => ?_))
  · exact gw_rE (by rw [gw_tf, if_neg (fun z => h (by omega))]) rfl
  rw [gw_w_id (x := m b 1 - i) (by omega)]
  refine gw_CI.eq (sp_X11_within n 0 (m b 1 - i) m) rfl (gw_rE ?_ rfl)
  unfold gw_tf
  by_cases h2 : 0 ≤ n ∧ n ≤ m b 1 - i
  · rw [if_pos h2, if_pos (show 0 ≤ n ∧ 0 ≤ i ∧ i + n ≤ m b 1 by omega)]
    rfl
  · rw [if_neg h2, if_neg (show ¬ (0 ≤ n ∧ 0 ≤ i ∧ i + n ≤ m b 1) by omega)]
    rfl
theorem sp_X7_refusal (b : Nat) (hb : gw_isSheet b) (l i n : Int) (m : gw_Mem) (hs : 0 ≤ m b 1 ∧ m b 1 ≤ 24) (hn : 0 ≤ n) : gw_SpecI M_X7_refusal 12 [gR b, gI l, gI i, gI n] m (fun r m' => (r = if m b 0 < 0 then -11 else if m b 0 = l then (if 0 ≤ i ∧ i + n ≤ m b 1 then 0 else -13) else -12) ∧ m' = m) := by
  refine gw_intro pl_X7_refusal rfl (fun Γ => ?_)
  apply r_X7_refusal_0 b hb
  refine ⟨fun h => ⟨fun h2 => ?_, fun h2 => ?_⟩, fun h => ?_⟩
  · refine gw_CI.eq (sp_X7_reaches b hb i n m hs) rfl (gw_rE ?_ rfl)
    rw [if_neg (show ¬ m b 0 < 0 by omega), if_pos h2]
    unfold gw_tf
    by_cases h3 : 0 ≤ i ∧ i + n ≤ m b 1
    · rw [if_pos h3, if_pos (show 0 ≤ n ∧ 0 ≤ i ∧ i + n ≤ m b 1 by omega)]
      rfl
    · rw [if_neg h3, if_neg (show ¬ (0 ≤ n ∧ 0 ≤ i ∧ i + n ≤ m b 1) by omega)]
      rfl
  · exact gw_rE (by rw [if_neg (show ¬ m b 0 < 0 by omega), if_neg h2]) rfl
  · exact gw_rE (by rw [if_pos (show m b 0 < 0 by omega)]) rfl
theorem sp_X7_put (b : Nat) (hb : gw_isSheet b) (i v : Int) (m : gw_Mem) (hi : 0 ≤ i ∧ i < 24) : gw_SpecV M_X7_put 10 [gR b, gI i, gI v] m (fun m' => m' = gw_up m (b + 1) i (gd_nar (m b 0) v)) := by
  refine gw_intro pl_X7_put rfl (fun Γ => ?_)
  apply r_X7_put_0 b hb
  have h24 : gw_in i 24 := gw_inm hi.1 hi.2
  refine ⟨fun h => ⟨h24, rfl, ?_⟩, fun h => ⟨h24, rfl, ?_⟩, fun h h2 => ⟨h24, rfl, ?_⟩⟩
  · rw [gd_nar, if_pos h]
  · rw [gd_nar, if_neg (by omega), if_pos h]
  · rw [gd_nar, if_neg h, if_neg h2]
theorem gc_Sf {g m : gw_Mem} (hJ : gd_JS g) (hS : gc_S g m) {s : Int} (hs : 0 ≤ s ∧ s ≤ 3) : m (109 + 2 * s.toNat) 0 = g 138 s ∧ m (109 + 2 * s.toNat) 1 = g 139 s ∧ (-1 ≤ g 138 s ∧ g 138 s ≤ 2) ∧ 0 ≤ g 139 s ∧ g 139 s ≤ 24 := by
  have h1 := hS s hs
  have h2 := hJ s hs
  exact ⟨h1.1, h1.2.1, h2⟩
def cu_sheet (m : gw_Mem) (s l n : Int) : gw_Mem := if (0 ≤ s ∧ s ≤ 3) ∧ (0 ≤ l ∧ l ≤ 2) ∧ n ≤ 24 then (if 0 ≤ n then gw_fill (gw_up (gw_up m (109 + 2 * s.toNat) 0 l) (109 + 2 * s.toNat) 1 n) (109 + 2 * s.toNat + 1) 0 24 0 else m) else m
theorem sp_X11_sheet (m : gw_Mem) (s l n : Int) : gw_SpecI M_X11_sheet 13 [gR 0, gI s, gI l, gI n] m (fun r m' => r = ga_sheet s l n ∧ m' = cu_sheet m s l n) := by
  refine gw_intro pl_X11_sheet rfl (fun Γ => ?_)
  apply r_X11_sheet_0
  refine gw_CI.eq (sp_X11_isSheet s m) rfl (gw_b_tf (fun h => ?_) (fun h1 => ?_))
  · exact gw_rE (by rw [ga_sheet, if_neg (fun z => h z.1)]) (by rw [cu_sheet, if_neg (fun z => h z.1)])
  refine gw_CI.eq (sp_X11_isLane l m) rfl (gw_b_tf (fun h => ?_) (fun h2 => ?_))
  · exact gw_rE (by rw [ga_sheet, if_neg (fun z => h z.2.1)]) (by rw [cu_sheet, if_neg (fun z => h z.2.1)])
  have i4 : gw_in s 4 := gw_inm (by omega) (by omega)
  refine ⟨fun h3 => ⟨fun h4 => ⟨i4, ?_⟩, fun h4 => ?_⟩, fun h3 => ?_⟩
  · refine gw_CV.eq (sp_X7_renew _ (gw_isSheet_of i4) l n m) rfl ?_
    exact gw_rE (by rw [ga_sheet, if_pos ⟨h1, h2, h3⟩, if_pos h4]) (by rw [cu_sheet, if_pos ⟨h1, h2, h3⟩, if_pos h4])
  · exact gw_rE (by rw [ga_sheet, if_pos ⟨h1, h2, h3⟩, if_neg h4]) (by rw [cu_sheet, if_pos ⟨h1, h2, h3⟩, if_neg h4])
  · exact gw_rE (by rw [ga_sheet, if_neg (fun z => h3 z.2.2)]) (by rw [cu_sheet, if_neg (fun z => h3 z.2.2)])
def cu_drop (g m : gw_Mem) (s : Int) : gw_Mem := if 0 ≤ s ∧ s ≤ 3 then (if 0 ≤ g 138 s then gw_up m (109 + 2 * s.toNat) 0 (-1) else m) else m
theorem sp_X11_drop (g m : gw_Mem) (hJ : gd_JS g) (hS : gc_S g m) (s : Int) : gw_SpecI M_X11_drop 12 [gR 0, gI s] m (fun r m' => r = ga_drop g s ∧ m' = cu_drop g m s) := by
  refine gw_intro pl_X11_drop rfl (fun Γ => ?_)
  apply r_X11_drop_0
  refine gw_CI.eq (sp_X11_isSheet s m) rfl (gw_b_tf (fun h => ?_) (fun h1 => ⟨gw_inm (by omega) (by omega), ?_⟩))
  · exact gw_rE (by rw [ga_drop, if_neg h]) (by rw [cu_drop, if_neg h])
  obtain ⟨f0, f1, f2⟩ := gc_Sf hJ hS h1
  rw [f0]
  refine ⟨fun h2 => ?_, fun h2 => ?_⟩
  · rw [gw_up_at, if_neg (by omega), f1]
    exact gw_rE (by rw [ga_drop, if_pos h1, if_pos h2]) (by rw [cu_drop, if_pos h1, if_pos h2])
  · exact gw_rE (by rw [ga_drop, if_pos h1, if_neg h2]) (by rw [cu_drop, if_pos h1, if_neg h2])
def cu_item (g m : gw_Mem) (s l i v : Int) : gw_Mem := if (0 ≤ s ∧ s ≤ 3) ∧ 0 ≤ l ∧ l ≤ 2 then (if 0 ≤ gd_fd g s l i 1 then gw_up m (109 + 2 * s.toNat + 1) i (gd_nar l v) else m) else m
theorem sp_X11_item (g m : gw_Mem) (hJ : gd_JS g) (hS : gc_S g m) (s l i v : Int) : gw_SpecI M_X11_item 13 [gR 0, gI s, gI l, gI i, gI v] m (fun r m' => r = ga_item g s l i ∧ m' = cu_item g m s l i v) := by
  refine gw_intro pl_X11_item rfl (fun Γ => ?_)
  apply r_X11_item_0
  refine gw_CI.eq (sp_X11_isSheet s m) rfl (gw_b_tf (fun h => ?_) (fun h1 => ?_))
  · exact gw_rE (by rw [ga_item, if_neg (fun z => h z.1)]) (by rw [cu_item, if_neg (fun z => h z.1)])
  refine gw_CI.eq (sp_X11_isLane l m) rfl (gw_b_tf (fun h => ?_) (fun h2 => ?_))
  · exact gw_rE (by rw [ga_item, if_neg (fun z => h z.2)]) (by rw [cu_item, if_neg (fun z => h z.2)])
  have i4 : gw_in s 4 := gw_inm (by omega) (by omega)
  obtain ⟨f0, f1, f2, f3⟩ := gc_Sf hJ hS h1
  refine ⟨i4, gw_CI.eq (sp_X7_refusal _ (gw_isSheet_of i4) l i 1 m (by omega) (by omega)) rfl ?_⟩
  have e0 : (if m (109 + 2 * s.toNat) 0 < 0 then (-11 : Int) else if m (109 + 2 * s.toNat) 0 = l then (if 0 ≤ i ∧ i + 1 ≤ m (109 + 2 * s.toNat) 1 then 0 else -13) else -12) = gd_fd g s l i 1 := by rw [f0, f1]; rfl
  rw [e0]
  refine ⟨fun h3 => ⟨i4, ?_⟩, fun h3 => ?_⟩
  · have hf := gd_fd_ok h3
    refine gw_CV.eq (sp_X7_put _ (gw_isSheet_of i4) i v m (by omega)) rfl ?_
    refine gw_rE ?_ ?_
    · rw [ga_item, if_pos (And.intro h1 h2), if_pos h3]
    · rw [cu_item, if_pos (And.intro h1 h2), if_pos h3, f0, hf.2.2.1]
  · exact gw_rE (by rw [ga_item, if_pos ⟨h1, h2⟩, if_neg h3]) (by rw [cu_item, if_pos ⟨h1, h2⟩, if_neg h3])
def cu_copy (g m : gw_Mem) (a i b j n : Int) : gw_Mem := if 0 ≤ ga_copy g a i b j n then gw_cp m (109 + 2 * a.toNat + 1) i (109 + 2 * b.toNat + 1) j n else m
theorem sp_X11_copy (g m : gw_Mem) (hJ : gd_JS g) (hS : gc_S g m) (a i b j n : Int) : gw_SpecI M_X11_copy 13 [gR 0, gI a, gI i, gI b, gI j, gI n] m (fun r m' => r = ga_copy g a i b j n ∧ m' = cu_copy g m a i b j n) := by
  refine gw_intro pl_X11_copy rfl (fun Γ => ?_)
  have no : ∀ v : Int, v < 0 → ga_copy g a i b j n = v → ∃ w, (some (gI v) : Option gw_SV) = some (gI w) ∧ w = ga_copy g a i b j n ∧ m = cu_copy g m a i b j n := by
    intro v hv he
    exact ⟨v, rfl, he.symm, by rw [cu_copy, if_neg (by omega)]⟩
  apply r_X11_copy_0 _ _ _ _ _ _ (by decide)
  refine gw_CI.eq (sp_X11_isSheet a m) rfl (gw_b_tf (fun h => no _ (by omega) ?_) (fun h1 => ?_))
  · rw [ga_copy, if_neg (fun z => h z.1)]
  refine gw_CI.eq (sp_X11_isSheet b m) rfl (gw_b_tf (fun h => no _ (by omega) ?_) (fun h2 => ⟨gw_inm (by omega) (by omega), gw_inm (by omega) (by omega), ?_⟩))
  · rw [ga_copy, if_neg (fun z => h z.2)]
  obtain ⟨f0, f1, f2, f3⟩ := gc_Sf hJ hS h1
  obtain ⟨k0, k1, k2, k3⟩ := gc_Sf hJ hS h2
  have ia : gw_in a 4 := gw_inm (by omega) (by omega)
  have ib : gw_in b 4 := gw_inm (by omega) (by omega)
  rw [f0, k0]
  refine ⟨fun h3 => no _ (by omega) ?_, fun h3 => ⟨fun h4 => ⟨fun h5 => ?_, fun h5 => no _ (by omega) ?_⟩, fun h4 => no _ (by omega) ?_⟩⟩
  · rw [ga_copy, if_pos ⟨h1, h2⟩, if_pos (Or.inl h3)]
  · refine gw_CI.eq (sp_X7_reaches _ (gw_isSheet_of ia) i n m (by omega)) rfl (gw_b_tf (fun h6 => no _ (by omega) ?_) (fun h6 => ?_))
    · rw [ga_copy, if_pos ⟨h1, h2⟩, if_neg (by omega), if_pos h5, if_neg (by omega)]
    refine gw_CI.eq (sp_X7_reaches _ (gw_isSheet_of ib) j n m (by omega)) rfl (gw_b_tf (fun h7 => no _ (by omega) ?_) (fun h7 => ⟨by omega, ?_⟩))
    · rw [ga_copy, if_pos ⟨h1, h2⟩, if_neg (by omega), if_pos h5, if_neg (by omega)]
    have hok : gd_cok g a i b j n := ⟨⟨h1, h2⟩, by omega, h5, by omega⟩
    refine gw_rE (ga_copy_ok hok).symm ?_
    rw [cu_copy, if_pos (by rw [ga_copy_ok hok]; omega)]
  · rw [ga_copy, if_pos ⟨h1, h2⟩, if_neg (by omega), if_neg h5]
  · rw [ga_copy, if_pos ⟨h1, h2⟩, if_pos (Or.inr (by omega))]
/-- the sheets go along -/
theorem gc_S_sheet {g m : gw_Mem} (hS : gc_S g m) (s l n : Int) : gc_S (gu_sheet g s l n) (cu_sheet m s l n) := by
  unfold gu_sheet cu_sheet
  split
  · rename_i h1
    split
    · intro t ht
      obtain ⟨a, b, c⟩ := hS t ht
      by_cases e : t = s
      · subst e
        refine ⟨?_, ?_, fun j hj => ?_⟩
        · rw [gw_fill_ne (by omega), gw_up_at, if_neg (by omega), gw_up_at, if_pos rfl, gw_fill_ne (by decide), gw_up_ne (show (138 : Nat) ≠ 139 by decide), gw_up_at, if_pos rfl]
        · rw [gw_fill_ne (by omega), gw_up_at, if_pos rfl, gw_fill_ne (by decide), gw_up_at, if_pos rfl]
        · rw [gw_fill_at, if_pos (by omega), gw_fill_at, if_pos (by omega)]
      · refine ⟨?_, ?_, fun j hj => ?_⟩
        · rw [gw_fill_ne (by omega), gw_up_ne (by omega), gw_up_ne (by omega), gw_fill_ne (by decide), gw_up_ne (show (138 : Nat) ≠ 139 by decide), gw_up_at, if_neg e]
          exact a
        · rw [gw_fill_ne (by omega), gw_up_ne (by omega), gw_up_ne (by omega), gw_fill_ne (by decide), gw_up_at, if_neg e, gw_up_ne (show (139 : Nat) ≠ 138 by decide)]
          exact b
        · rw [gw_fill_ne (by omega), gw_up_ne (by omega), gw_up_ne (by omega), gw_fill_at, if_neg (by omega), gw_up_ne (show (140 : Nat) ≠ 139 by decide), gw_up_ne (show (140 : Nat) ≠ 138 by decide)]
          exact c j hj
    · exact hS
  · exact hS
theorem gd_JS_sheet {g : gw_Mem} (hJ : gd_JS g) (s l n : Int) : gd_JS (gu_sheet g s l n) := by
  unfold gu_sheet
  split
  · rename_i h1
    split
    · intro t ht
      have hj := hJ t ht
      rw [gw_fill_ne (by decide), gw_up_ne (show (138 : Nat) ≠ 139 by decide), gw_up_at, gw_fill_ne (by decide), gw_up_at, gw_up_ne (show (139 : Nat) ≠ 138 by decide)]
      by_cases e : t = s
      · rw [if_pos e, if_pos e]
        omega
      · rw [if_neg e, if_neg e]
        exact hj
    · exact hJ
  · exact hJ
theorem gc_S_drop {g m : gw_Mem} (hS : gc_S g m) (s : Int) : gc_S (gu_drop g s) (cu_drop g m s) := by
  unfold gu_drop cu_drop
  split
  · split
    · intro t ht
      obtain ⟨a, b, c⟩ := hS t ht
      rw [gw_up_at, gw_up_ne (show (139 : Nat) ≠ 138 by decide), gw_up_ne (show (140 : Nat) ≠ 138 by decide), gw_up_ne (show 109 + 2 * t.toNat + 1 ≠ 109 + 2 * s.toNat by omega)]
      by_cases e : t = s
      · subst e
        rw [if_pos rfl, gw_up_at, if_pos rfl, gw_up_at, if_neg (by omega)]
        exact ⟨rfl, b, c⟩
      · rw [if_neg e, gw_up_ne (by omega)]
        exact ⟨a, b, c⟩
    · exact hS
  · exact hS
theorem gd_JS_drop {g : gw_Mem} (hJ : gd_JS g) (s : Int) : gd_JS (gu_drop g s) := by
  unfold gu_drop
  split
  · split
    · intro t ht
      have hj := hJ t ht
      rw [gw_up_at, gw_up_ne (show (139 : Nat) ≠ 138 by decide)]
      split
      · omega
      · exact hj
    · exact hJ
  · exact hJ
theorem gc_S_item {g m : gw_Mem} (hJ : gd_JS g) (hS : gc_S g m) (s l i v : Int) : gc_S (gu_item g s l i v) (cu_item g m s l i v) := by
  unfold gu_item cu_item
  split
  · rename_i h1
    split
    · rename_i h3
      have hf := gd_fd_ok h3
      have hjs := hJ s h1.1
      intro t ht
      obtain ⟨a, b, c⟩ := hS t ht
      rw [gw_up_ne (show (138 : Nat) ≠ 140 by decide), gw_up_ne (show (139 : Nat) ≠ 140 by decide), gw_up_ne (show 109 + 2 * t.toNat ≠ 109 + 2 * s.toNat + 1 by omega)]
      refine ⟨a, b, fun j hj => ?_⟩
      by_cases e : t = s
      · subst e
        rw [gw_up_at, gw_up_at]
        by_cases e2 : j = i
        · rw [if_pos e2, if_pos (by omega)]
        · rw [if_neg e2, if_neg (by omega)]
          exact c j hj
      · rw [gw_up_ne (by omega), gw_up_at, if_neg (by omega)]
        exact c j hj
    · exact hS
  · exact hS
theorem gc_S_copy {g m m2 : gw_Mem} (hJ : gd_JS g) (hS : gc_S g m) (a i b j n : Int) (h8 : m2 138 = g 138) (h9 : m2 139 = g 139) (h0 : m2 140 = (if 0 ≤ ga_copy g a i b j n then gu_copy g a i b j n 140 else g 140)) : gc_S m2 (cu_copy g m a i b j n) := by
  unfold cu_copy
  by_cases hc : 0 ≤ ga_copy g a i b j n
  · rw [if_pos hc] at h0 ⊢
    have hok : gd_cok g a i b j n := by
      by_cases z : gd_cok g a i b j n
      · exact z
      · exact absurd hc (by have := ga_copy_no z; omega)
    obtain ⟨⟨h1, h2⟩, h3, h4, h5⟩ := hok
    have ja := hJ a h1
    have jb := hJ b h2
    intro t ht
    obtain ⟨u, v, w⟩ := hS t ht
    rw [h8, h9, h0]
    refine ⟨by rw [gw_cp_ne (by omega)]; exact u, by rw [gw_cp_ne (by omega)]; exact v, fun x hx => ?_⟩
    unfold gu_copy
    rw [gw_cpa]
    by_cases e : t = b
    · subst e
      rw [gw_cpa]
      by_cases e2 : j ≤ x ∧ x < j + n
      · rw [if_pos e2, if_pos (by omega)]
        have hw := (hS a h1).2.2 (i + (x - j)) (by omega)
        rw [hw]
        congr 1
        omega
      · rw [if_neg e2, if_neg (by omega)]
        exact w x hx
    · rw [gw_cp_ne (by omega), if_neg (by omega)]
      exact w x hx
  · rw [if_neg hc] at h0 ⊢
    exact gc_S_congr hS (fun _ _ _ => rfl) h8 h9 h0
/-! images -/
theorem sp_X11_image (m : gw_Mem) : gw_SpecI M_X11_image 12 [gR 0] m (fun r m' => r = 1 ∧ m' = gw_up (gc_pl m 25 4) 0 2 1) := by
  refine gw_intro pl_X11_image rfl (fun Γ => ?_)
  apply r_X11_image_0
  exact gw_CV.eq (sp_X6_take 25 4 (by unfold gw_isPlan; decide) (by unfold gw_isPlan; decide) m) rfl (gw_rE rfl rfl)
theorem sp_X11_restore (m : gw_Mem) : gw_SpecI M_X11_restore 12 [gR 0] m (fun r m' => r = (if m 0 2 = 0 then -4 else 1) ∧ m' = if m 0 2 = 0 then m else gc_fg (gc_pl m 4 25)) := by
  refine gw_intro pl_X11_restore rfl (fun Γ => ?_)
  apply r_X11_restore_0
  refine ⟨fun h => gw_rE (by rw [if_pos h]) (by rw [if_pos h]), fun h => ?_⟩
  refine gw_CV.eq (sp_X6_take 4 25 (by unfold gw_isPlan; decide) (by unfold gw_isPlan; decide) m) rfl ?_
  refine gw_CV.eq (sp_X11_forget _) rfl ?_
  exact gw_rE (by rw [if_neg h]) (by rw [if_neg h]; rfl)
