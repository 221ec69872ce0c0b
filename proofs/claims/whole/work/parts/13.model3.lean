/-! the reference: sheets -/
theorem sp_X12_isSheet (v : Int) (m : gw_Mem) : gw_SpecI M_X12_isSheet 11 [gI v] m (fun r m' => r = gw_tf (0 ≤ v ∧ v ≤ 3) ∧ m' = m) := by
  refine gw_intro pl_X12_isSheet rfl (fun Γ => ?_)
  apply r_X12_isSheet_0
  exact gw_CI.eq (sp_X12_in v 0 3 m) rfl ⟨gw_tfb _, gw_rE rfl rfl⟩
theorem sp_X12_isLane (v : Int) (m : gw_Mem) : gw_SpecI M_X12_isLane 11 [gI v] m (fun r m' => r = gw_tf (0 ≤ v ∧ v ≤ 2) ∧ m' = m) := by
  refine gw_intro pl_X12_isLane rfl (fun Γ => ?_)
  apply r_X12_isLane_0
  exact gw_CI.eq (sp_X12_in v 0 2 m) rfl ⟨gw_tfb _, gw_rE rfl rfl⟩
def gd_fd (g : gw_Mem) (s l i n : Int) : Int := if g 138 s < 0 then -11 else if g 138 s = l then (if 0 ≤ i ∧ i + n ≤ g 139 s then 0 else -13) else -12
theorem gw_inR_L {x y : Int} (hx : gw_inR x) (hy : gw_inR y) : gw_wl (x + y) = x + y := by
  apply gw_wl_id
  unfold gw_inR at hx hy
  unfold gw_inL
  omega
theorem sp_X12_finds (s l i n : Int) (m : gw_Mem) (hs : 0 ≤ s ∧ s ≤ 3) : gw_SpecI M_X12_finds 10 [gR 117, gI s, gI l, gI i, gI n] m (fun r m' => r = gd_fd m s l i n ∧ m' = m) := by
  refine gw_intro pl_X12_finds rfl (fun Γ => ?_)
  refine gw_ok (fun _ hL _ => ?_)
  have hi : gw_inR i := hL (gI i) (by simp [gw_ini, gw_ini0])
  have hn : gw_inR n := hL (gI n) (by simp [gw_ini, gw_ini0])
  apply r_X12_finds_0
  refine ⟨gw_inm hs.1 (by omega), fun h => ⟨gw_inm hs.1 (by omega), fun h2 => ⟨fun _ => gw_inm hs.1 (by omega), gw_rE ?_ rfl⟩, fun h2 => gw_rE ?_ rfl⟩, fun h => gw_rE ?_ rfl⟩
  · have e0 : gd_fd m s l i n = (if 0 ≤ i ∧ i + n ≤ m 139 s then 0 else -13) := by rw [gd_fd, if_neg (by omega), if_pos h2]
    rw [gw_inR_L hi hn, e0]
    simp only [gw_cle]
    by_cases g1 : i < 0
    · rw [if_pos g1, if_neg (by omega)]
    · rw [if_neg g1]
      by_cases g2 : i + n ≤ m 139 s
      · rw [if_pos g2, if_pos (by omega)]
      · rw [if_neg g2, if_neg (by omega)]
  · rw [gd_fd, if_neg (by omega), if_neg h2]
  · rw [gd_fd, if_pos (by omega)]
def ga_sheet (s l n : Int) : Int := if (0 ≤ s ∧ s ≤ 3) ∧ (0 ≤ l ∧ l ≤ 2) ∧ n ≤ 24 then (if 0 ≤ n then n else -14) else -1
def gu_sheet (g : gw_Mem) (s l n : Int) : gw_Mem := if (0 ≤ s ∧ s ≤ 3) ∧ (0 ≤ l ∧ l ≤ 2) ∧ n ≤ 24 then (if 0 ≤ n then gw_fill (gw_up (gw_up g 138 s l) 139 s n) 140 (24 * s) 24 0 else g) else g
theorem sp_X12_sheet (s l n : Int) (m : gw_Mem) : gw_SpecI M_X12_sheet 12 [gR 117, gI s, gI l, gI n] m (fun r m' => r = ga_sheet s l n ∧ m' = gu_sheet m s l n) := by
  refine gw_intro pl_X12_sheet rfl (fun Γ => ?_)
  apply r_X12_sheet_0
  refine gw_CI.eq (sp_X12_isSheet s m) rfl (gw_b_tf (fun h => ?_) (fun h1 => ?_))
  · exact gw_rE (by rw [ga_sheet, if_neg (fun z => h z.1)]) (by rw [gu_sheet, if_neg (fun z => h z.1)])
  refine gw_CI.eq (sp_X12_isLane l m) rfl (gw_b_tf (fun h => ?_) (fun h2 => ?_))
  · exact gw_rE (by rw [ga_sheet, if_neg (fun z => h z.2.1)]) (by rw [gu_sheet, if_neg (fun z => h z.2.1)])
  refine ⟨fun h3 => ⟨fun h4 => ?_, fun h4 => ?_⟩, fun h3 => ?_⟩
  · refine ⟨gw_inm (by omega) (by omega), gw_inm (by omega) (by omega), ?_⟩
    generalize hm1 : gw_up (gw_up m 138 s l) 139 s n = m1
    have key : ∀ (j i : Nat), i + j = 24 → gw_G M_X12_sheet 12 (fun r m' => ∃ v, r = some (gI v) ∧ v = ga_sheet s l n ∧ m' = gu_sheet m s l n) Γ 46 [some (gR 117), some (gI s), some (gI l), some (gI n), some (gI (i : Int))] [] (gw_fill m1 140 (24 * s) i 0) := by
      intro j
      induction j with
      | zero =>
        intro i hi
        apply r_X12_sheet_46
        refine ⟨fun _ => gw_rE ?_ ?_, fun h => absurd (by omega) h⟩
        · rw [ga_sheet, if_pos ⟨h1, h2, h3⟩, if_pos h4]
        · rw [gu_sheet, if_pos ⟨h1, h2, h3⟩, if_pos h4, hm1, show i = 24 by omega]
          rfl
      | succ j ih =>
        intro i hi
        apply r_X12_sheet_46
        refine ⟨fun h => absurd h (by omega), fun h => ?_⟩
        have e1 : gw_w (gw_w (24 * s) + (i : Int)) = 24 * s + i := by rw [gw_w_id (x := 24 * s) (by omega), gw_w_id (by omega)]
        rw [e1, gw_w1 (by omega), gw_fill_step (by omega)]
        exact ⟨gw_inm (by omega) (by omega), ih (i + 1) (by omega)⟩
    have h0 := key 24 0 (by omega)
    rw [show ((0 : Nat) : Int) = 0 from rfl, gw_fill_0] at h0
    exact h0
  · exact gw_rE (by rw [ga_sheet, if_pos ⟨h1, h2, h3⟩, if_neg h4]) (by rw [gu_sheet, if_pos ⟨h1, h2, h3⟩, if_neg h4])
  · exact gw_rE (by rw [ga_sheet, if_neg (fun z => h3 z.2.2)]) (by rw [gu_sheet, if_neg (fun z => h3 z.2.2)])
def ga_drop (g : gw_Mem) (s : Int) : Int := if 0 ≤ s ∧ s ≤ 3 then (if 0 ≤ g 138 s then g 139 s else -11) else -1
def gu_drop (g : gw_Mem) (s : Int) : gw_Mem := if 0 ≤ s ∧ s ≤ 3 then (if 0 ≤ g 138 s then gw_up g 138 s (-1) else g) else g
theorem sp_X12_drop (s : Int) (m : gw_Mem) : gw_SpecI M_X12_drop 12 [gR 117, gI s] m (fun r m' => r = ga_drop m s ∧ m' = gu_drop m s) := by
  refine gw_intro pl_X12_drop rfl (fun Γ => ?_)
  apply r_X12_drop_0
  refine gw_CI.eq (sp_X12_isSheet s m) rfl (gw_b_tf (fun h => ?_) (fun h1 => ?_))
  · exact gw_rE (by rw [ga_drop, if_neg h]) (by rw [gu_drop, if_neg h])
  refine ⟨gw_inm (by omega) (by omega), fun h2 => ⟨gw_inm (by omega) (by omega), gw_inm (by omega) (by omega), ?_⟩, fun h2 => ?_⟩
  · rw [gw_up_ne (show (139 : Nat) ≠ 138 by decide)]
    exact gw_rE (by rw [ga_drop, if_pos h1, if_pos h2]) (by rw [gu_drop, if_pos h1, if_pos h2])
  · exact gw_rE (by rw [ga_drop, if_pos h1, if_neg h2]) (by rw [gu_drop, if_pos h1, if_neg h2])
def gd_nar (l v : Int) : Int := if l = 0 then gw_i2b v else if l = 1 then gw_i2s v else v
def ga_item (g : gw_Mem) (s l i : Int) : Int := if (0 ≤ s ∧ s ≤ 3) ∧ 0 ≤ l ∧ l ≤ 2 then (if 0 ≤ gd_fd g s l i 1 then 1 else gd_fd g s l i 1) else -1
def gu_item (g : gw_Mem) (s l i v : Int) : gw_Mem := if (0 ≤ s ∧ s ≤ 3) ∧ 0 ≤ l ∧ l ≤ 2 then (if 0 ≤ gd_fd g s l i 1 then gw_up g 140 (24 * s + i) (gd_nar l v) else g) else g
theorem gd_fd_ok {g : gw_Mem} {s l i n : Int} (h : 0 ≤ gd_fd g s l i n) : gd_fd g s l i n = 0 ∧ 0 ≤ g 138 s ∧ g 138 s = l ∧ 0 ≤ i ∧ i + n ≤ g 139 s := by
  unfold gd_fd at *
  split at h
  · omega
  · split at h
    · split at h
      · rename_i h1 h2 h3
        rw [if_neg h1, if_pos h2, if_pos h3]
        exact ⟨rfl, by omega, h2, h3⟩
      · omega
    · omega
theorem sp_X12_item (s l i v : Int) (m : gw_Mem) (hJ : gd_JS m) : gw_SpecI M_X12_item 12 [gR 117, gI s, gI l, gI i, gI v] m (fun r m' => r = ga_item m s l i ∧ m' = gu_item m s l i v) := by
  refine gw_intro pl_X12_item rfl (fun Γ => ?_)
  apply r_X12_item_0
  refine gw_CI.eq (sp_X12_isSheet s m) rfl (gw_b_tf (fun h => ?_) (fun h1 => ?_))
  · exact gw_rE (by rw [ga_item, if_neg (fun z => h z.1)]) (by rw [gu_item, if_neg (fun z => h z.1)])
  refine gw_CI.eq (sp_X12_isLane l m) rfl (gw_b_tf (fun h => ?_) (fun h2 => ?_))
  · exact gw_rE (by rw [ga_item, if_neg (fun z => h z.2)]) (by rw [gu_item, if_neg (fun z => h z.2)])
  refine gw_CI.eq (sp_X12_finds s l i 1 m h1) rfl ⟨fun h3 => ?_, fun h3 => ?_⟩
  · have hf := gd_fd_ok h3
    have hj := hJ s h1
    have e1 : gw_w (gw_w (24 * s) + i) = 24 * s + i := by rw [gw_w_id (x := 24 * s) (by omega), gw_w_id (by omega)]
    rw [e1]
    refine ⟨gw_inm (by omega) (by omega), gw_rE ?_ ?_⟩
    · rw [ga_item, if_pos ⟨h1, h2⟩, if_pos h3]
    · rw [gu_item, if_pos (And.intro h1 h2), if_pos h3]
      rfl
  · exact gw_rE (by rw [ga_item, if_pos ⟨h1, h2⟩, if_neg h3]) (by rw [gu_item, if_pos ⟨h1, h2⟩, if_neg h3])
def ga_copy (g : gw_Mem) (a i b j n : Int) : Int := if (0 ≤ a ∧ a ≤ 3) ∧ 0 ≤ b ∧ b ≤ 3 then (if g 138 a < 0 ∨ g 138 b < 0 then -11 else if g 138 a = g 138 b then (if 0 ≤ n ∧ 0 ≤ i ∧ i + n ≤ g 139 a ∧ 0 ≤ j ∧ j + n ≤ g 139 b then n else -13) else -12) else -1
def gd_cok (g : gw_Mem) (a i b j n : Int) : Prop := ((0 ≤ a ∧ a ≤ 3) ∧ 0 ≤ b ∧ b ≤ 3) ∧ ¬ (g 138 a < 0 ∨ g 138 b < 0) ∧ g 138 a = g 138 b ∧ 0 ≤ n ∧ 0 ≤ i ∧ i + n ≤ g 139 a ∧ 0 ≤ j ∧ j + n ≤ g 139 b
theorem ga_copy_ok {g : gw_Mem} {a i b j n : Int} (h : gd_cok g a i b j n) : ga_copy g a i b j n = n := by
  obtain ⟨h1, h2, h3, h4⟩ := h
  rw [ga_copy, if_pos h1, if_neg h2, if_pos h3, if_pos h4]
theorem ga_copy_no {g : gw_Mem} {a i b j n : Int} (h : ¬ gd_cok g a i b j n) : ga_copy g a i b j n < 0 := by
  unfold ga_copy
  split
  · rename_i h1
    split
    · omega
    · rename_i h2
      split
      · rename_i h3
        split
        · rename_i h4
          exact absurd ⟨h1, h2, h3, h4⟩ h
        · omega
      · omega
  · omega
/-- the items copied: row 140 as the golden copy has it, the reference's row 141 is free -/
def gu_copy (g : gw_Mem) (a i b j n : Int) : gw_Mem := gw_cp g 140 (24 * a + i) 140 (24 * b + j) n
theorem sp_X12_copy (a i b j n : Int) (m : gw_Mem) (hJ : gd_JS m) : gw_SpecI M_X12_copy 12 [gR 117, gI a, gI i, gI b, gI j, gI n] m (fun r m' => r = ga_copy m a i b j n ∧ (∀ o : Nat, o ≠ 140 → o ≠ 141 → m' o = m o) ∧ m' 140 = (if 0 ≤ ga_copy m a i b j n then gu_copy m a i b j n 140 else m 140)) := by
  refine gw_intro pl_X12_copy rfl (fun Γ => ?_)
  have no : ∀ v : Int, v < 0 → ga_copy m a i b j n = v → ∃ w, (some (gI v) : Option gw_SV) = some (gI w) ∧ w = ga_copy m a i b j n ∧ (∀ o : Nat, o ≠ 140 → o ≠ 141 → m o = m o) ∧ m 140 = (if 0 ≤ ga_copy m a i b j n then gu_copy m a i b j n 140 else m 140) := by
    intro v hv he
    exact ⟨v, rfl, he.symm, fun _ _ _ => rfl, by rw [if_neg (by omega)]⟩
  refine gw_ok (fun _ hL _ => ?_)
  have hri : gw_inR i := hL (gI i) (by simp [gw_ini, gw_ini0])
  have hrj : gw_inR j := hL (gI j) (by simp [gw_ini, gw_ini0])
  have hrn : gw_inR n := hL (gI n) (by simp [gw_ini, gw_ini0])
  apply r_X12_copy_0
  refine gw_CI.eq (sp_X12_isSheet a m) rfl (gw_b_tf (fun h => no _ (by omega) ?_) (fun h1 => ?_))
  · rw [ga_copy, if_neg (fun z => h z.1)]
  refine gw_CI.eq (sp_X12_isSheet b m) rfl (gw_b_tf (fun h => no _ (by omega) ?_) (fun h2 => ⟨gw_inm (by omega) (by omega), fun h3 => no _ (by omega) ?_, fun h3 => ⟨gw_inm (by omega) (by omega), fun h4 => ⟨gw_inm (by omega) (by omega), gw_inm (by omega) (by omega), fun h5 => ⟨fun h6 => no _ (by omega) ?_, fun h6 => ⟨gw_inm (by omega) (by omega), ?_⟩⟩, fun h5 => no _ (by omega) ?_⟩, fun h4 => no _ (by omega) ?_⟩⟩))
  · rw [ga_copy, if_neg (fun z => h z.2)]
  · rw [ga_copy, if_pos ⟨h1, h2⟩, if_pos (Or.inl h3)]
  · rw [ga_copy, if_pos ⟨h1, h2⟩, if_neg (by omega), if_pos h5, if_neg (by omega)]
  · refine gw_CI.eq (sp_X12_finds a (m 138 a) i n m h1) rfl ⟨fun h7 => no _ (by omega) ?_, fun h7 => ⟨gw_inm (by omega) (by omega), ?_⟩⟩
    · rw [ga_copy, if_pos ⟨h1, h2⟩, if_neg (by omega), if_pos h5, if_neg]
      intro z
      rw [gd_fd, if_neg (by omega), if_pos rfl, if_pos (by omega)] at h7
      omega
    have f1 := gd_fd_ok (show 0 ≤ gd_fd m a (m 138 a) i n by omega)
    refine gw_CI.eq (sp_X12_finds b (m 138 b) j n m h2) rfl ⟨fun h8 => ?_, fun h8 => no _ (by omega) ?_⟩
    · have f2 := gd_fd_ok h8
      have hok : gd_cok m a i b j n := ⟨⟨h1, h2⟩, by omega, h5, by omega⟩
      have ja := hJ a h1
      have jb := hJ b h2
      obtain ⟨N, hN⟩ := gw_nat (x := n) (by omega)
      subst hN
      have fin : ∀ m' : gw_Mem, (∀ o : Nat, o ≠ 140 → o ≠ 141 → m' o = m o) → m' 140 = gu_copy m a i b j N 140 → ∃ w, (some (gI (N : Int)) : Option gw_SV) = some (gI w) ∧ w = ga_copy m a i b j N ∧ (∀ o : Nat, o ≠ 140 → o ≠ 141 → m' o = m o) ∧ m' 140 = (if 0 ≤ ga_copy m a i b j N then gu_copy m a i b j N 140 else m 140) := by
        intro m' q1 q2
        refine ⟨N, rfl, (ga_copy_ok hok).symm, q1, ?_⟩
        rw [if_pos (by rw [ga_copy_ok hok]; omega)]
        exact q2
      generalize hm1 : gw_cp m 140 (24 * a + i) 141 0 (N : Int) = m1
      have k2 : ∀ (t k : Nat), k + t = N → gw_G M_X12_copy 12 (fun r m' => ∃ v, r = some (gI v) ∧ v = ga_copy m a i b j N ∧ (∀ o : Nat, o ≠ 140 → o ≠ 141 → m' o = m o) ∧ m' 140 = (if 0 ≤ ga_copy m a i b j N then gu_copy m a i b j N 140 else m 140)) Γ 138 [some (gR 117), some (gI a), some (gI i), some (gI b), some (gI j), some (gI (N : Int)), some (gI (k : Int))] [] (gw_cp m1 141 0 140 (24 * b + j) k) := by
        intro t
        induction t with
        | zero =>
          intro k hk
          apply r_X12_copy_138
          refine ⟨fun _ => fin _ ?_ ?_, fun h => absurd (by omega) h⟩
          · intro o q1 q2
            rw [gw_cp_ne q1, ← hm1, gw_cp_ne q2]
          · funext x
            rw [gw_cpa, gu_copy, gw_cpa, show (k : Int) = N by omega]
            split
            · rw [← hm1, gw_cpa, if_pos (by omega)]
              congr 1
              omega
            · rw [← hm1, gw_cp_ne (by decide)]
        | succ t ih =>
          intro k hk
          apply r_X12_copy_138
          refine ⟨fun h => absurd h (by omega), fun h => ⟨gw_inm (by omega) (by omega), ?_⟩⟩
          have e1 : gw_w (gw_w (gw_w (24 * b) + j) + (k : Int)) = 24 * b + j + k := by rw [gw_w_id (x := 24 * b) (by omega), gw_w_id (x := 24 * b + j) (by omega), gw_w_id (by omega)]
          rw [e1, gw_w1 (by omega), gw_cp_src (show (141 : Nat) ≠ 140 by decide)]
          have h1 := gw_cp_step (m := m1) (a := 141) (b := 140) (s := 0) (t := 24 * b + j) (i := k) (by decide) (by omega)
          rw [Int.zero_add] at h1
          rw [h1]
          exact ⟨gw_inm (by omega) (by omega), ih (k + 1) (by omega)⟩
      have k1 : ∀ (t k : Nat), k + t = N → gw_G M_X12_copy 12 (fun r m' => ∃ v, r = some (gI v) ∧ v = ga_copy m a i b j N ∧ (∀ o : Nat, o ≠ 140 → o ≠ 141 → m' o = m o) ∧ m' 140 = (if 0 ≤ ga_copy m a i b j N then gu_copy m a i b j N 140 else m 140)) Γ 101 [some (gR 117), some (gI a), some (gI i), some (gI b), some (gI j), some (gI (N : Int)), some (gI (k : Int))] [] (gw_cp m 140 (24 * a + i) 141 0 k) := by
        intro t
        induction t with
        | zero =>
          intro k hk
          apply r_X12_copy_101
          refine ⟨fun _ => ?_, fun h => absurd (by omega) h⟩
          have h0 := k2 N 0 (by omega)
          rw [show ((0 : Nat) : Int) = 0 from rfl, gw_cp_0, ← hm1] at h0
          rw [show k = N by omega]
          exact h0
        | succ t ih =>
          intro k hk
          apply r_X12_copy_101
          refine ⟨fun h => absurd h (by omega), fun h => ?_⟩
          have e1 : gw_w (gw_w (gw_w (24 * a) + i) + (k : Int)) = 24 * a + i + k := by rw [gw_w_id (x := 24 * a) (by omega), gw_w_id (x := 24 * a + i) (by omega), gw_w_id (by omega)]
          rw [e1, gw_w1 (by omega), gw_cp_src (show (140 : Nat) ≠ 141 by decide)]
          have h1 := gw_cp_step (m := m) (a := 140) (b := 141) (s := 24 * a + i) (t := 0) (i := k) (by decide) (by omega)
          rw [Int.zero_add] at h1
          rw [h1]
          exact ⟨gw_inm (by omega) (by omega), gw_inm (by omega) (by omega), ih (k + 1) (by omega)⟩
      have h0 := k1 N 0 (by omega)
      rw [show ((0 : Nat) : Int) = 0 from rfl, gw_cp_0] at h0
      exact h0
    · rw [ga_copy, if_pos ⟨h1, h2⟩, if_neg (by omega), if_pos h5, if_neg]
      intro z
      rw [gd_fd, if_neg (by omega), if_pos rfl, if_pos (by omega)] at h8
      omega
  · rw [ga_copy, if_pos ⟨h1, h2⟩, if_neg (by omega), if_neg h5]
  · rw [ga_copy, if_pos ⟨h1, h2⟩, if_pos (Or.inr (by omega))]
