/-! the class: sheets, images -/
theorem gc_Sf {g m : gw_Mem} (hJ : gd_JS g) (hS : gc_S g m) {s : Int} (hs : 0 ≤ s ∧ s ≤ 3) : m (109 + 2 * s.toNat) 0 = g 138 s ∧ m (109 + 2 * s.toNat) 1 = g 139 s ∧ (-1 ≤ g 138 s ∧ g 138 s ≤ 2) ∧ 0 ≤ g 139 s ∧ g 139 s ≤ 24 := by
  have h1 := hS s hs
  have h2 := hJ s hs
  exact ⟨h1.1, h1.2.1, h2⟩
def cu_sheet (m : gw_Mem) (s l n : Int) : gw_Mem := if (0 ≤ s ∧ s ≤ 3) ∧ (0 ≤ l ∧ l ≤ 2) ∧ n ≤ 24 then (if 0 ≤ n then gw_fill (gw_up (gw_up m (109 + 2 * s.toNat) 0 l) (109 + 2 * s.toNat) 1 n) (109 + 2 * s.toNat + 1) 0 24 0 else m) else m
def cu_drop (g m : gw_Mem) (s : Int) : gw_Mem := if 0 ≤ s ∧ s ≤ 3 then (if 0 ≤ g 138 s then gw_up m (109 + 2 * s.toNat) 0 (-1) else m) else m
def cu_item (g m : gw_Mem) (s l i v : Int) : gw_Mem := if (0 ≤ s ∧ s ≤ 3) ∧ 0 ≤ l ∧ l ≤ 2 then (if 0 ≤ gd_fd g s l i 1 then gw_up m (109 + 2 * s.toNat + 1) i (gd_nar l v) else m) else m
def cu_copy (g m : gw_Mem) (a i b j n : Int) : gw_Mem := if 0 ≤ ga_copy g a i b j n then gw_cp m (109 + 2 * a.toNat + 1) i (109 + 2 * b.toNat + 1) j n else m
/-- the sheets go along -/
theorem gc_S_sheet {g m : gw_Mem} (hS : gc_S g m) (s l n : Int) : gc_S (gu_sheet g s l n) (cu_sheet m s l n) := by
  unfold gu_sheet cu_sheet
  split
  · rename_i h1
    split
    · intro t ht
      obtain ⟨a, b, c⟩ := hS t ht
      by_cases e : t = s
      · subst e
        refine ⟨?_, ?_, fun j hj => ?_⟩
        · rw [gw_fill_ne (by omega), gw_up_at, if_neg (by omega), gw_up_at, if_pos rfl, gw_fill_ne (by decide), gw_up_ne (show (138 : Nat) ≠ 139 by decide), gw_up_at, if_pos rfl]
        · rw [gw_fill_ne (by omega), gw_up_at, if_pos rfl, gw_fill_ne (by decide), gw_up_at, if_pos rfl]
        · rw [gw_fill_at, if_pos (by omega), gw_fill_at, if_pos (by omega)]
      · refine ⟨?_, ?_, fun j hj => ?_⟩
        · rw [gw_fill_ne (by omega), gw_up_ne (by omega), gw_up_ne (by omega), gw_fill_ne (by decide), gw_up_ne (show (138 : Nat) ≠ 139 by decide), gw_up_at, if_neg e]
          exact a
        · rw [gw_fill_ne (by omega), gw_up_ne (by omega), gw_up_ne (by omega), gw_fill_ne (by decide), gw_up_at, if_neg e, gw_up_ne (show (139 : Nat) ≠ 138 by decide)]
          exact b
        · rw [gw_fill_ne (by omega), gw_up_ne (by omega), gw_up_ne (by omega), gw_fill_at, if_neg (by omega), gw_up_ne (show (140 : Nat) ≠ 139 by decide), gw_up_ne (show (140 : Nat) ≠ 138 by decide)]
          exact c j hj
    · exact hS
  · exact hS
theorem gd_JS_sheet {g : gw_Mem} (hJ : gd_JS g) (s l n : Int) : gd_JS (gu_sheet g s l n) := by
  unfold gu_sheet
  split
  · rename_i h1
    split
    · intro t ht
      have hj := hJ t ht
      rw [gw_fill_ne (by decide), gw_up_ne (show (138 : Nat) ≠ 139 by decide), gw_up_at, gw_fill_ne (by decide), gw_up_at, gw_up_ne (show (139 : Nat) ≠ 138 by decide)]
      by_cases e : t = s
      · rw [if_pos e, if_pos e]
        omega
      · rw [if_neg e, if_neg e]
        exact hj
    · exact hJ
  · exact hJ
theorem gc_S_drop {g m : gw_Mem} (hS : gc_S g m) (s : Int) : gc_S (gu_drop g s) (cu_drop g m s) := by
  unfold gu_drop cu_drop
  split
  · split
    · intro t ht
      obtain ⟨a, b, c⟩ := hS t ht
      rw [gw_up_at, gw_up_ne (show (139 : Nat) ≠ 138 by decide), gw_up_ne (show (140 : Nat) ≠ 138 by decide), gw_up_ne (show 109 + 2 * t.toNat + 1 ≠ 109 + 2 * s.toNat by omega)]
      by_cases e : t = s
      · subst e
        rw [if_pos rfl, gw_up_at, if_pos rfl, gw_up_at, if_neg (by omega)]
        exact ⟨rfl, b, c⟩
      · rw [if_neg e, gw_up_ne (by omega)]
        exact ⟨a, b, c⟩
    · exact hS
  · exact hS
theorem gd_JS_drop {g : gw_Mem} (hJ : gd_JS g) (s : Int) : gd_JS (gu_drop g s) := by
  unfold gu_drop
  split
  · split
    · intro t ht
      have hj := hJ t ht
      rw [gw_up_at, gw_up_ne (show (139 : Nat) ≠ 138 by decide)]
      split
      · omega
      · exact hj
    · exact hJ
  · exact hJ
theorem gc_S_item {g m : gw_Mem} (hJ : gd_JS g) (hS : gc_S g m) (s l i v : Int) : gc_S (gu_item g s l i v) (cu_item g m s l i v) := by
  unfold gu_item cu_item
  split
  · rename_i h1
    split
    · rename_i h3
      have hf := gd_fd_ok h3
      have hjs := hJ s h1.1
      intro t ht
      obtain ⟨a, b, c⟩ := hS t ht
      rw [gw_up_ne (show (138 : Nat) ≠ 140 by decide), gw_up_ne (show (139 : Nat) ≠ 140 by decide), gw_up_ne (show 109 + 2 * t.toNat ≠ 109 + 2 * s.toNat + 1 by omega)]
      refine ⟨a, b, fun j hj => ?_⟩
      by_cases e : t = s
      · subst e
        rw [gw_up_at, gw_up_at]
        by_cases e2 : j = i
        · rw [if_pos e2, if_pos (by omega)]
        · rw [if_neg e2, if_neg (by omega)]
          exact c j hj
      · rw [gw_up_ne (by omega), gw_up_at, if_neg (by omega)]
        exact c j hj
    · exact hS
  · exact hS
theorem gc_S_copy {g m m2 : gw_Mem} (hJ : gd_JS g) (hS : gc_S g m) (a i b j n : Int) (h8 : m2 138 = g 138) (h9 : m2 139 = g 139) (h0 : m2 140 = (if 0 ≤ ga_copy g a i b j n then gu_copy g a i b j n 140 else g 140)) : gc_S m2 (cu_copy g m a i b j n) := by
  unfold cu_copy
  by_cases hc : 0 ≤ ga_copy g a i b j n
  · rw [if_pos hc] at h0 ⊢
    have hok : gd_cok g a i b j n := by
      by_cases z : gd_cok g a i b j n
      · exact z
      · exact absurd hc (by have := ga_copy_no z; omega)
    obtain ⟨⟨h1, h2⟩, h3, h4, h5⟩ := hok
    have ja := hJ a h1
    have jb := hJ b h2
    intro t ht
    obtain ⟨u, v, w⟩ := hS t ht
    rw [h8, h9, h0]
    refine ⟨by rw [gw_cp_ne (by omega)]; exact u, by rw [gw_cp_ne (by omega)]; exact v, fun x hx => ?_⟩
    unfold gu_copy
    rw [gw_cpa]
    by_cases e : t = b
    · subst e
      rw [gw_cpa]
      by_cases e2 : j ≤ x ∧ x < j + n
      · rw [if_pos e2, if_pos (by omega)]
        have hw := (hS a h1).2.2 (i + (x - j)) (by omega)
        rw [hw]
        congr 1
        omega
      · rw [if_neg e2, if_neg (by omega)]
        exact w x hx
    · rw [gw_cp_ne (by omega), if_neg (by omega)]
      exact w x hx
  · rw [if_neg hc] at h0 ⊢
    exact gc_S_congr hS (fun _ _ _ => rfl) h8 h9 h0
/-! images -/
theorem sp_X11_image (m : gw_Mem) : gw_SpecI M_X11_image 12 [gR 0] m (fun r m' => r = 1 ∧ m' = gw_up (gc_pl m 25 4) 0 2 1) := by
  refine gw_intro pl_X11_image rfl (fun Γ => ?_)
  apply r_X11_image_0
  exact gw_CV.eq (sp_X6_take 25 4 (by unfold gw_isPlan; decide) (by unfold gw_isPlan; decide) m) rfl (gw_rE rfl rfl)
theorem sp_X11_restore (m : gw_Mem) : gw_SpecI M_X11_restore 12 [gR 0] m (fun r m' => r = (if m 0 2 = 0 then -4 else 1) ∧ m' = if m 0 2 = 0 then m else gc_fg (gc_pl m 4 25)) := by
  refine gw_intro pl_X11_restore rfl (fun Γ => ?_)
  apply r_X11_restore_0
  refine ⟨fun h => gw_rE (by rw [if_pos h]) (by rw [if_pos h]), fun h => ?_⟩
  refine gw_CV.eq (sp_X6_take 4 25 (by unfold gw_isPlan; decide) (by unfold gw_isPlan; decide) m) rfl ?_
  refine gw_CV.eq (sp_X11_forget _) rfl ?_
  exact gw_rE (by rw [if_neg h]) (by rw [if_neg h]; rfl)
