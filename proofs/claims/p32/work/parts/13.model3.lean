/-! the reference: sheets -/
def gd_fd (g : gw_Mem) (s l i n : Int) : Int := if g 138 s < 0 then -11 else if g 138 s = l then (if 0 ≤ i ∧ i + n ≤ g 139 s then 0 else -13) else -12
theorem gw_inR_L {x y : Int} (hx : gw_inR x) (hy : gw_inR y) : gw_wl (x + y) = x + y := by
  apply gw_wl_id
  unfold gw_inR at hx hy
  unfold gw_inL
  omega
def ga_sheet (s l n : Int) : Int := if (0 ≤ s ∧ s ≤ 3) ∧ (0 ≤ l ∧ l ≤ 2) ∧ n ≤ 24 then (if 0 ≤ n then n else -14) else -1
def gu_sheet (g : gw_Mem) (s l n : Int) : gw_Mem := if (0 ≤ s ∧ s ≤ 3) ∧ (0 ≤ l ∧ l ≤ 2) ∧ n ≤ 24 then (if 0 ≤ n then gw_fill (gw_up (gw_up g 138 s l) 139 s n) 140 (24 * s) 24 0 else g) else g
def ga_drop (g : gw_Mem) (s : Int) : Int := if 0 ≤ s ∧ s ≤ 3 then (if 0 ≤ g 138 s then g 139 s else -11) else -1
def gu_drop (g : gw_Mem) (s : Int) : gw_Mem := if 0 ≤ s ∧ s ≤ 3 then (if 0 ≤ g 138 s then gw_up g 138 s (-1) else g) else g
def gd_nar (l v : Int) : Int := if l = 0 then gw_i2b v else if l = 1 then gw_i2s v else v
def ga_item (g : gw_Mem) (s l i : Int) : Int := if (0 ≤ s ∧ s ≤ 3) ∧ 0 ≤ l ∧ l ≤ 2 then (if 0 ≤ gd_fd g s l i 1 then 1 else gd_fd g s l i 1) else -1
def gu_item (g : gw_Mem) (s l i v : Int) : gw_Mem := if (0 ≤ s ∧ s ≤ 3) ∧ 0 ≤ l ∧ l ≤ 2 then (if 0 ≤ gd_fd g s l i 1 then gw_up g 140 (24 * s + i) (gd_nar l v) else g) else g
theorem gd_fd_ok {g : gw_Mem} {s l i n : Int} (h : 0 ≤ gd_fd g s l i n) : gd_fd g s l i n = 0 ∧ 0 ≤ g 138 s ∧ g 138 s = l ∧ 0 ≤ i ∧ i + n ≤ g 139 s := by
  unfold gd_fd at *
  split at h
  · omega
  · split at h
    · split at h
      · rename_i h1 h2 h3
        rw [if_neg h1, if_pos h2, if_pos h3]
        exact ⟨rfl, by omega, h2, h3⟩
      · omega
    · omega
def ga_copy (g : gw_Mem) (a i b j n : Int) : Int := if (0 ≤ a ∧ a ≤ 3) ∧ 0 ≤ b ∧ b ≤ 3 then (if g 138 a < 0 ∨ g 138 b < 0 then -11 else if g 138 a = g 138 b then (if 0 ≤ n ∧ 0 ≤ i ∧ i + n ≤ g 139 a ∧ 0 ≤ j ∧ j + n ≤ g 139 b then n else -13) else -12) else -1
def gd_cok (g : gw_Mem) (a i b j n : Int) : Prop := ((0 ≤ a ∧ a ≤ 3) ∧ 0 ≤ b ∧ b ≤ 3) ∧ ¬ (g 138 a < 0 ∨ g 138 b < 0) ∧ g 138 a = g 138 b ∧ 0 ≤ n ∧ 0 ≤ i ∧ i + n ≤ g 139 a ∧ 0 ≤ j ∧ j + n ≤ g 139 b
theorem ga_copy_ok {g : gw_Mem} {a i b j n : Int} (h : gd_cok g a i b j n) : ga_copy g a i b j n = n := by
  obtain ⟨h1, h2, h3, h4⟩ := h
  rw [ga_copy, if_pos h1, if_neg h2, if_pos h3, if_pos h4]
theorem ga_copy_no {g : gw_Mem} {a i b j n : Int} (h : ¬ gd_cok g a i b j n) : ga_copy g a i b j n < 0 := by
  unfold ga_copy
  split
  · rename_i h1
    split
    · omega
    · rename_i h2
      split
      · rename_i h3
        split
        · rename_i h4
          exact absurd ⟨h1, h2, h3, h4⟩ h
        · omega
      · omega
  · omega
/-- the items copied: row 140 as the golden copy has it, the reference's row 141 is free -/
def gu_copy (g : gw_Mem) (a i b j n : Int) : gw_Mem := gw_cp g 140 (24 * a + i) 140 (24 * b + j) n
