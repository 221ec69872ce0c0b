/-! the golden words: over a memory that bears the reference's numbers -/
/-- the last mark of kind k at p among the first n -/
def gd_ma (g : gw_Mem) (k p : Int) : Nat → Int
  | 0 => -4
  | n + 1 => if g 119 (8 * k + n) = p then n else gd_ma g k p n
/-- the last of the first n that is the tail -/
def gd_tl (g : gw_Mem) : Nat → Int
  | 0 => -4
  | n + 1 => if g 123 n = 3 then n else gd_tl g n
/-- what an image tells -/
def gd_img (g : gw_Mem) : gw_Mem := fun o j =>
  if o = 117 then (if j = 0 then g 137 255 else if j = 6 then g 137 256 else 0)
  else if o = 118 then g 137 j
  else if o = 119 then g 137 (4 + j)
  else if o = 120 then g 137 (36 + j)
  else if o = 121 then g 137 (68 + j)
  else if o = 122 then g 137 (76 + j)
  else if o = 123 then g 137 (81 + j)
  else if o = 124 then g 137 (91 + j)
  else if o = 125 then g 137 (101 + j)
  else if o = 126 then g 137 (111 + j)
  else 0
def gd_lo (k : Int) : Int := if k = 1 then 2 else 1
def gd_hi (k : Int) : Int := if k = 3 then 50 else 20
/-- the plan is one that calls can make -/
def gd_JP (g : gw_Mem) : Prop := (10 ≤ g 117 0 ∧ g 117 0 ≤ 99) ∧ (∀ k : Int, 0 ≤ k ∧ k ≤ 3 → 0 ≤ g 118 k ∧ g 118 k ≤ 8) ∧
  (∀ k j : Int, 0 ≤ k ∧ k ≤ 3 → 0 ≤ j ∧ j < g 118 k → (0 ≤ g 119 (8 * k + j) ∧ g 119 (8 * k + j) ≤ 99) ∧ gd_lo k ≤ g 120 (8 * k + j) ∧ g 120 (8 * k + j) ≤ gd_hi k) ∧
  (∀ j : Int, 0 ≤ j ∧ j < g 118 0 → 0 ≤ g 121 j ∧ g 121 j ≤ 99) ∧ (0 ≤ g 117 6 ∧ g 117 6 ≤ 10) ∧
  (∀ j : Int, 0 ≤ j ∧ j < g 117 6 → (0 ≤ g 123 j ∧ g 123 j ≤ 3) ∧ (1 ≤ g 124 j ∧ g 124 j ≤ 4) ∧ gw_b (g 125 j)) ∧
  (∀ i j : Int, 0 ≤ i ∧ i < g 117 6 → 0 ≤ j ∧ j < g 117 6 → g 123 i = 3 → g 123 j = 3 → i = j) ∧
  ((1 ≤ g 122 0 ∧ g 122 0 ≤ 4) ∧ (0 ≤ g 122 1 ∧ g 122 1 ≤ 10) ∧ (0 ≤ g 122 2 ∧ g 122 2 ≤ 9) ∧ (0 ≤ g 122 3 ∧ g 122 3 ≤ 30) ∧ 1 ≤ g 122 4 ∧ g 122 4 ≤ 20) ∧
  (∀ j : Int, 0 ≤ j ∧ j < 144 → 0 ≤ g 126 j ∧ g 126 j ≤ 2)
def gd_JT (g : gw_Mem) : Prop := (0 ≤ g 117 12 ∧ g 117 12 ≤ 80) ∧ ∀ j : Int, 0 ≤ j ∧ j < g 117 12 → 32 ≤ g 127 j ∧ g 127 j ≤ 126
def gd_JI (g : gw_Mem) : Prop := gw_b (g 117 34) ∧ (g 117 34 = 1 → gd_JP (gd_img g))
def gd_JS (g : gw_Mem) : Prop := ∀ s : Int, 0 ≤ s ∧ s ≤ 3 → (-1 ≤ g 138 s ∧ g 138 s ≤ 2) ∧ 0 ≤ g 139 s ∧ g 139 s ≤ 24
def gd_J (g : gw_Mem) : Prop := gd_JP g ∧ gd_JT g ∧ gd_JI g ∧ gd_JS g
/-- the plan at base b is the golden one -/
def gc_P (g m : gw_Mem) (b : Nat) : Prop := m b 0 = g 117 0 ∧ (∀ k : Int, 0 ≤ k ∧ k ≤ 3 → m (b + 2) k = g 118 k) ∧
  (∀ k j : Int, 0 ≤ k ∧ k ≤ 3 → 0 ≤ j ∧ j < g 118 k → m (b + 6 + k.toNat) j = g 119 (8 * k + j) ∧ m (b + 10 + k.toNat) j = g 120 (8 * k + j)) ∧
  (∀ j : Int, 0 ≤ j ∧ j < g 118 0 → m (b + 5) j = g 121 j) ∧ m (b + 14) 0 = g 117 6 ∧
  (∀ j : Int, 0 ≤ j ∧ j < g 117 6 → m (b + 15) j = g 123 j ∧ m (b + 16) j = g 124 j ∧ m (b + 17) j = g 125 j) ∧
  (∀ j : Int, 0 ≤ j ∧ j < 5 → m (b + 18) j = g 122 j) ∧ (∀ j : Int, 0 ≤ j ∧ j < 144 → m (b + 20) j = g 126 j)
def gc_T (g m : gw_Mem) : Prop := m 46 1 = g 117 12 ∧ ∀ j : Int, 0 ≤ j ∧ j < g 117 12 → m 47 j = g 127 j
def gc_I (g m : gw_Mem) : Prop := m 0 2 = g 117 34 ∧ (g 117 34 = 1 → gc_P (gd_img g) m 25)
def gc_S (g m : gw_Mem) : Prop := ∀ s : Int, 0 ≤ s ∧ s ≤ 3 → m (109 + 2 * s.toNat) 0 = g 138 s ∧ m (109 + 2 * s.toNat) 1 = g 139 s ∧ ∀ j : Int, 0 ≤ j ∧ j < 24 → m (109 + 2 * s.toNat + 1) j = g 140 (24 * s + j)
/-- what of the golden memory lasts from call to call -/
def gd_per (g g' : gw_Mem) : Prop := g' 117 0 = g 117 0 ∧ g' 117 6 = g 117 6 ∧ g' 117 12 = g 117 12 ∧ g' 117 34 = g 117 34 ∧ g' 118 = g 118 ∧ g' 119 = g 119 ∧ g' 120 = g 120 ∧ g' 121 = g 121 ∧ g' 122 = g 122 ∧ g' 123 = g 123 ∧ g' 124 = g 124 ∧ g' 125 = g 125 ∧ g' 126 = g 126 ∧ g' 127 = g 127 ∧ g' 137 = g 137 ∧ g' 138 = g 138 ∧ g' 139 = g 139 ∧ g' 140 = g 140
theorem gd_ma_congr {g g' : gw_Mem} (h : g' 119 = g 119) (k p : Int) (n : Nat) : gd_ma g' k p n = gd_ma g k p n := by
  induction n with
  | zero => rfl
  | succ n ih => rw [gd_ma, gd_ma, h, ih]
theorem gd_tl_congr {g g' : gw_Mem} (h : g' 123 = g 123) (n : Nat) : gd_tl g' n = gd_tl g n := by
  induction n with
  | zero => rfl
  | succ n ih => rw [gd_tl, gd_tl, h, ih]
theorem gd_ma_rng (g : gw_Mem) (k p : Int) (n : Nat) : -4 ≤ gd_ma g k p n ∧ gd_ma g k p n < n ∧ (gd_ma g k p n < 0 → gd_ma g k p n = -4) ∧ (0 ≤ gd_ma g k p n → g 119 (8 * k + gd_ma g k p n) = p) := by
  induction n with
  | zero => unfold gd_ma; omega
  | succ n ih =>
    rw [gd_ma]
    split
    · rename_i h
      exact ⟨by omega, by omega, by omega, fun _ => h⟩
    · obtain ⟨a, b, c, d⟩ := ih
      exact ⟨a, by omega, c, d⟩
theorem gd_ma_neg (g : gw_Mem) (k p : Int) (n : Nat) : gd_ma g k p n < 0 ↔ ∀ j : Nat, j < n → g 119 (8 * k + j) ≠ p := by
  induction n with
  | zero => simp [gd_ma]
  | succ n ih =>
    rw [gd_ma]
    split
    · rename_i h
      exact ⟨fun z => by omega, fun z => absurd h (z n (by omega))⟩
    · rename_i h
      rw [ih]
      refine ⟨fun z j hj => ?_, fun z j hj => z j (by omega)⟩
      by_cases e : j = n
      · subst e; exact h
      · exact z j (by omega)
theorem gd_tl_rng (g : gw_Mem) (n : Nat) : -4 ≤ gd_tl g n ∧ gd_tl g n < n ∧ (gd_tl g n < 0 → gd_tl g n = -4) ∧ (0 ≤ gd_tl g n → g 123 (gd_tl g n) = 3) := by
  induction n with
  | zero => unfold gd_tl; omega
  | succ n ih =>
    rw [gd_tl]
    split
    · rename_i h
      exact ⟨by omega, by omega, by omega, fun _ => h⟩
    · obtain ⟨a, b, c, d⟩ := ih
      exact ⟨a, by omega, c, d⟩
theorem gd_tl_neg (g : gw_Mem) (n : Nat) : gd_tl g n < 0 ↔ ∀ j : Nat, j < n → g 123 j ≠ 3 := by
  induction n with
  | zero => simp [gd_tl]
  | succ n ih =>
    rw [gd_tl]
    split
    · rename_i h
      exact ⟨fun z => by omega, fun z => absurd h (z n (by omega))⟩
    · rename_i h
      rw [ih]
      refine ⟨fun z j hj => ?_, fun z j hj => z j (by omega)⟩
      by_cases e : j = n
      · subst e; exact h
      · exact z j (by omega)
