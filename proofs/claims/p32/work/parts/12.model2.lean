/-! the reference: texts, costs, the square, images, sheets -/
theorem gw_cp_0 (m : gw_Mem) (a b : Nat) (s t : Int) : gw_cp m a s b t 0 = m := by
  funext q j
  unfold gw_cp
  rw [if_neg (by omega)]
theorem gw_cp_src {m : gw_Mem} {a b : Nat} {s t n : Int} (h : a ≠ b) : gw_cp m a s b t n a = m a := by
  funext j
  unfold gw_cp
  rw [if_neg (fun z => h z.1)]
theorem gw_cp_ne {m : gw_Mem} {a b q : Nat} {s t n : Int} (h : q ≠ b) : gw_cp m a s b t n q = m q := by
  funext j
  unfold gw_cp
  rw [if_neg (fun z => h z.1)]
theorem gw_cpa {m : gw_Mem} {a b : Nat} {s t n j : Int} : gw_cp m a s b t n b j = if t ≤ j ∧ j < t + n then m a (s + (j - t)) else m b j := by
  unfold gw_cp
  by_cases h : t ≤ j ∧ j < t + n
  · rw [if_pos ⟨rfl, h⟩, if_pos h]
  · rw [if_neg (fun z => h z.2), if_neg h]
theorem gw_cp_step {m : gw_Mem} {a b : Nat} {s t i : Int} (h : a ≠ b) (hi : 0 ≤ i) : gw_up (gw_cp m a s b t i) b (t + i) (m a (s + i)) = gw_cp m a s b t (i + 1) := by
  funext q j
  unfold gw_up gw_cp
  by_cases hq : q = b
  · subst hq
    by_cases hj : j = t + i
    · subst hj
      rw [if_pos ⟨rfl, rfl⟩, if_pos (by omega)]
      congr 1
      omega
    · rw [if_neg (fun z => hj z.2)]
      by_cases h1 : t ≤ j ∧ j < t + i
      · rw [if_pos ⟨rfl, h1⟩, if_pos (by omega)]
      · rw [if_neg (fun z => h1 z.2), if_neg (by omega)]
  · rw [if_neg (fun z => hq z.1), if_neg (fun z => hq z.1), if_neg (fun z => hq z.1)]
/-- n cells of o from a on become v -/
def gw_fill (m : gw_Mem) (o : Nat) (a n v : Int) : gw_Mem := fun q j => if q = o ∧ a ≤ j ∧ j < a + n then v else m q j
theorem gw_fill_0 (m : gw_Mem) (o : Nat) (a v : Int) : gw_fill m o a 0 v = m := by
  funext q j
  unfold gw_fill
  rw [if_neg (by omega)]
theorem gw_fill_ne {m : gw_Mem} {o q : Nat} {a n v : Int} (h : q ≠ o) : gw_fill m o a n v q = m q := by
  funext j
  unfold gw_fill
  rw [if_neg (fun z => h z.1)]
theorem gw_fill_at {m : gw_Mem} {o : Nat} {a n v j : Int} : gw_fill m o a n v o j = if a ≤ j ∧ j < a + n then v else m o j := by
  unfold gw_fill
  by_cases h : a ≤ j ∧ j < a + n
  · rw [if_pos ⟨rfl, h⟩, if_pos h]
  · rw [if_neg (fun z => h z.2), if_neg h]
theorem gw_fill_step {m : gw_Mem} {o : Nat} {a i v : Int} (hi : 0 ≤ i) : gw_up (gw_fill m o a i v) o (a + i) v = gw_fill m o a (i + 1) v := by
  funext q j
  unfold gw_up gw_fill
  by_cases hq : q = o
  · subst hq
    by_cases hj : j = a + i
    · subst hj
      rw [if_pos ⟨rfl, rfl⟩, if_pos (by omega)]
    · rw [if_neg (fun z => hj z.2)]
      by_cases h1 : a ≤ j ∧ j < a + i
      · rw [if_pos ⟨rfl, h1⟩, if_pos (by omega)]
      · rw [if_neg (fun z => h1 z.2), if_neg (by omega)]
  · rw [if_neg (fun z => hq z.1), if_neg (fun z => hq z.1), if_neg (fun z => hq z.1)]
/-! texts -/
def gd_by (w k : Int) : Int := gw_andL (gw_shrL w (8 * k)) 255
def gd_tok (w : Int) : Nat → Bool
  | 0 => true
  | n + 1 => gd_tok w n && decide (32 ≤ gd_by w n ∧ gd_by w n ≤ 126)
def gd_ty (w : Int) : Nat → gw_Mem → gw_Mem
  | 0, g => g
  | n + 1, g => gd_ty w n (gw_up (gw_up g 127 (g 117 12) (gd_by w n)) 117 12 (g 117 12 + 1))
theorem gd_tok_all {w : Int} {n : Nat} (h : gd_tok w n = true) : ∀ k : Nat, k < n → 32 ≤ gd_by w k ∧ gd_by w k ≤ 126 := by
  induction n with
  | zero => intro k hk; omega
  | succ n ih =>
    intro k hk
    rw [gd_tok, Bool.and_eq_true, decide_eq_true_eq] at h
    by_cases e : k = n
    · subst e; exact h.2
    · exact ih h.1 k (by omega)
theorem gd_tok_no {w : Int} {n k : Nat} (hk : k < n) (h : ¬ (32 ≤ gd_by w k ∧ gd_by w k ≤ 126)) : gd_tok w n = false := by
  cases e : gd_tok w n with
  | false => rfl
  | true => exact absurd (gd_tok_all e k hk) h
def ga_type (g : gw_Mem) (w n : Int) : Int := if 1 ≤ n ∧ n ≤ 8 then (if gd_tok w n.toNat = true then (if g 117 12 + n ≤ 80 then g 117 12 + n else -3) else -1) else -1
def gu_type (g : gw_Mem) (w n : Int) : gw_Mem := if 1 ≤ n ∧ n ≤ 8 then (if gd_tok w n.toNat = true then (if g 117 12 + n ≤ 80 then gd_ty w n.toNat g else g) else g) else g
theorem gd_ty_len (w : Int) (n : Nat) : ∀ g : gw_Mem, gd_ty w n g 117 12 = g 117 12 + n := by
  induction n with
  | zero => intro g; simp [gd_ty]
  | succ n ih =>
    intro g
    rw [gd_ty, ih, gw_up_at, if_pos rfl]
    omega
/-! costs -/
def gd_cu (v k : Int) : Int := (v + k - 1).tdiv k
theorem gd_cu_rng {v k : Int} (hv : 0 ≤ v) (hk : 1 ≤ k) : 0 ≤ gd_cu v k ∧ gd_cu v k ≤ v + k - 1 ∧ 0 ≤ gd_cu v k * k ∧ gd_cu v k * k ≤ v + k - 1 := by
  unfold gd_cu
  rw [Int.tdiv_eq_ediv_of_nonneg (by omega)]
  have h1 := Int.ediv_nonneg (a := v + k - 1) (b := k) (by omega) (by omega)
  have h2 : (v + k - 1) / k * k ≤ v + k - 1 := Int.ediv_mul_le _ (by omega)
  have h3 : (v + k - 1) / k ≤ v + k - 1 := Int.ediv_le_self _ (by omega)
  exact ⟨h1, h3, Int.mul_nonneg h1 (by omega), h2⟩
def gd_later (n k : Int) : Nat → Int := gw_sum (fun j => min (gd_cu (j + 1) k * k) n - (j + 1))
def gd_cost (n k c e m : Int) : Int := 100 * c * gd_cu n k + e * m * gd_later n k n.toNat
theorem gd_later_rng {n k : Int} (hn : 0 ≤ n ∧ n ≤ 8) (hk : 1 ≤ k ∧ k ≤ 8) (i : Nat) (hi : i ≤ 8) : -10 * i ≤ gd_later n k i ∧ gd_later n k i ≤ 10 * i := by
  unfold gd_later
  induction i with
  | zero => simp [gw_sum]
  | succ i ih =>
    rw [gw_sum]
    have h1 := gd_cu_rng (v := (i : Int) + 1) (k := k) (by omega) (by omega)
    have h2 := ih (by omega)
    omega
theorem gd_mul_rng {a b A B : Int} (ha : 0 ≤ a ∧ a ≤ A) (hb : -B ≤ b ∧ b ≤ B) : -(A * B) ≤ a * b ∧ a * b ≤ A * B := by
  have hB : 0 ≤ B := by omega
  have h1 : a * b ≤ a * B := Int.mul_le_mul_of_nonneg_left hb.2 ha.1
  have h2 : a * B ≤ A * B := Int.mul_le_mul_of_nonneg_right ha.2 hB
  have h3 : a * (-B) ≤ a * b := Int.mul_le_mul_of_nonneg_left hb.1 ha.1
  have h4 : a * (-B) = -(a * B) := Int.mul_neg a B
  omega
def ga_counted (g : gw_Mem) (k c e q : Int) : Int := if (1 ≤ k ∧ k ≤ 8) ∧ (0 ≤ c ∧ c ≤ 9) ∧ (0 ≤ e ∧ e ≤ 30) ∧ 0 ≤ q ∧ q ≤ 99 then (if gd_stops g = 0 then -2 else gd_cost (gd_stops g) k c q e) else -1
theorem gd_stops_rng {g : gw_Mem} (hJ : gd_JP g) : 0 ≤ gd_stops g ∧ gd_stops g ≤ 8 := by
  have h1 := gd_met_rng g (g 118 0).toNat
  have h2 := hJ.2.1 0 (by omega)
  unfold gd_stops
  omega
/-- k with the least cost among 1 .. n + 1 -/
def gd_of (n c e q : Int) : Nat → Int
  | 0 => 1
  | i + 1 => if gd_cost n (i + 2) c q e < gd_cost n (gd_of n c e q i) c q e then i + 2 else gd_of n c e q i
theorem gd_of_rng (n c e q : Int) (i : Nat) : 1 ≤ gd_of n c e q i ∧ gd_of n c e q i ≤ i + 1 := by
  induction i with
  | zero => simp [gd_of]
  | succ i ih => rw [gd_of]; split <;> omega
def ga_often (g : gw_Mem) (c e q : Int) : Int := if (0 ≤ c ∧ c ≤ 9) ∧ (0 ≤ e ∧ e ≤ 30) ∧ 0 ≤ q ∧ q ≤ 99 then (if gd_stops g = 0 then -2 else gd_of (gd_stops g) c e q 7) else -1
def ga_square (g : gw_Mem) (p v : Int) : Int := if (0 ≤ p ∧ p ≤ 143) ∧ 0 ≤ v ∧ v ≤ 2 then g 126 p else -1
def gu_square (g : gw_Mem) (p v : Int) : gw_Mem := if (0 ≤ p ∧ p ≤ 143) ∧ 0 ≤ v ∧ v ≤ 2 then gw_up g 126 p v else g
/-! images -/
def gu_image0 (g : gw_Mem) : gw_Mem := gw_cp (gw_cp (gw_cp (gw_cp (gw_cp (gw_cp (gw_cp (gw_cp (gw_cp g 118 0 137 0 4) 119 0 137 4 32) 120 0 137 36 32) 121 0 137 68 8) 122 0 137 76 5) 123 0 137 81 10) 124 0 137 91 10) 125 0 137 101 10) 126 0 137 111 144
def gu_image (g : gw_Mem) : gw_Mem := gw_up (gw_up (gw_up (gu_image0 g) 137 255 (g 117 0)) 137 256 (g 117 6)) 117 34 1
def gu_restore (g : gw_Mem) : gw_Mem := gw_up (gw_up (gw_cp (gw_cp (gw_cp (gw_cp (gw_cp (gw_cp (gw_cp (gw_cp (gw_cp g 137 0 118 0 4) 137 4 119 0 32) 137 36 120 0 32) 137 68 121 0 8) 137 76 122 0 5) 137 81 123 0 10) 137 91 124 0 10) 137 101 125 0 10) 137 111 126 0 144) 117 0 (g 137 255)) 117 6 (g 137 256)
