/-! the class: the bounds of all listeners -/
def gd_b4 (g : gw_Mem) : Nat → Int × Int × Int × Int
  | 0 => (12, -1, 12, -1)
  | k + 1 => if g 126 k = 2 then (min (gd_b4 g k).1 ((k : Int) % 12), max (gd_b4 g k).2.1 ((k : Int) % 12), min (gd_b4 g k).2.2.1 ((k : Int) / 12), max (gd_b4 g k).2.2.2 ((k : Int) / 12)) else gd_b4 g k
/-- the bounds are those of the listeners -/
theorem gd_b4_is (g : gw_Mem) (n : Nat) (hn : n ≤ 144) : ∀ k : Nat, k < n → g 126 k = 2 → (gd_b4 g n).1 ≤ (k : Int) % 12 ∧ (k : Int) % 12 ≤ (gd_b4 g n).2.1 ∧ (gd_b4 g n).2.2.1 ≤ (k : Int) / 12 ∧ (k : Int) / 12 ≤ (gd_b4 g n).2.2.2 := by
  induction n with
  | zero => exact fun k hk => by omega
  | succ n ih =>
    have a := ih (by omega)
    intro k hk h2
    rw [gd_b4]
    generalize gd_b4 g n = B at a ⊢
    obtain ⟨b1, b2, b3, b4⟩ := B
    dsimp only at a ⊢
    by_cases h : g 126 (n : Int) = 2
    · rw [if_pos h]
      dsimp only
      by_cases e : k = n
      · subst e
        exact ⟨Int.min_le_right _ _, Int.le_max_right _ _, Int.min_le_right _ _, Int.le_max_right _ _⟩
      · obtain ⟨q1, q2, q3, q4⟩ := a k (by omega) h2
        exact ⟨Int.le_trans (Int.min_le_left _ _) q1, Int.le_trans q2 (Int.le_max_left _ _), Int.le_trans (Int.min_le_left _ _) q3, Int.le_trans q4 (Int.le_max_left _ _)⟩
    · rw [if_neg h]
      refine a k ?_ h2
      refine Nat.lt_of_le_of_ne (by omega) (fun e => h ?_)
      rw [← e]; exact h2
