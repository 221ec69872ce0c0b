/-! the farthest listener is at the bounds -/
theorem gd_qf_max (p k : Int) : gd_qf p k = max (max (k % 12 - p % 12) (p % 12 - k % 12)) (max (k / 12 - p / 12) (p / 12 - k / 12)) := by
  unfold gd_qf gd_sz gd_qx gd_qy
  generalize k % 12 = a
  generalize p % 12 = b
  generalize k / 12 = c
  generalize p / 12 = d
  repeat' split
  all_goals omega
theorem gw_mm (a b c d X Y : Int) (h : (a ≤ X ∧ X ≤ b) ∧ c ≤ Y ∧ Y ≤ d) (x y : Int) : max (max (X - x) (x - X)) (max (Y - y) (y - Y)) ≤ max (max (x - a) (b - x)) (max (y - c) (d - y)) := by omega
theorem gw_mo (a b c d : Int) : max (max a b) (max c d) = a ∨ max (max a b) (max c d) = b ∨ max (max a b) (max c d) = c ∨ max (max a b) (max c d) = d := by omega
theorem gw_ml (a b c d : Int) : a ≤ max (max a b) (max c d) ∧ b ≤ max (max a b) (max c d) ∧ c ≤ max (max a b) (max c d) ∧ d ≤ max (max a b) (max c d) := by omega
theorem gd_fb_is (g : gw_Mem) (N : Nat) (hN : N = 144) (p : Int) : (∀ k : Nat, k < N → g 126 k = 2 → gd_qf p k ≤ gd_fb (gd_b4 g N) p) ∧ (gd_fb (gd_b4 g N) p = 0 ∨ ∃ k : Nat, k < N ∧ g 126 k = 2 ∧ gd_fb (gd_b4 g N) p ≤ gd_qf p k) := by
  have a := gd_b4_is g N (by omega)
  have b := gd_b4_at g N (by omega)
  generalize gd_b4 g N = B at a b ⊢
  obtain ⟨b1, b2, b3, b4⟩ := B
  dsimp only at a
  rcases b with ⟨e, c⟩ | ⟨⟨k1, p1, q1, r1⟩, ⟨k2, p2, q2, r2⟩, ⟨k3, p3, q3, r3⟩, ⟨k4, p4, q4, r4⟩⟩
  · cases e
    refine ⟨fun k hk h2 => absurd h2 (c k hk), Or.inl ?_⟩
    unfold gd_fb
    dsimp only
    rw [if_neg (by omega)]
  · dsimp only at r1 r2 r3 r4
    have hx : 0 ≤ b2 := by rw [r2]; omega
    have e : gd_fb (b1, b2, b3, b4) p = max (max (p % 12 - b1) (b2 - p % 12)) (max (p / 12 - b3) (b4 - p / 12)) := by
      unfold gd_fb
      dsimp only
      rw [if_pos hx]
    rw [e]
    refine ⟨fun k hk h2 => ?_, Or.inr ?_⟩
    · obtain ⟨y1, y2, y3, y4⟩ := a k hk h2
      rw [gd_qf_max]
      exact gw_mm b1 b2 b3 b4 _ _ ⟨⟨y1, y2⟩, y3, y4⟩ _ _
    · rcases gw_mo (p % 12 - b1) (b2 - p % 12) (p / 12 - b3) (b4 - p / 12) with z | z | z | z
      · refine ⟨k1, p1, q1, ?_⟩
        rw [z, gd_qf_max, r1]
        exact (gw_ml _ _ _ _).2.1
      · refine ⟨k2, p2, q2, ?_⟩
        rw [z, gd_qf_max, r2]
        exact (gw_ml _ _ _ _).1
      · refine ⟨k3, p3, q3, ?_⟩
        rw [z, gd_qf_max, r3]
        exact (gw_ml _ _ _ _).2.2.2
      · refine ⟨k4, p4, q4, ?_⟩
        rw [z, gd_qf_max, r4]
        exact (gw_ml _ _ _ _).2.2.1
