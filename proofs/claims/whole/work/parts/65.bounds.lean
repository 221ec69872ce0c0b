/-! the class: finding the bounds -/
theorem gw_u5 (q : gw_Mem) (X : Int) : gw_up q 23 4 X 23 5 = q 23 5 := by rw [gw_up_at, if_neg (by omega)]
theorem gw_u6 (q : gw_Mem) (X Y : Int) : gw_up (gw_up q 23 4 X) 23 5 Y 23 6 = q 23 6 := by rw [gw_up_at, if_neg (by omega), gw_up_at, if_neg (by omega)]
theorem gw_u7 (q : gw_Mem) (X Y Z : Int) : gw_up (gw_up (gw_up q 23 4 X) 23 5 Y) 23 6 Z 23 7 = q 23 7 := by rw [gw_up_at, if_neg (by omega), gw_up_at, if_neg (by omega), gw_up_at, if_neg (by omega)]
def gw_u4 (q : gw_Mem) (X Y Z W : Int) : gw_Mem := gw_up (gw_up (gw_up (gw_up q 23 4 X) 23 5 Y) 23 6 Z) 23 7 W
theorem gw_u4_at (q : gw_Mem) (X Y Z W : Int) : (gw_u4 q X Y Z W 23 4 = X ∧ gw_u4 q X Y Z W 23 5 = Y ∧ gw_u4 q X Y Z W 23 6 = Z ∧ gw_u4 q X Y Z W 23 7 = W) ∧ (∀ o : Nat, o ≠ 23 → gw_u4 q X Y Z W o = q o) ∧ ∀ j : Int, ¬ (4 ≤ j ∧ j ≤ 7) → gw_u4 q X Y Z W 23 j = q 23 j := by
  unfold gw_u4
  refine ⟨⟨?_, ?_, ?_, ?_⟩, fun o h => by rw [gw_up_ne h, gw_up_ne h, gw_up_ne h, gw_up_ne h], fun j hj => ?_⟩
  · rw [gw_up_at, if_neg (by omega), gw_up_at, if_neg (by omega), gw_up_at, if_neg (by omega), gw_up_at, if_pos rfl]
  · rw [gw_up_at, if_neg (by omega), gw_up_at, if_neg (by omega), gw_up_at, if_pos rfl]
  · rw [gw_up_at, if_neg (by omega), gw_up_at, if_pos rfl]
  · rw [gw_up_at, if_pos rfl]
  · rw [gw_up_at, if_neg (by omega), gw_up_at, if_neg (by omega), gw_up_at, if_neg (by omega), gw_up_at, if_neg (by omega)]
def gc_b4 (B : Int × Int × Int × Int) (m : gw_Mem) : Prop := m 23 4 = B.1 ∧ m 23 5 = B.2.1 ∧ m 23 6 = B.2.2.1 ∧ m 23 7 = B.2.2.2
theorem sp_X8_findBounds (g m : gw_Mem) (N : Nat) (hN : N = 144) (hS : ∀ j : Int, 0 ≤ j ∧ j < 144 → m 24 j = g 126 j) : gw_SpecV M_X8_findBounds 10 [gR 23] m (fun m' => gc_b4 (gd_b4 g N) m' ∧ (∀ o : Nat, o ≠ 23 → m' o = m o) ∧ ∀ j : Int, ¬ (4 ≤ j ∧ j ≤ 7) → m' 23 j = m 23 j) := by
  refine gw_intro pl_X8_findBounds rfl (fun Γ => ?_)
  have hb : gw_isSquare 23 := Or.inl rfl
  have key : ∀ (j k : Nat) (q : gw_Mem), k + j = N → gc_b4 (gd_b4 g k) q → (∀ o : Nat, o ≠ 23 → q o = m o) → (∀ j : Int, ¬ (4 ≤ j ∧ j ≤ 7) → q 23 j = m 23 j) →
      gw_G M_X8_findBounds 10 (fun r m' => r = none ∧ gc_b4 (gd_b4 g N) m' ∧ (∀ o : Nat, o ≠ 23 → m' o = m o) ∧ ∀ j : Int, ¬ (4 ≤ j ∧ j ≤ 7) → m' 23 j = m 23 j) Γ 24 [some (gR 23), some (gI (k : Int))] [] q := by
    intro j
    induction j with
    | zero =>
      intro k q hk h4 ho hj
      apply r_X8_findBounds_24 23 hb _ _ (by decide)
      have e : k = N := by omega
      subst e
      exact ⟨fun _ => ⟨rfl, h4, ho, hj⟩, fun z => absurd (by omega) z⟩
    | succ j ih =>
      intro k q hk h4 ho hj
      apply r_X8_findBounds_24 23 hb _ _ (by decide)
      have e24 : q (23 + 1) (k : Int) = g 126 k := by rw [ho (23 + 1) (by omega)]; exact hS k (by omega)
      have ex : (k : Int).tmod 12 = (k : Int) % 12 := Int.tmod_eq_emod_of_nonneg (by omega)
      have ey : gw_w ((k : Int).tdiv 12) = (k : Int) / 12 := by rw [Int.tdiv_eq_ediv_of_nonneg (by omega), gw_w_id (by omega)]
      have nxt := ih (k + 1)
      rw [gd_b4] at nxt
      rw [e24, ex, ey, gw_u5, gw_u6, gw_u7]
      refine ⟨fun z => absurd z (by omega), fun _ => ⟨gw_inm (by omega) (by omega), fun h2 => ?_, fun h2 => ?_⟩⟩
      · apply r_X8_findBounds_101 23 hb _ _ (by decide)
        rw [gw_w1 (by omega)]
        rw [if_pos h2] at nxt
        unfold gc_b4 at h4
        rw [h4.1, h4.2.1, h4.2.2.1, h4.2.2.2]
        have u := gw_u4_at q (min (gd_b4 g k).1 ((k : Int) % 12)) (max (gd_b4 g k).2.1 ((k : Int) % 12)) (min (gd_b4 g k).2.2.1 ((k : Int) / 12)) (max (gd_b4 g k).2.2.2 ((k : Int) / 12))
        exact nxt (gw_u4 q _ _ _ _) (by omega) u.1 (fun o h => (u.2.1 o h).trans (ho o h)) (fun i hi => (u.2.2 i hi).trans (hj i hi))
      · apply r_X8_findBounds_101 23 hb _ _ (by decide)
        rw [gw_w1 (by omega)]
        rw [if_neg h2] at nxt
        exact nxt q (by omega) h4 ho hj
  apply r_X8_findBounds_0 23 hb _ (by decide)
  have u := gw_u4_at m 12 (-1) 12 (-1)
  exact key N 0 (gw_u4 m 12 (-1) 12 (-1)) (by omega) u.1 u.2.1 u.2.2
