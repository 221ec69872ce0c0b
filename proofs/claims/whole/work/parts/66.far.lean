/-! the class: the farthest listener -/
/-- each bound is some listener's, if there is one -/
def gd_ba (g : gw_Mem) (B : Int × Int × Int × Int) (n : Nat) : Prop := (∃ k : Nat, k < n ∧ g 126 k = 2 ∧ B.1 = (k : Int) % 12) ∧ (∃ k : Nat, k < n ∧ g 126 k = 2 ∧ B.2.1 = (k : Int) % 12) ∧ (∃ k : Nat, k < n ∧ g 126 k = 2 ∧ B.2.2.1 = (k : Int) / 12) ∧ ∃ k : Nat, k < n ∧ g 126 k = 2 ∧ B.2.2.2 = (k : Int) / 12
theorem gw_min_or (a b : Int) : min a b = a ∨ min a b = b := by omega
theorem gw_max_or (a b : Int) : max a b = a ∨ max a b = b := by omega
theorem gd_b4_at (g : gw_Mem) (n : Nat) (hn : n ≤ 144) : (gd_b4 g n = (12, -1, 12, -1) ∧ ∀ k : Nat, k < n → g 126 k ≠ 2) ∨ gd_ba g (gd_b4 g n) n := by
  induction n with
  | zero => exact Or.inl ⟨rfl, fun k hk => by omega⟩
  | succ n ih =>
    have a := ih (by omega)
    rw [gd_b4]
    generalize gd_b4 g n = B at a ⊢
    obtain ⟨b1, b2, b3, b4⟩ := B
    by_cases h : g 126 (n : Int) = 2
    · rw [if_pos h]
      right
      unfold gd_ba
      dsimp only
      have x0 : 0 ≤ (n : Int) % 12 ∧ (n : Int) % 12 ≤ 11 := by omega
      have y0 : 0 ≤ (n : Int) / 12 ∧ (n : Int) / 12 ≤ 11 := by omega
      rcases a with ⟨e, _⟩ | ⟨⟨k1, p1, q1, r1⟩, ⟨k2, p2, q2, r2⟩, ⟨k3, p3, q3, r3⟩, ⟨k4, p4, q4, r4⟩⟩
      · cases e
        exact ⟨⟨n, by omega, h, by omega⟩, ⟨n, by omega, h, by omega⟩, ⟨n, by omega, h, by omega⟩, ⟨n, by omega, h, by omega⟩⟩
      · dsimp only at r1 r2 r3 r4
        refine ⟨?_, ?_, ?_, ?_⟩
        · rcases gw_min_or b1 ((n : Int) % 12) with z | z
          · exact ⟨k1, by omega, q1, z.trans r1⟩
          · exact ⟨n, by omega, h, z⟩
        · rcases gw_max_or b2 ((n : Int) % 12) with z | z
          · exact ⟨k2, by omega, q2, z.trans r2⟩
          · exact ⟨n, by omega, h, z⟩
        · rcases gw_min_or b3 ((n : Int) / 12) with z | z
          · exact ⟨k3, by omega, q3, z.trans r3⟩
          · exact ⟨n, by omega, h, z⟩
        · rcases gw_max_or b4 ((n : Int) / 12) with z | z
          · exact ⟨k4, by omega, q4, z.trans r4⟩
          · exact ⟨n, by omega, h, z⟩
    · rw [if_neg h]
      rcases a with ⟨e, c⟩ | ⟨⟨k1, p1, q1⟩, ⟨k2, p2, q2⟩, ⟨k3, p3, q3⟩, ⟨k4, p4, q4⟩⟩
      · refine Or.inl ⟨e, fun k hk => ?_⟩
        by_cases ek : k = n
        · rw [ek]; exact h
        · exact c k (by omega)
      · exact Or.inr ⟨⟨k1, by omega, q1⟩, ⟨k2, by omega, q2⟩, ⟨k3, by omega, q3⟩, ⟨k4, by omega, q4⟩⟩
def gd_fb (B : Int × Int × Int × Int) (p : Int) : Int := if 0 ≤ B.2.1 then max (max (p % 12 - B.1) (B.2.1 - p % 12)) (max (p / 12 - B.2.2.1) (B.2.2.2 - p / 12)) else 0
theorem sp_X8_farthest (g m : gw_Mem) (N : Nat) (hN : N = 144) (p : Nat) (hp : p < 144) (h : gc_b4 (gd_b4 g N) m) : gw_SpecI M_X8_farthest 10 [gR 23, gI ((p : Int) % 12), gI ((p : Int) / 12)] m (fun r m' => r = gd_fb (gd_b4 g N) p ∧ m' = m) := by
  refine gw_intro pl_X8_farthest rfl (fun Γ => ?_)
  have hb : gw_isSquare 23 := Or.inl rfl
  apply r_X8_farthest_0 23 hb _ _ _ (by decide)
  have bi := gd_b4_at g N (by omega)
  generalize gd_b4 g N = B at h bi ⊢
  obtain ⟨b1, b2, b3, b4⟩ := B
  unfold gc_b4 at h
  dsimp only at h
  rw [h.1, h.2.1, h.2.2.1, h.2.2.2]
  unfold gd_fb
  dsimp only
  refine ⟨fun z => gw_rE ?_ rfl, fun z => gw_rE (by rw [if_neg z]) rfl⟩
  rw [if_pos z]
  rcases bi with ⟨e, _⟩ | ⟨⟨k1, p1, q1, r1⟩, ⟨k2, p2, q2, r2⟩, ⟨k3, p3, q3, r3⟩, ⟨k4, p4, q4, r4⟩⟩
  · cases e
    exact absurd z (by omega)
  · dsimp only at r1 r2 r3 r4
    rw [gw_w_id (x := (p : Int) % 12 - b1) (by omega), gw_w_id (x := b2 - (p : Int) % 12) (by omega), gw_w_id (x := (p : Int) / 12 - b3) (by omega), gw_w_id (x := b4 - (p : Int) / 12) (by omega)]
