/-! the reference: the points to stand -/
def gd_sd (g : gw_Mem) : Nat → Int × Int × Int
  | 0 => (0, -4, -4)
  | p + 1 => if gd_far g p < 0 then gd_sd g p else if (gd_sd g p).2.1 < 0 ∨ gd_far g p < (gd_sd g p).2.2 then ((gd_sd g p).1 + 1, (p : Int), gd_far g p) else ((gd_sd g p).1 + 1, (gd_sd g p).2)
def ga_stand (g : gw_Mem) (w : Int) : Int := if 0 ≤ w ∧ w ≤ 2 then (if w = 0 then (gd_sd g 144).1 else if w = 1 then (gd_sd g 144).2.1 else (gd_sd g 144).2.2) else -1
theorem gd_sd_rng (g : gw_Mem) (p : Nat) : 0 ≤ (gd_sd g p).1 ∧ (gd_sd g p).1 ≤ p ∧ ((gd_sd g p).1 = 0 ↔ (gd_sd g p).2.1 < 0) ∧ ((gd_sd g p).1 = 0 → (gd_sd g p).2 = (-4, -4)) := by
  induction p with
  | zero => exact ⟨Int.le_refl _, Int.le_refl _, ⟨fun _ => by show (-4 : Int) < 0; omega, fun _ => rfl⟩, fun _ => rfl⟩
  | succ p ih =>
    rw [gd_sd]
    split
    · exact ⟨ih.1, by omega, ih.2.2⟩
    · split
      · dsimp only
        exact ⟨by omega, by omega, ⟨fun z => by omega, fun z => by omega⟩, fun z => by omega⟩
      · rename_i h
        dsimp only
        have h1 : ¬ (gd_sd g p).2.1 < 0 := fun z => h (Or.inl z)
        exact ⟨by omega, by omega, ⟨fun z => by omega, fun z => absurd z h1⟩, fun z => by omega⟩
theorem sp_X12_stand (g : gw_Mem) (w : Int) : gw_SpecI M_X12_stand 20 [gR 117, gI w] g (fun r m' => r = ga_stand g w ∧ m' = g) := by
  refine gw_intro pl_X12_stand rfl (fun Γ => ?_)
  apply r_X12_stand_0
  refine gw_CI.eq (sp_X12_in w 0 2 g) rfl (gw_b_tf (fun h => ?_) (fun h1 => ?_))
  · exact gw_rE (by rw [ga_stand, if_neg h]) rfl
  have key : ∀ (j p : Nat) (y6 y7 : Option gw_SV), p + j = 144 → gw_G M_X12_stand 20 (fun r m' => ∃ v, r = some (gI v) ∧ v = ga_stand g w ∧ m' = g) Γ 26 [some (gR 117), some (gI w), some (gI (gd_sd g p).1), some (gI (gd_sd g p).2.1), some (gI (gd_sd g p).2.2), some (gI (p : Int)), y6, y7] [] g := by
    intro j
    induction j with
    | zero =>
      intro p y6 y7 hp
      apply r_X12_stand_26
      refine ⟨fun _ => gw_rE ?_ rfl, fun z => absurd (by omega) z⟩
      rw [ga_stand, if_pos h1, show p = 144 by omega]
    | succ j ih =>
      intro p y6 y7 hp
      apply r_X12_stand_26
      refine ⟨fun z => absurd z (by omega), fun _ => gw_CI.eq (sp_X12_farthest p g (by omega)) rfl ?_⟩
      have r := gd_sd_rng g p
      have h := fun y6 y7 => ih (p + 1) y6 y7 (by omega)
      rw [gw_w1 (by omega)]
      have h2 := h (some (gI (gd_far g p))) (some (gI (if gd_far g p < 0 then 0 else if (gd_sd g p).2.1 < 0 then 1 else if (gd_sd g p).2.2 ≤ gd_far g p then 0 else 1)))
      rw [gd_sd] at h2
      by_cases c1 : gd_far g p < 0
      · simp only [if_pos c1] at h2 ⊢
        rw [if_pos trivial, if_pos trivial, Int.add_zero, gw_w_id (x := (gd_sd g p).1) (by omega)]
        exact h2
      · simp only [if_neg c1] at h2 ⊢
        rw [gw_w_id (x := (gd_sd g p).1 + 1) (by omega)]
        by_cases c2 : (gd_sd g p).2.1 < 0
        · rw [if_pos (Or.inl c2)] at h2
          simp only [if_pos c2] at h2 ⊢
          exact h2
        · by_cases c3 : (gd_sd g p).2.2 ≤ gd_far g p
          · rw [if_neg (fun z => z.elim c2 (fun q => by omega))] at h2
            simp only [if_neg c2, if_pos c3] at h2 ⊢
            rw [if_pos trivial, if_pos trivial]
            exact h2
          · rw [if_pos (Or.inr (by omega))] at h2
            simp only [if_neg c2, if_neg c3] at h2 ⊢
            exact h2
  exact key 144 0 none none (by omega)
/-- what the farthest means -/
theorem gd_fv_iff (g : gw_Mem) (p : Int) (n : Nat) : (0 ≤ gd_fv g p n ↔ ∀ k : Nat, k < n → g 126 k = 2 → gd_hz g p k ≠ 0) ∧ (0 ≤ gd_fv g p n → (∀ k : Nat, k < n → g 126 k = 2 → gd_qf p k ≤ gd_fv g p n) ∧ (gd_fv g p n = 0 ∨ ∃ k : Nat, k < n ∧ g 126 k = 2 ∧ gd_fv g p n = gd_qf p k)) := by
  induction n with
  | zero => exact ⟨⟨fun _ k hk => by omega, fun _ => Int.le_refl _⟩, fun _ => ⟨fun k hk => by omega, Or.inl rfl⟩⟩
  | succ n ih =>
    have hr := gd_fv_rng g p n
    have hz : ∀ x : Int, 0 ≤ gd_sz x := fun x => by unfold gd_sz; split <;> omega
    have hq : 0 ≤ gd_qf p n := by
      have a := hz (gd_qx p n)
      have b := hz (gd_qy p n)
      unfold gd_qf
      split <;> omega
    rw [gd_fv]
    by_cases c0 : gd_fv g p n < 0
    · rw [if_pos c0]
      refine ⟨⟨fun z => by omega, fun z => ?_⟩, fun z => by omega⟩
      have := ih.1.mpr (fun k hk => z k (by omega))
      omega
    · rw [if_neg c0]
      obtain ⟨i1, i2⟩ := ih
      have i3 := i1.mp (by omega)
      obtain ⟨i4, i5⟩ := i2 (by omega)
      have last : ∀ {P : Nat → Prop}, (∀ k : Nat, k < n → P k) → P n → ∀ k : Nat, k < n + 1 → P k := by
        intro P h1 h2 k hk
        by_cases e : k = n
        · rw [e]; exact h2
        · exact h1 k (by omega)
      by_cases c1 : g 126 (n : Int) = 2
      · rw [if_pos c1]
        by_cases c2 : gd_hz g p n = 0
        · rw [if_pos c2]
          exact ⟨⟨fun z => by omega, fun z => absurd c2 (z n (by omega) c1)⟩, fun z => by omega⟩
        · rw [if_neg c2]
          have all := last (P := fun k => g 126 (k : Int) = 2 → gd_hz g p k ≠ 0) i3 (fun _ => c2)
          by_cases c3 : gd_qf p n ≤ gd_fv g p n
          · rw [if_pos c3]
            refine ⟨⟨fun _ => all, fun _ => by omega⟩, fun _ => ⟨last i4 (fun _ => c3), ?_⟩⟩
            rcases i5 with z | ⟨k, k1, k2⟩
            · exact Or.inl z
            · exact Or.inr ⟨k, by omega, k2⟩
          · rw [if_neg c3]
            refine ⟨⟨fun _ => all, fun _ => by omega⟩, fun _ => ⟨last (fun k hk h => by have := i4 k hk h; omega) (fun _ => Int.le_refl _), Or.inr ⟨n, by omega, c1, rfl⟩⟩⟩
      · rw [if_neg c1]
        refine ⟨⟨fun _ => last i3 (fun z => absurd z c1), fun _ => by omega⟩, fun _ => ⟨last i4 (fun z => absurd z c1), ?_⟩⟩
        rcases i5 with z | ⟨k, k1, k2⟩
        · exact Or.inl z
        · exact Or.inr ⟨k, by omega, k2⟩
