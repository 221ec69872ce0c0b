/-! where all hear: the class and the reference mean the same -/
theorem gd_hj_iff (g : gw_Mem) (p k : Int) (n : Nat) : gd_hj g p k n ≠ 0 ↔ gd_qf p k ≤ g 122 4 ∧ ∀ i : Nat, i < n → g 126 (p + ((i : Int) + 1) * (gd_sg (gd_qx p k) + 12 * gd_sg (gd_qy p k))) ≠ 1 := by
  induction n with
  | zero =>
    unfold gd_hj
    split
    · exact ⟨fun z => absurd rfl z, fun z => by omega⟩
    · exact ⟨fun _ => ⟨by omega, fun i hi => by omega⟩, fun _ => by omega⟩
  | succ n ih =>
    rw [gd_hj]
    by_cases h0 : gd_hj g p k n = 0
    · rw [if_pos h0]
      refine ⟨fun z => absurd rfl z, fun z => absurd h0 (ih.mpr ⟨z.1, fun i hi => z.2 i (by omega)⟩)⟩
    · rw [if_neg h0]
      have h1 := ih.mp h0
      by_cases h2 : g 126 (p + ((n : Int) + 1) * (gd_sg (gd_qx p k) + 12 * gd_sg (gd_qy p k))) = 1
      · rw [if_pos h2]
        exact ⟨fun z => absurd rfl z, fun z => absurd h2 (z.2 n (by omega))⟩
      · rw [if_neg h2]
        refine ⟨fun _ => ⟨h1.1, fun i hi => ?_⟩, fun _ => by omega⟩
        by_cases e : i = n
        · rw [e]; exact h2
        · exact h1.2 i (by omega)
/-- the point (a, b) lies on the square -/
def gd_on (a b : Int) : Prop := (0 ≤ a ∧ a ≤ 11) ∧ 0 ≤ b ∧ b ≤ 11
theorem gd_hd_of (g : gw_Mem) (x y dx dy : Int) (n : Nat) : ∀ (j s : Int), gd_hd g x y dx dy n j s ≠ 0 → ∃ j2 : Int, (j ≤ j2 ∧ j2 < j + n) ∧ gd_on (x + j2 * dx) (y + j2 * dy) ∧ g 126 (12 * (y + j2 * dy) + (x + j2 * dx)) = 2 ∧ (s ≠ 0 ∨ ∃ j1 : Int, (j ≤ j1 ∧ j1 < j2) ∧ g 126 (12 * (y + j1 * dy) + (x + j1 * dx)) = 1) := by
  induction n with
  | zero => intro j s h; exact absurd rfl h
  | succ n ih =>
    intro j s h
    rw [gd_hd] at h
    by_cases h1 : (0 ≤ x + j * dx ∧ x + j * dx ≤ 11) ∧ 0 ≤ y + j * dy ∧ y + j * dy ≤ 11
    · rw [if_pos h1] at h
      by_cases h2 : g 126 (12 * (y + j * dy) + (x + j * dx)) = 2 ∧ s ≠ 0
      · exact ⟨j, by omega, h1, h2.1, Or.inl h2.2⟩
      · rw [if_neg h2] at h
        obtain ⟨j2, a1, a2, a3, a4⟩ := ih (j + 1) _ h
        refine ⟨j2, by omega, a2, a3, ?_⟩
        rcases a4 with a4 | ⟨j1, a5, a6⟩
        · by_cases hs : s = 0
          · rw [if_pos hs] at a4
            by_cases h3 : g 126 (12 * (y + j * dy) + (x + j * dx)) = 1
            · exact Or.inr ⟨j, by omega, h3⟩
            · rw [if_neg h3] at a4
              exact absurd rfl a4
          · exact Or.inl hs
        · exact Or.inr ⟨j1, by omega, a6⟩
    · rw [if_neg h1] at h
      exact absurd rfl h
theorem gd_hd_to (g : gw_Mem) (x y dx dy j2 : Int) (h2 : g 126 (12 * (y + j2 * dy) + (x + j2 * dx)) = 2) (n : Nat) : ∀ (j s : Int), (j ≤ j2 ∧ j2 < j + n) → (∀ i : Int, j ≤ i → i ≤ j2 → gd_on (x + i * dx) (y + i * dy)) → (s ≠ 0 ∨ ∃ j1 : Int, (j ≤ j1 ∧ j1 < j2) ∧ g 126 (12 * (y + j1 * dy) + (x + j1 * dx)) = 1) → gd_hd g x y dx dy n j s ≠ 0 := by
  induction n with
  | zero => intro j s h; omega
  | succ n ih =>
    intro j s hj hr hs
    rw [gd_hd, if_pos (show (0 ≤ x + j * dx ∧ x + j * dx ≤ 11) ∧ 0 ≤ y + j * dy ∧ y + j * dy ≤ 11 from hr j (by omega) hj.1)]
    by_cases c : g 126 (12 * (y + j * dy) + (x + j * dx)) = 2 ∧ s ≠ 0
    · rw [if_pos c]
      omega
    · rw [if_neg c]
      have hne : j ≠ j2 := by
        intro e
        subst e
        rcases hs with hs | ⟨j1, a, _⟩
        · exact c ⟨h2, hs⟩
        · omega
      refine ih (j + 1) _ (by omega) (fun i hi hi2 => hr i (by omega) hi2) ?_
      by_cases h0 : s = 0
      · rw [if_pos h0]
        rcases hs with hs | ⟨j1, a, b⟩
        · exact absurd h0 hs
        · by_cases e : j1 = j
          · rw [e] at b
            rw [if_pos b]
            exact Or.inl (by omega)
          · exact Or.inr ⟨j1, by omega, b⟩
      · rw [if_neg h0]
        exact Or.inl (by omega)
theorem gd_dir {x y dx dy j : Int} (hx : 0 ≤ x ∧ x ≤ 11) (hy : 0 ≤ y ∧ y ≤ 11) (hdx : dx = -1 ∨ dx = 0 ∨ dx = 1) (hdy : dy = -1 ∨ dy = 0 ∨ dy = 1) (hne : ¬ (dx = 0 ∧ dy = 0)) (hj : 1 ≤ j) (hr : gd_on (x + j * dx) (y + j * dy)) : gd_qf (12 * y + x) (12 * (y + j * dy) + (x + j * dx)) = j ∧ gd_al (12 * y + x) (12 * (y + j * dy) + (x + j * dx)) ≠ 0 ∧ gd_sg (gd_qx (12 * y + x) (12 * (y + j * dy) + (x + j * dx))) = dx ∧ gd_sg (gd_qy (12 * y + x) (12 * (y + j * dy) + (x + j * dx))) = dy := by
  unfold gd_on at hr
  have ex : gd_qx (12 * y + x) (12 * (y + j * dy) + (x + j * dx)) = j * dx := by unfold gd_qx; omega
  have ey : gd_qy (12 * y + x) (12 * (y + j * dy) + (x + j * dx)) = j * dy := by unfold gd_qy; omega
  unfold gd_qf gd_al
  rw [ex, ey]
  rcases hdx with rfl | rfl | rfl <;> rcases hdy with rfl | rfl | rfl
  all_goals (try (exact absurd ⟨rfl, rfl⟩ hne))
  all_goals (unfold gd_sz gd_sg; refine ⟨?_, ?_, ?_, ?_⟩)
  all_goals (repeat' split)
  all_goals omega
theorem gd_dir2 {p k : Int} (hp : 0 ≤ p ∧ p < 144) (hk : 0 ≤ k ∧ k < 144) (ha : gd_al p k ≠ 0) (hq : 1 ≤ gd_qf p k) : ∃ dx dy : Int, (dx = -1 ∨ dx = 0 ∨ dx = 1) ∧ (dy = -1 ∨ dy = 0 ∨ dy = 1) ∧ ¬ (dx = 0 ∧ dy = 0) ∧ gd_sg (gd_qx p k) = dx ∧ gd_sg (gd_qy p k) = dy ∧ k = 12 * (p / 12 + gd_qf p k * dy) + (p % 12 + gd_qf p k * dx) ∧ ∀ i : Int, 0 ≤ i → i ≤ gd_qf p k → gd_on (p % 12 + i * dx) (p / 12 + i * dy) := by
  have bx : -11 ≤ gd_qx p k ∧ gd_qx p k ≤ 11 := by unfold gd_qx; omega
  have ex : k % 12 = p % 12 + gd_qx p k := by unfold gd_qx; omega
  have ey : k / 12 = p / 12 + gd_qy p k := by unfold gd_qy; omega
  unfold gd_al at ha
  unfold gd_qf at hq ⊢
  generalize gd_qx p k = X at *
  generalize gd_qy p k = Y at *
  have hX : X < 0 ∨ X = 0 ∨ 0 < X := by omega
  have hY : Y < 0 ∨ Y = 0 ∨ 0 < Y := by omega
  have sn : ∀ z : Int, z < 0 → gd_sg z = -1 ∧ gd_sz z = -z := fun z hz => by unfold gd_sg gd_sz; rw [if_neg (by omega), if_neg (by omega)]; exact ⟨rfl, rfl⟩
  have s0 : gd_sg 0 = 0 ∧ gd_sz 0 = 0 := ⟨rfl, rfl⟩
  have sp : ∀ z : Int, 0 < z → gd_sg z = 1 ∧ gd_sz z = z := fun z hz => by unfold gd_sg gd_sz; rw [if_pos (by omega), if_neg (by omega), if_pos (by omega)]; exact ⟨rfl, rfl⟩
  have fin : ∀ dx dy u v : Int, gd_sg X = dx → gd_sz X = u → gd_sg Y = dy → gd_sz Y = v → X = u * dx → Y = v * dy → (dx = -1 ∨ dx = 0 ∨ dx = 1) → (dy = -1 ∨ dy = 0 ∨ dy = 1) → (dx = 0 ↔ u = 0) → (dy = 0 ↔ v = 0) → 0 ≤ u → 0 ≤ v →
      ∃ dx dy : Int, (dx = -1 ∨ dx = 0 ∨ dx = 1) ∧ (dy = -1 ∨ dy = 0 ∨ dy = 1) ∧ ¬ (dx = 0 ∧ dy = 0) ∧ gd_sg X = dx ∧ gd_sg Y = dy ∧ k = 12 * (p / 12 + (if gd_sz X ≤ gd_sz Y then gd_sz Y else gd_sz X) * dy) + (p % 12 + (if gd_sz X ≤ gd_sz Y then gd_sz Y else gd_sz X) * dx) ∧ ∀ i : Int, 0 ≤ i → i ≤ (if gd_sz X ≤ gd_sz Y then gd_sz Y else gd_sz X) → gd_on (p % 12 + i * dx) (p / 12 + i * dy) := by
    intro dx dy u v e1 e2 e3 e4 e5 e6 c1 c2 z1 z2 u0 v0
    rw [e2, e4] at hq ha
    refine ⟨dx, dy, c1, c2, ?_, e1, e3, ?_⟩
    · rintro ⟨rfl, rfl⟩
      have := z1.mp rfl
      have := z2.mp rfl
      split at hq <;> omega
    · rw [e2, e4]
      have hd : u = 0 ∨ v = 0 ∨ u = v := by
        repeat' split at ha
        · rename_i h; left; apply z1.mp; rcases c1 with rfl | rfl | rfl <;> omega
        · rename_i h; right; left; apply z2.mp; rcases c2 with rfl | rfl | rfl <;> omega
        · right; right; assumption
        · exact absurd rfl ha
      unfold gd_on
      rcases c1 with rfl | rfl | rfl <;> rcases c2 with rfl | rfl | rfl
      all_goals (split <;> refine ⟨by omega, fun i hi hi2 => by omega⟩)
  rcases hX with h1 | h1 | h1 <;> rcases hY with h2 | h2 | h2
  all_goals (try subst h1)
  all_goals (try subst h2)
  · exact fin _ _ _ _ (sn X h1).1 (sn X h1).2 (sn Y h2).1 (sn Y h2).2 (by omega) (by omega) (by omega) (by omega) (by omega) (by omega) (by omega) (by omega)
  · exact fin _ _ _ _ (sn X h1).1 (sn X h1).2 s0.1 s0.2 (by omega) (by omega) (by omega) (by omega) (by omega) (by omega) (by omega) (by omega)
  · exact fin _ _ _ _ (sn X h1).1 (sn X h1).2 (sp Y h2).1 (sp Y h2).2 (by omega) (by omega) (by omega) (by omega) (by omega) (by omega) (by omega) (by omega)
  · exact fin _ _ _ _ s0.1 s0.2 (sn Y h2).1 (sn Y h2).2 (by omega) (by omega) (by omega) (by omega) (by omega) (by omega) (by omega) (by omega)
  · exact fin _ _ _ _ s0.1 s0.2 s0.1 s0.2 (by omega) (by omega) (by omega) (by omega) (by omega) (by omega) (by omega) (by omega)
  · exact fin _ _ _ _ s0.1 s0.2 (sp Y h2).1 (sp Y h2).2 (by omega) (by omega) (by omega) (by omega) (by omega) (by omega) (by omega) (by omega)
  · exact fin _ _ _ _ (sp X h1).1 (sp X h1).2 (sn Y h2).1 (sn Y h2).2 (by omega) (by omega) (by omega) (by omega) (by omega) (by omega) (by omega) (by omega)
  · exact fin _ _ _ _ (sp X h1).1 (sp X h1).2 s0.1 s0.2 (by omega) (by omega) (by omega) (by omega) (by omega) (by omega) (by omega) (by omega)
  · exact fin _ _ _ _ (sp X h1).1 (sp X h1).2 (sp Y h2).1 (sp Y h2).2 (by omega) (by omega) (by omega) (by omega) (by omega) (by omega) (by omega) (by omega)
theorem gd_h9_iff (g : gw_Mem) (x y : Int) (n : Nat) : gd_h9 g x y n ≠ 0 ↔ ∀ c : Nat, c < n → gd_hn g x y c = 0 := by
  induction n with
  | zero => exact ⟨fun _ c hc => by omega, fun _ => by rw [gd_h9]; omega⟩
  | succ n ih =>
    rw [gd_h9]
    by_cases h0 : gd_h9 g x y n = 0
    · rw [if_pos h0]
      exact ⟨fun z => absurd rfl z, fun z => absurd h0 (ih.mpr fun c hc => z c (by omega))⟩
    · rw [if_neg h0]
      have h1 := ih.mp h0
      by_cases h2 : gd_hn g x y n = 0
      · rw [if_pos h2]
        refine ⟨fun _ c hc => ?_, fun _ => by omega⟩
        by_cases e : c = n
        · rw [e]; exact h2
        · exact h1 c (by omega)
      · rw [if_neg h2]
        exact ⟨fun z => absurd rfl z, fun z => absurd (z n (by omega)) h2⟩
theorem gd_qf0 (p k : Int) : 0 ≤ gd_qf p k := by
  have hz : ∀ x : Int, 0 ≤ gd_sz x := fun x => by unfold gd_sz; split <;> omega
  have a := hz (gd_qx p k)
  have b := hz (gd_qy p k)
  unfold gd_qf
  split <;> omega
theorem gd_hz_reach (g : gw_Mem) (p k : Int) (h : gd_hz g p k ≠ 0) : gd_qf p k ≤ g 122 4 := by
  unfold gd_hz at h
  split at h
  · exact ((gd_hj_iff g p k _).mp h).1
  · exact ((gd_hj_iff g p k _).mp h).1
theorem gd_hz_to (g : gw_Mem) (p : Nat) (hp : p < 144) (M : Nat) (hM : M = 9) (h9 : gd_h9 g ((p : Int) % 12) ((p : Int) / 12) M ≠ 0) (k : Nat) (hk : k < 144) (h2 : g 126 (k : Int) = 2) (hr : gd_qf p k ≤ g 122 4) : gd_hz g p k ≠ 0 := by
  unfold gd_hz
  by_cases ha : gd_al p k = 0
  · rw [if_pos ha]
    exact (gd_hj_iff g p k 0).mpr ⟨hr, fun i hi => by omega⟩
  · rw [if_neg ha]
    refine (gd_hj_iff g p k _).mpr ⟨hr, fun i hi h1 => ?_⟩
    obtain ⟨dx, dy, c1, c2, c3, e1, e2, ek, hon⟩ := gd_dir2 (p := (p : Int)) (k := (k : Int)) (by omega) (by omega) ha (by omega)
    obtain ⟨c, hc9, hc4, hcx, hcy⟩ : ∃ c : Nat, c < 9 ∧ c ≠ 4 ∧ (c : Int) % 3 - 1 = dx ∧ (c : Int) / 3 - 1 = dy := ⟨(3 * (dy + 1) + (dx + 1)).toNat, by omega, by omega, by omega, by omega⟩
    have hn := (gd_h9_iff g _ _ M).mp h9 c (by omega)
    unfold gd_hn at hn
    rw [if_neg hc4, hcx, hcy] at hn
    have bx : gd_qf p k ≤ 11 := by
      unfold gd_qf gd_sz gd_qx gd_qy
      repeat' split
      all_goals omega
    refine gd_hd_to g _ _ dx dy (gd_qf p k) (by rw [← ek]; exact h2) 11 1 0 (by omega) (fun i h1 h2 => hon i (by omega) h2) (Or.inr ⟨(i : Int) + 1, by omega, ?_⟩) hn
    rw [e1, e2] at h1
    refine Eq.trans (congrArg (g 126) ?_) h1
    have d1 : ((i : Int) + 1) * (dx + 12 * dy) = ((i : Int) + 1) * dx + 12 * (((i : Int) + 1) * dy) := by rw [Int.mul_add, Int.mul_left_comm]
    rw [d1]
    generalize ((i : Int) + 1) * dx = u
    generalize ((i : Int) + 1) * dy = v
    omega
theorem gd_h9_to (g : gw_Mem) (p : Nat) (hp : p < 144) (M : Nat) (hM : M = 9) (h : ∀ k : Nat, k < 144 → g 126 (k : Int) = 2 → gd_hz g p k ≠ 0) : gd_h9 g ((p : Int) % 12) ((p : Int) / 12) M ≠ 0 := by
  refine (gd_h9_iff g _ _ M).mpr (fun c hc => Classical.byContradiction fun hn => ?_)
  unfold gd_hn at hn
  by_cases h4 : c = 4
  · rw [if_pos h4] at hn
    exact hn rfl
  · rw [if_neg h4] at hn
    have hdx : (c : Int) % 3 - 1 = -1 ∨ (c : Int) % 3 - 1 = 0 ∨ (c : Int) % 3 - 1 = 1 := by omega
    have hdy : (c : Int) / 3 - 1 = -1 ∨ (c : Int) / 3 - 1 = 0 ∨ (c : Int) / 3 - 1 = 1 := by omega
    have hne : ¬ ((c : Int) % 3 - 1 = 0 ∧ (c : Int) / 3 - 1 = 0) := by omega
    generalize (c : Int) % 3 - 1 = dx at *
    generalize (c : Int) / 3 - 1 = dy at *
    obtain ⟨j2, a1, a2, a3, a4⟩ := gd_hd_of g _ _ dx dy 11 1 0 hn
    rcases a4 with a4 | ⟨j1, a5, a6⟩
    · exact a4 rfl
    obtain ⟨d1, d2, d3, d4⟩ := gd_dir (x := (p : Int) % 12) (y := (p : Int) / 12) (dx := dx) (dy := dy) (j := j2) (by omega) (by omega) hdx hdy hne (by omega) a2
    have ep : 12 * ((p : Int) / 12) + (p : Int) % 12 = p := by omega
    rw [ep] at d1 d2 d3 d4
    have hb := a2
    unfold gd_on at hb
    obtain ⟨k, hk⟩ := gw_nat (x := 12 * ((p : Int) / 12 + j2 * dy) + ((p : Int) % 12 + j2 * dx)) (by omega)
    rw [hk] at d1 d2 d3 d4 a3
    have hz := h k (by omega) a3
    unfold gd_hz at hz
    rw [if_neg d2, d1] at hz
    have h6 := ((gd_hj_iff g p k _).mp hz).2 (j1 - 1).toNat (by omega)
    rw [d3, d4] at h6
    refine h6 (Eq.trans (congrArg (g 126) ?_) a6)
    rw [show (((j1 - 1).toNat : Nat) : Int) + 1 = j1 by omega, Int.mul_add, Int.mul_left_comm]
    generalize j1 * dx = u
    generalize j1 * dy = v
    omega
theorem gd_tp_far (g : gw_Mem) (hR : 0 ≤ g 122 4) (N M : Nat) (hN : N = 144) (hM : M = 9) (p : Nat) (hp : p < 144) : (gd_tp g (gd_b4 g N) M p = 0 ↔ gd_far g p < 0) ∧ (0 ≤ gd_far g p → gd_fb (gd_b4 g N) p = gd_far g p) := by
  have ef : gd_far g p = if g 126 p = 1 then -4 else gd_fv g p N := by rw [gd_far, hN]
  have i1 := gd_fv_iff g p N
  have ib := gd_fb_is g N hN p
  have ir := gd_fv_rng g p N
  rw [ef]
  unfold gd_tp
  generalize gd_fv g p N = F at *
  generalize gd_fb (gd_b4 g N) p = B at *
  by_cases h1 : g 126 (p : Int) = 1
  · rw [if_pos h1, if_pos h1]
    exact ⟨⟨fun _ => by omega, fun _ => rfl⟩, fun z => by omega⟩
  · rw [if_neg h1, if_neg h1]
    have val : 0 ≤ F → B = F := by
      intro hF
      obtain ⟨v1, v2⟩ := i1.2 hF
      obtain ⟨b1, b2⟩ := ib
      have q0 := fun k : Nat => gd_qf0 (p : Int) (k : Int)
      rcases v2 with v2 | ⟨k, k1, k2, k3⟩ <;> rcases b2 with b2 | ⟨j, j1, j2, j3⟩
      · omega
      · have := v1 j j1 j2
        have := b1 j j1 j2
        have := q0 j
        omega
      · have := b1 k k1 k2
        omega
      · have := b1 k k1 k2
        have := v1 j j1 j2
        omega
    refine ⟨?_, val⟩
    by_cases hF : F < 0
    · refine ⟨fun _ => hF, fun _ => ?_⟩
      by_cases c1 : g 122 4 < B
      · rw [if_pos c1]
      · rw [if_neg c1]
        by_cases c2 : gd_h9 g ((p : Int) % 12) ((p : Int) / 12) M = 0
        · rw [if_pos c2]
        · exfalso
          have := i1.1.mpr (fun k hk h2 => gd_hz_to g p hp M hM c2 k (by omega) h2 (by have := ib.1 k hk h2; omega))
          omega
    · have v := val (by omega)
      have hz := i1.1.mp (by omega)
      refine ⟨fun z => ?_, fun z => absurd z hF⟩
      exfalso
      have c1 : ¬ g 122 4 < B := by
        rcases ib.2 with b | ⟨k, k1, k2, k3⟩
        · omega
        · have := gd_hz_reach g p k (hz k k1 k2)
          omega
      have c2 := gd_h9_to g p hp M hM (fun k hk h2 => hz k (by omega) h2)
      rw [if_neg c1, if_neg c2] at z
      omega
theorem gd_sv_sd (g : gw_Mem) (hR : 0 ≤ g 122 4) (N M : Nat) (hN : N = 144) (hM : M = 9) (p : Nat) (hp : p ≤ 144) : gd_sv g (gd_b4 g N) M p = gd_sd g p := by
  induction p with
  | zero => rfl
  | succ p ih =>
    have e := ih (by omega)
    obtain ⟨t1, t2⟩ := gd_tp_far g hR N M hN hM p (by omega)
    have r := gd_sd_rng g p
    rw [gd_sv, gd_sd, e]
    generalize gd_sd g p = v at *
    generalize gd_b4 g N = B at *
    by_cases h : gd_far g p < 0
    · rw [if_pos h, if_pos (t1.mpr h)]
    · rw [if_neg h, if_neg (fun z => h (t1.mp z)), t2 (by omega)]
      by_cases c : v.2.1 < 0 ∨ gd_far g p < v.2.2
      · rw [if_pos c, if_pos (c.imp r.2.2.1.mpr id)]
      · rw [if_neg c, if_neg (fun z => c (z.imp r.2.2.1.mp id))]
theorem sp_X11_stand (g m : gw_Mem) (hJ : gd_JP g) (hP : gc_P g m 4) (w : Int) : gw_SpecI M_X11_stand 20 [gR 0, gI w] m (fun r m' => r = ga_stand g w ∧ ∀ o : Nat, o ≠ 23 → m' o = m o) := by
  refine gw_intro pl_X11_stand rfl (fun Γ => ?_)
  apply r_X11_stand_0
  refine gw_CI.eq (sp_X11_within w 0 2 m) rfl (gw_b_tf (fun h => ?_) (fun h1 => ?_))
  · exact ⟨_, rfl, by rw [ga_stand, if_neg h], fun _ _ => rfl⟩
  have e4 : m 22 4 = g 122 4 := hP.2.2.2.2.2.2.1 4 (by omega)
  have eS : ∀ j : Int, 0 ≤ j ∧ j < 144 → m 24 j = g 126 j := hP.2.2.2.2.2.2.2
  have hR : 0 ≤ g 122 4 := by
    have := hJ.2.2.2.2.2.2.2.1.2.2.2.2
    omega
  rw [e4]
  have eqv := gd_sv_sd g hR 144 9 rfl rfl 144 (by omega)
  have rng := gd_sd_rng g 144
  have sp := sp_X8_survey g m eS 144 9 rfl rfl
  rw [eqv] at sp
  have ea : ga_stand g w = if w = 0 then (gd_sd g 144).1 else if w = 1 then (gd_sd g 144).2.1 else (gd_sd g 144).2.2 := by rw [ga_stand, if_pos h1]
  rw [ea]
  clear eqv ea
  generalize gd_sd g 144 = v at *
  refine gw_CV.of sp rfl (fun m4 _ hq => ?_)
  obtain ⟨⟨q1, q2⟩, qf⟩ := hq
  rw [q1]
  refine ⟨fun hw => ⟨_, rfl, by rw [if_pos hw], qf⟩, fun hw => ⟨fun hn => ⟨_, rfl, ?_, qf⟩, fun hn => ⟨_, rfl, ?_, qf⟩⟩⟩
  · have := rng.2.2.2 hn
    rw [if_neg hw, this]
    split <;> rfl
  · rw [if_neg hw, (q2 hn).1, (q2 hn).2]
