/-! images go along -/
def gd_ag (g g' : gw_Mem) : Prop := g' 117 0 = g 117 0 ∧ g' 117 6 = g 117 6 ∧ (∀ j : Int, 0 ≤ j ∧ j < 4 → g' 118 j = g 118 j) ∧ (∀ j : Int, 0 ≤ j ∧ j < 32 → g' 119 j = g 119 j ∧ g' 120 j = g 120 j) ∧ (∀ j : Int, 0 ≤ j ∧ j < 8 → g' 121 j = g 121 j) ∧ (∀ j : Int, 0 ≤ j ∧ j < 5 → g' 122 j = g 122 j) ∧ (∀ j : Int, 0 ≤ j ∧ j < 10 → g' 123 j = g 123 j ∧ g' 124 j = g 124 j ∧ g' 125 j = g 125 j) ∧ (∀ j : Int, 0 ≤ j ∧ j < 144 → g' 126 j = g 126 j)
theorem gd_JP_ag {g g' : gw_Mem} (h : gd_JP g) (a : gd_ag g g') : gd_JP g' := by
  obtain ⟨j1, j2, j3, j4, j5, j6, j7, j8, j9⟩ := h
  obtain ⟨a1, a2, a3, a4, a5, a6, a7, a8⟩ := a
  have s : ∀ k : Int, 0 ≤ k ∧ k ≤ 3 → g' 118 k = g 118 k := fun k hk => a3 k (by omega)
  refine ⟨by rw [a1]; exact j1, fun k hk => by rw [s k hk]; exact j2 k hk, fun k j hk hj => ?_, fun j hj => ?_, by rw [a2]; exact j5, fun j hj => ?_, fun i j hi hj h1 h2 => ?_, ?_, fun j hj => by rw [a8 j hj]; exact j9 j hj⟩
  · rw [s k hk] at hj
    have hz := j2 k hk
    have := a4 (8 * k + j) (by omega)
    rw [this.1, this.2]
    exact j3 k j hk hj
  · rw [s 0 (by omega)] at hj
    have hz := j2 0 (by omega)
    rw [a5 j (by omega)]
    exact j4 j hj
  · rw [a2] at hj
    have := a7 j (by omega)
    rw [this.1, this.2.1, this.2.2]
    exact j6 j hj
  · rw [a2] at hi hj
    rw [(a7 i (by omega)).1] at h1
    rw [(a7 j (by omega)).1] at h2
    exact j7 i j hi hj h1 h2
  · rw [a6 0 (by omega), a6 1 (by omega), a6 2 (by omega), a6 3 (by omega), a6 4 (by omega)]
    exact j8
theorem gc_P_ag {g g' m : gw_Mem} {b : Nat} (hJ : gd_JP g) (h : gc_P g m b) (a : gd_ag g g') : gc_P g' m b := by
  obtain ⟨p1, p2, p3, p4, p5, p6, p7, p8⟩ := h
  obtain ⟨a1, a2, a3, a4, a5, a6, a7, a8⟩ := a
  have s : ∀ k : Int, 0 ≤ k ∧ k ≤ 3 → g' 118 k = g 118 k := fun k hk => a3 k (by omega)
  refine ⟨by rw [a1]; exact p1, fun k hk => by rw [s k hk]; exact p2 k hk, fun k j hk hj => ?_, fun j hj => ?_, by rw [a2]; exact p5, fun j hj => ?_, fun j hj => by rw [a6 j hj]; exact p7 j hj, fun j hj => by rw [a8 j hj]; exact p8 j hj⟩
  · rw [s k hk] at hj
    have hz := hJ.2.1 k hk
    have := a4 (8 * k + j) (by omega)
    rw [this.1, this.2]
    exact p3 k j hk hj
  · rw [s 0 (by omega)] at hj
    have hz := hJ.2.1 0 (by omega)
    rw [a5 j (by omega)]
    exact p4 j hj
  · rw [a2] at hj
    have hz := hJ.2.2.2.2.1
    have := a7 j (by omega)
    rw [this.1, this.2.1, this.2.2]
    exact p6 j hj
/-- a plan taken over: what its rows hold -/
theorem gc_pl_rows {m : gw_Mem} {b c : Nat} (h : b + 21 ≤ c ∨ c + 21 ≤ b) : gc_pl m b c b 0 = m c 0 ∧ (∀ k : Int, 0 ≤ k ∧ k ≤ 3 → gc_pl m b c (b + 2) k = m (c + 2) k) ∧
    (∀ k j : Int, 0 ≤ k ∧ k ≤ 3 → 0 ≤ j ∧ j < 8 → gc_pl m b c (b + 6 + k.toNat) j = m (c + 6 + k.toNat) j ∧ gc_pl m b c (b + 10 + k.toNat) j = m (c + 10 + k.toNat) j) ∧
    (∀ j : Int, 0 ≤ j ∧ j < 8 → gc_pl m b c (b + 5) j = m (c + 5) j) ∧ gc_pl m b c (b + 14) 0 = m (c + 14) 0 ∧
    (∀ j : Int, 0 ≤ j ∧ j < 10 → gc_pl m b c (b + 15) j = m (c + 15) j ∧ gc_pl m b c (b + 16) j = m (c + 16) j ∧ gc_pl m b c (b + 17) j = m (c + 17) j) ∧
    (∀ j : Int, 0 ≤ j ∧ j < 5 → gc_pl m b c (b + 18) j = m (c + 18) j) ∧ (∀ j : Int, 0 ≤ j ∧ j < 144 → gc_pl m b c (b + 20) j = m (c + 20) j) := by
  have k4 : ∀ k : Int, 0 ≤ k ∧ k ≤ 3 → k = 0 ∨ k = 1 ∨ k = 2 ∨ k = 3 := fun k hk => by omega
  unfold gc_pl gc_ptake gc_take gc_tk1
  refine ⟨?_, fun k hk => ?_, fun k j hk hj => ?_, fun j hj => ?_, ?_, fun j hj => ⟨?_, ?_, ?_⟩, fun j hj => ?_, fun j hj => ?_⟩
  · simp (disch := omega) only [gw_cp_ne, gw_up_ne, gw_up_at]
    rw [if_pos trivial]
  · rw [show b + 2 = b + 1 + 1 by omega, show c + 2 = c + 1 + 1 by omega]
    rcases k4 k hk with rfl | rfl | rfl | rfl <;> simp (disch := omega) [gw_cp_ne, gw_up_ne, gw_up_at]
  · rcases k4 k hk with rfl | rfl | rfl | rfl
    · refine ⟨?_, ?_⟩
      · rw [show b + 6 + (0 : Int).toNat = b + 1 + 5 + 0 by simp, show c + 6 + (0 : Int).toNat = c + 1 + 5 + 0 by simp]
        simp (disch := omega) only [gw_cp_ne, gw_up_ne]
        rw [gw_cpa, if_pos (by omega)]
        simp (disch := omega) only [gw_cp_ne, gw_up_ne]
        congr 1
        omega
      · rw [show b + 10 + (0 : Int).toNat = b + 1 + 9 + 0 by simp, show c + 10 + (0 : Int).toNat = c + 1 + 9 + 0 by simp]
        simp (disch := omega) only [gw_cp_ne, gw_up_ne]
        rw [gw_cpa, if_pos (by omega)]
        simp (disch := omega) only [gw_cp_ne, gw_up_ne]
        congr 1
        omega
    · refine ⟨?_, ?_⟩
      · rw [show b + 6 + (1 : Int).toNat = b + 1 + 5 + 1 by simp, show c + 6 + (1 : Int).toNat = c + 1 + 5 + 1 by simp]
        simp (disch := omega) only [gw_cp_ne, gw_up_ne]
        rw [gw_cpa, if_pos (by omega)]
        simp (disch := omega) only [gw_cp_ne, gw_up_ne]
        congr 1
        omega
      · rw [show b + 10 + (1 : Int).toNat = b + 1 + 9 + 1 by simp, show c + 10 + (1 : Int).toNat = c + 1 + 9 + 1 by simp]
        simp (disch := omega) only [gw_cp_ne, gw_up_ne]
        rw [gw_cpa, if_pos (by omega)]
        simp (disch := omega) only [gw_cp_ne, gw_up_ne]
        congr 1
        omega
    · refine ⟨?_, ?_⟩
      · rw [show b + 6 + (2 : Int).toNat = b + 1 + 5 + 2 by simp, show c + 6 + (2 : Int).toNat = c + 1 + 5 + 2 by simp]
        simp (disch := omega) only [gw_cp_ne, gw_up_ne]
        rw [gw_cpa, if_pos (by omega)]
        simp (disch := omega) only [gw_cp_ne, gw_up_ne]
        congr 1
        omega
      · rw [show b + 10 + (2 : Int).toNat = b + 1 + 9 + 2 by simp, show c + 10 + (2 : Int).toNat = c + 1 + 9 + 2 by simp]
        simp (disch := omega) only [gw_cp_ne, gw_up_ne]
        rw [gw_cpa, if_pos (by omega)]
        simp (disch := omega) only [gw_cp_ne, gw_up_ne]
        congr 1
        omega
    · refine ⟨?_, ?_⟩
      · rw [show b + 6 + (3 : Int).toNat = b + 1 + 5 + 3 by simp, show c + 6 + (3 : Int).toNat = c + 1 + 5 + 3 by simp]
        simp (disch := omega) only [gw_cp_ne, gw_up_ne]
        rw [gw_cpa, if_pos (by omega)]
        simp (disch := omega) only [gw_cp_ne, gw_up_ne]
        congr 1
        omega
      · rw [show b + 10 + (3 : Int).toNat = b + 1 + 9 + 3 by simp, show c + 10 + (3 : Int).toNat = c + 1 + 9 + 3 by simp]
        simp (disch := omega) only [gw_cp_ne, gw_up_ne]
        rw [gw_cpa, if_pos (by omega)]
        simp (disch := omega) only [gw_cp_ne, gw_up_ne]
        congr 1
        omega
  · rw [show b + 5 = b + 1 + 4 by omega, show c + 5 = c + 1 + 4 by omega]
    simp (disch := omega) only [gw_cp_ne, gw_up_ne]
    rw [gw_cpa, if_pos (by omega)]
    simp (disch := omega) only [gw_cp_ne, gw_up_ne]
    congr 1
    omega
  · simp (disch := omega) only [gw_cp_ne]
    rw [gw_up_at, if_pos rfl]
    simp (disch := omega) only [gw_cp_ne, gw_up_ne]
  · rw [show b + 15 = b + 14 + 1 by omega, show c + 15 = c + 14 + 1 by omega]
    simp (disch := omega) only [gw_cp_ne, gw_up_ne]
    rw [gw_cpa, if_pos (by omega)]
    simp (disch := omega) only [gw_cp_ne, gw_up_ne]
    congr 1
    omega
  · rw [show b + 16 = b + 14 + 2 by omega, show c + 16 = c + 14 + 2 by omega]
    simp (disch := omega) only [gw_cp_ne, gw_up_ne]
    rw [gw_cpa, if_pos (by omega)]
    simp (disch := omega) only [gw_cp_ne, gw_up_ne]
    congr 1
    omega
  · rw [show b + 17 = b + 14 + 3 by omega, show c + 17 = c + 14 + 3 by omega]
    simp (disch := omega) only [gw_cp_ne, gw_up_ne]
    rw [gw_cpa, if_pos (by omega)]
    simp (disch := omega) only [gw_cp_ne, gw_up_ne]
    congr 1
    omega
  · simp (disch := omega) only [gw_cp_ne]
    rw [gw_cpa, if_pos (by omega)]
    simp (disch := omega) only [gw_cp_ne, gw_up_ne]
    congr 1
    omega
  · rw [gw_cpa, if_pos (by omega)]
    simp (disch := omega) only [gw_cp_ne, gw_up_ne]
    congr 1
    omega
theorem gc_pl_ne {m : gw_Mem} {b c o : Nat} (h : o < b ∨ b + 21 ≤ o) : gc_pl m b c o = m o := by
  unfold gc_pl gc_ptake gc_take gc_tk1
  simp (disch := omega) only [gw_cp_ne, gw_up_ne]
theorem gc_pl_P {g m : gw_Mem} {b c : Nat} (hJ : gd_JP g) (hP : gc_P g m c) (h : b + 21 ≤ c ∨ c + 21 ≤ b) : gc_P g (gc_pl m b c) b := by
  obtain ⟨p1, p2, p3, p4, p5, p6, p7, p8⟩ := hP
  obtain ⟨r1, r2, r3, r4, r5, r6, r7, r8⟩ := gc_pl_rows (m := m) h
  refine ⟨by rw [r1]; exact p1, fun k hk => by rw [r2 k hk]; exact p2 k hk, fun k j hk hj => ?_, fun j hj => ?_, by rw [r5]; exact p5, fun j hj => ?_, fun j hj => by rw [r7 j hj]; exact p7 j hj, fun j hj => by rw [r8 j hj]; exact p8 j hj⟩
  · have hz := hJ.2.1 k hk
    have := r3 k j hk (by omega)
    rw [this.1, this.2]
    exact p3 k j hk hj
  · have hz := hJ.2.1 0 (by omega)
    rw [r4 j (by omega)]
    exact p4 j hj
  · have hz := hJ.2.2.2.2.1
    have := r6 j (by omega)
    rw [this.1, this.2.1, this.2.2]
    exact p6 j hj
/-- what an image keeps is the plan -/
theorem gd_img_ag (g : gw_Mem) : gd_ag g (gd_img (gu_image g)) := by
  have e : ∀ j : Int, gu_image g 137 j = if j = 256 then g 117 6 else if j = 255 then g 117 0 else gu_image0 g 137 j := by
    intro j
    unfold gu_image
    rw [gw_up_ne (show (137 : Nat) ≠ 117 by decide), gw_up_at, gw_up_at]
  have i0 : ∀ j : Int, gu_image0 g 137 j = if 111 ≤ j ∧ j < 111 + 144 then g 126 (0 + (j - 111)) else if 101 ≤ j ∧ j < 101 + 10 then g 125 (0 + (j - 101)) else if 91 ≤ j ∧ j < 91 + 10 then g 124 (0 + (j - 91)) else if 81 ≤ j ∧ j < 81 + 10 then g 123 (0 + (j - 81)) else if 76 ≤ j ∧ j < 76 + 5 then g 122 (0 + (j - 76)) else if 68 ≤ j ∧ j < 68 + 8 then g 121 (0 + (j - 68)) else if 36 ≤ j ∧ j < 36 + 32 then g 120 (0 + (j - 36)) else if 4 ≤ j ∧ j < 4 + 32 then g 119 (0 + (j - 4)) else if 0 ≤ j ∧ j < 0 + 4 then g 118 (0 + (j - 0)) else g 137 j := by
    intro j
    unfold gu_image0
    simp (disch := omega) only [gw_cpa, gw_cp_ne]
  have w : ∀ (o : Nat) (a b : Int), a = b → g o a = g o b := fun o a b h => by rw [h]
  refine ⟨?_, ?_, fun j hj => ?_, fun j hj => ⟨?_, ?_⟩, fun j hj => ?_, fun j hj => ?_, fun j hj => ⟨?_, ?_, ?_⟩, fun j hj => ?_⟩
  · show gu_image g 137 255 = g 117 0
    rw [e, if_neg (by omega), if_pos rfl]
  · show gu_image g 137 256 = g 117 6
    rw [e, if_pos rfl]
  · show gu_image g 137 j = g 118 j
    rw [e, if_neg (by omega), if_neg (by omega), i0, if_neg (by omega), if_neg (by omega), if_neg (by omega), if_neg (by omega), if_neg (by omega), if_neg (by omega), if_neg (by omega), if_neg (by omega), if_pos (by omega)]
    exact w _ _ _ (by omega)
  · show gu_image g 137 (4 + j) = g 119 j
    rw [e, if_neg (by omega), if_neg (by omega), i0, if_neg (by omega), if_neg (by omega), if_neg (by omega), if_neg (by omega), if_neg (by omega), if_neg (by omega), if_neg (by omega), if_pos (by omega)]
    exact w _ _ _ (by omega)
  · show gu_image g 137 (36 + j) = g 120 j
    rw [e, if_neg (by omega), if_neg (by omega), i0, if_neg (by omega), if_neg (by omega), if_neg (by omega), if_neg (by omega), if_neg (by omega), if_neg (by omega), if_pos (by omega)]
    exact w _ _ _ (by omega)
  · show gu_image g 137 (68 + j) = g 121 j
    rw [e, if_neg (by omega), if_neg (by omega), i0, if_neg (by omega), if_neg (by omega), if_neg (by omega), if_neg (by omega), if_neg (by omega), if_pos (by omega)]
    exact w _ _ _ (by omega)
  · show gu_image g 137 (76 + j) = g 122 j
    rw [e, if_neg (by omega), if_neg (by omega), i0, if_neg (by omega), if_neg (by omega), if_neg (by omega), if_neg (by omega), if_pos (by omega)]
    exact w _ _ _ (by omega)
  · show gu_image g 137 (81 + j) = g 123 j
    rw [e, if_neg (by omega), if_neg (by omega), i0, if_neg (by omega), if_neg (by omega), if_neg (by omega), if_pos (by omega)]
    exact w _ _ _ (by omega)
  · show gu_image g 137 (91 + j) = g 124 j
    rw [e, if_neg (by omega), if_neg (by omega), i0, if_neg (by omega), if_neg (by omega), if_pos (by omega)]
    exact w _ _ _ (by omega)
  · show gu_image g 137 (101 + j) = g 125 j
    rw [e, if_neg (by omega), if_neg (by omega), i0, if_neg (by omega), if_pos (by omega)]
    exact w _ _ _ (by omega)
  · show gu_image g 137 (111 + j) = g 126 j
    rw [e, if_neg (by omega), if_neg (by omega), i0, if_pos (by omega)]
    exact w _ _ _ (by omega)
theorem gd_restore_ag (g : gw_Mem) : gd_ag (gd_img g) (gu_restore g) := by
  have w : ∀ (a b : Int), a = b → g 137 a = g 137 b := fun a b h => by rw [h]
  unfold gu_restore
  refine ⟨?_, ?_, fun j hj => ?_, fun j hj => ⟨?_, ?_⟩, fun j hj => ?_, fun j hj => ?_, fun j hj => ⟨?_, ?_, ?_⟩, fun j hj => ?_⟩
  · rw [gw_up_at, if_neg (by omega), gw_up_at, if_pos rfl]
    rfl
  · rw [gw_up_at, if_pos rfl]
    rfl
  · simp (disch := omega) only [gw_up_ne, gw_cp_ne]
    rw [gw_cpa, if_pos (by omega)]
    exact w _ _ (by omega)
  · simp (disch := omega) only [gw_up_ne, gw_cp_ne]
    rw [gw_cpa, if_pos (by omega)]
    simp (disch := omega) only [gw_up_ne, gw_cp_ne]
    exact w _ _ (by omega)
  · simp (disch := omega) only [gw_up_ne, gw_cp_ne]
    rw [gw_cpa, if_pos (by omega)]
    simp (disch := omega) only [gw_up_ne, gw_cp_ne]
    exact w _ _ (by omega)
  · simp (disch := omega) only [gw_up_ne, gw_cp_ne]
    rw [gw_cpa, if_pos (by omega)]
    simp (disch := omega) only [gw_up_ne, gw_cp_ne]
    exact w _ _ (by omega)
  · simp (disch := omega) only [gw_up_ne, gw_cp_ne]
    rw [gw_cpa, if_pos (by omega)]
    simp (disch := omega) only [gw_up_ne, gw_cp_ne]
    exact w _ _ (by omega)
  · simp (disch := omega) only [gw_up_ne, gw_cp_ne]
    rw [gw_cpa, if_pos (by omega)]
    simp (disch := omega) only [gw_up_ne, gw_cp_ne]
    exact w _ _ (by omega)
  · simp (disch := omega) only [gw_up_ne, gw_cp_ne]
    rw [gw_cpa, if_pos (by omega)]
    simp (disch := omega) only [gw_up_ne, gw_cp_ne]
    exact w _ _ (by omega)
  · simp (disch := omega) only [gw_up_ne, gw_cp_ne]
    rw [gw_cpa, if_pos (by omega)]
    simp (disch := omega) only [gw_up_ne, gw_cp_ne]
    exact w _ _ (by omega)
  · simp (disch := omega) only [gw_up_ne]
    rw [gw_cpa, if_pos (by omega)]
    simp (disch := omega) only [gw_up_ne, gw_cp_ne]
    exact w _ _ (by omega)
theorem gu_restore_ne (g : gw_Mem) : (∀ o : Nat, o ≠ 117 → (o < 118 ∨ 126 < o) → gu_restore g o = g o) ∧ (∀ j : Int, j ≠ 0 → j ≠ 6 → gu_restore g 117 j = g 117 j) := by
  unfold gu_restore
  refine ⟨fun o h1 h2 => ?_, fun j h1 h2 => ?_⟩
  · simp (disch := omega) only [gw_up_ne, gw_cp_ne]
  · rw [gw_up_at, if_neg h2, gw_up_at, if_neg h1]
    simp (disch := omega) only [gw_cp_ne]
theorem gu_image_ne (g : gw_Mem) : (∀ o : Nat, o ≠ 117 → o ≠ 137 → gu_image g o = g o) ∧ (∀ j : Int, j ≠ 34 → gu_image g 117 j = g 117 j) ∧ gu_image g 117 34 = 1 := by
  unfold gu_image gu_image0
  refine ⟨fun o h1 h2 => ?_, fun j h1 => ?_, by rw [gw_up_at, if_pos rfl]⟩
  · simp (disch := omega) only [gw_up_ne, gw_cp_ne]
  · rw [gw_up_at, if_neg h1]
    simp (disch := omega) only [gw_up_ne, gw_cp_ne]
