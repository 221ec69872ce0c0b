/-! how the relation goes along with changes -/
theorem gc_I_congr {g g' m m' : gw_Mem} (h : gc_I g m) (h0 : m' 0 2 = m 0 2) (hm : ∀ o : Nat, 25 ≤ o → o < 46 → m' o = m o) (h34 : g' 117 34 = g 117 34) (h137 : g' 137 = g 137) : gc_I g' m' := by
  refine ⟨by rw [h0, h34]; exact h.1, fun z => ?_⟩
  have e : gd_img g' = gd_img g := by
    funext o j
    unfold gd_img
    rw [h137]
  rw [e]
  have hp := h.2 (by rw [← h34]; exact z)
  obtain ⟨p1, p2, p3, p4, p5, p6, p7, p8⟩ := hp
  refine ⟨by rw [hm 25 (by omega) (by omega)]; exact p1, fun k hk => by rw [hm _ (by omega) (by omega)]; exact p2 k hk, fun k j hk hj => ?_, fun j hj => by rw [hm _ (by omega) (by omega)]; exact p4 j hj, by rw [hm _ (by omega) (by omega)]; exact p5, fun j hj => ?_, fun j hj => by rw [hm _ (by omega) (by omega)]; exact p7 j hj, fun j hj => by rw [hm _ (by omega) (by omega)]; exact p8 j hj⟩
  · rw [hm _ (by omega) (by omega), hm _ (by omega) (by omega)]
    exact p3 k j hk hj
  · rw [hm _ (by omega) (by omega), hm _ (by omega) (by omega), hm _ (by omega) (by omega)]
    exact p6 j hj
theorem gc_T_congr {g g' m m' : gw_Mem} (h : gc_T g m) (h0 : m' 46 = m 46) (h1 : m' 47 = m 47) (h12 : g' 117 12 = g 117 12) (h127 : g' 127 = g 127) : gc_T g' m' := by
  refine ⟨by rw [h0, h12]; exact h.1, fun j hj => ?_⟩
  rw [h1, h127]
  exact h.2 j (by rw [← h12]; exact hj)
theorem gc_S_congr {g g' m m' : gw_Mem} (h : gc_S g m) (hm : ∀ o : Nat, 109 ≤ o → o < 117 → m' o = m o) (h8 : g' 138 = g 138) (h9 : g' 139 = g 139) (h0 : g' 140 = g 140) : gc_S g' m' := by
  intro s hs
  obtain ⟨a, b, c⟩ := h s hs
  refine ⟨by rw [hm _ (by omega) (by omega), h8]; exact a, by rw [hm _ (by omega) (by omega), h9]; exact b, fun j hj => by rw [hm _ (by omega) (by omega), h0]; exact c j hj⟩
theorem gc_P_congr {g g' m m' : gw_Mem} {b : Nat} (h : gc_P g m b) (hm : ∀ o : Nat, b ≤ o → o < b + 21 → m' o = m o) (h0 : g' 117 0 = g 117 0) (h6 : g' 117 6 = g 117 6) (h8 : g' 118 = g 118) (h9 : g' 119 = g 119) (h20 : g' 120 = g 120) (h21 : g' 121 = g 121) (h22 : g' 122 = g 122) (h23 : g' 123 = g 123) (h24 : g' 124 = g 124) (h25 : g' 125 = g 125) (h26 : g' 126 = g 126) : gc_P g' m' b := by
  obtain ⟨p1, p2, p3, p4, p5, p6, p7, p8⟩ := h
  unfold gc_P
  rw [h0, h6, h8, h9, h20, h21, h22, h23, h24, h25, h26]
  refine ⟨by rw [hm _ (by omega) (by omega)]; exact p1, fun k hk => by rw [hm _ (by omega) (by omega)]; exact p2 k hk, fun k j hk hj => ?_, fun j hj => by rw [hm _ (by omega) (by omega)]; exact p4 j hj, by rw [hm _ (by omega) (by omega)]; exact p5, fun j hj => ?_, fun j hj => by rw [hm _ (by omega) (by omega)]; exact p7 j hj, fun j hj => by rw [hm _ (by omega) (by omega)]; exact p8 j hj⟩
  · rw [hm _ (by omega) (by omega), hm _ (by omega) (by omega)]
    exact p3 k j hk hj
  · rw [hm _ (by omega) (by omega), hm _ (by omega) (by omega), hm _ (by omega) (by omega)]
    exact p6 j hj
theorem gd_JP_congr {g g' : gw_Mem} (h : gd_JP g) (h0 : g' 117 0 = g 117 0) (h6 : g' 117 6 = g 117 6) (h8 : g' 118 = g 118) (h9 : g' 119 = g 119) (h20 : g' 120 = g 120) (h21 : g' 121 = g 121) (h22 : g' 122 = g 122) (h23 : g' 123 = g 123) (h24 : g' 124 = g 124) (h25 : g' 125 = g 125) (h26 : g' 126 = g 126) : gd_JP g' := by
  unfold gd_JP
  rw [h0, h6, h8, h9, h20, h21, h22, h23, h24, h25, h26]
  exact h
theorem gd_JI_congr {g g' : gw_Mem} (h : gd_JI g) (h34 : g' 117 34 = g 117 34) (h137 : g' 137 = g 137) : gd_JI g' := by
  have e : gd_img g' = gd_img g := by
    funext o j
    unfold gd_img
    rw [h137]
  unfold gd_JI
  rw [h34, e]
  exact h
theorem gd_JT_congr {g g' : gw_Mem} (h : gd_JT g) (h12 : g' 117 12 = g 117 12) (h127 : g' 127 = g 127) : gd_JT g' := by
  unfold gd_JT
  rw [h12, h127]
  exact h
theorem gd_JS_congr {g g' : gw_Mem} (h : gd_JS g) (h8 : g' 138 = g 138) (h9 : g' 139 = g 139) : gd_JS g' := by
  unfold gd_JS
  rw [h8, h9]
  exact h
/-! each change of the plan -/
theorem gd_JP_end {g : gw_Mem} (h : gd_JP g) {v : Int} (hv : 10 ≤ v ∧ v ≤ 99) : gd_JP (gw_up g 117 0 v) := by
  obtain ⟨j1, j2, j3, j4, j5, j6, j7, j8, j9⟩ := h
  unfold gd_JP
  simp (disch := omega) only [gw_up_ne]
  have e6 : gw_up g 117 0 v 117 6 = g 117 6 := by rw [gw_up_at, if_neg (by omega)]
  have e0 : gw_up g 117 0 v 117 0 = v := by rw [gw_up_at, if_pos rfl]
  rw [e6, e0]
  exact ⟨hv, j2, j3, j4, j5, j6, j7, j8, j9⟩
theorem gc_P_end {g m : gw_Mem} {b : Nat} (h : gc_P g m b) {v : Int} : gc_P (gw_up g 117 0 v) (gw_up m b 0 v) b := by
  obtain ⟨p1, p2, p3, p4, p5, p6, p7, p8⟩ := h
  unfold gc_P
  simp (disch := omega) only [gw_up_ne]
  have e6 : gw_up g 117 0 v 117 6 = g 117 6 := by rw [gw_up_at, if_neg (by omega)]
  have e0 : gw_up g 117 0 v 117 0 = v := by rw [gw_up_at, if_pos rfl]
  rw [e6, e0]
  exact ⟨by rw [gw_up_at, if_pos rfl], p2, p3, p4, p5, p6, p7, p8⟩
theorem gd_JP_value {g : gw_Mem} (h : gd_JP g) {j v : Int} (hv : 0 ≤ v ∧ v ≤ 99) : gd_JP (gw_up g 121 j v) := by
  obtain ⟨j1, j2, j3, j4, j5, j6, j7, j8, j9⟩ := h
  unfold gd_JP
  simp (disch := omega) only [gw_up_ne]
  refine ⟨j1, j2, j3, fun i hi => ?_, j5, j6, j7, j8, j9⟩
  rw [gw_up_at]
  split
  · exact hv
  · exact j4 i hi
theorem gc_P_value {g m : gw_Mem} {b : Nat} (h : gc_P g m b) {j v : Int} : gc_P (gw_up g 121 j v) (gw_up m (b + 5) j v) b := by
  obtain ⟨p1, p2, p3, p4, p5, p6, p7, p8⟩ := h
  unfold gc_P
  simp (disch := omega) only [gw_up_ne]
  refine ⟨p1, p2, p3, fun i hi => ?_, p5, p6, p7, p8⟩
  rw [gw_up_at, gw_up_at]
  split
  · rfl
  · exact p4 i hi
theorem gd_JP_rule {g : gw_Mem} (h : gd_JP g) {w v : Int} (hv : (0 ≤ w ∧ w ≤ 4) ∧ gd_rlo w ≤ v ∧ v ≤ gd_rhi w) : gd_JP (gw_up g 122 w v) := by
  obtain ⟨j1, j2, j3, j4, j5, j6, j7, j8, j9⟩ := h
  unfold gd_JP
  simp (disch := omega) only [gw_up_ne]
  refine ⟨j1, j2, j3, j4, j5, j6, j7, ?_, j9⟩
  simp only [gw_up_at]
  have hw : w = 0 ∨ w = 1 ∨ w = 2 ∨ w = 3 ∨ w = 4 := by omega
  rcases hw with rfl | rfl | rfl | rfl | rfl <;> simp [gd_rlo, gd_rhi] at hv ⊢ <;> omega
theorem gc_P_rule {g m : gw_Mem} {b : Nat} (h : gc_P g m b) {w v : Int} : gc_P (gw_up g 122 w v) (gw_up m (b + 18) w v) b := by
  obtain ⟨p1, p2, p3, p4, p5, p6, p7, p8⟩ := h
  unfold gc_P
  simp (disch := omega) only [gw_up_ne]
  refine ⟨p1, p2, fun k j hk hj => by rw [gw_up_ne (by omega), gw_up_ne (by omega)]; exact p3 k j hk hj, p4, p5, p6, fun i hi => ?_, p8⟩
  rw [gw_up_at, gw_up_at]
  split
  · rfl
  · exact p7 i hi
theorem gd_JP_square {g : gw_Mem} (h : gd_JP g) {w v : Int} (hv : 0 ≤ v ∧ v ≤ 2) : gd_JP (gw_up g 126 w v) := by
  obtain ⟨j1, j2, j3, j4, j5, j6, j7, j8, j9⟩ := h
  unfold gd_JP
  simp (disch := omega) only [gw_up_ne]
  refine ⟨j1, j2, j3, j4, j5, j6, j7, j8, fun i hi => ?_⟩
  rw [gw_up_at]
  split
  · exact hv
  · exact j9 i hi
theorem gc_P_square {g m : gw_Mem} {b : Nat} (h : gc_P g m b) {w v : Int} : gc_P (gw_up g 126 w v) (gw_up m (b + 20) w v) b := by
  obtain ⟨p1, p2, p3, p4, p5, p6, p7, p8⟩ := h
  unfold gc_P
  simp (disch := omega) only [gw_up_ne]
  refine ⟨p1, p2, fun k j hk hj => by rw [gw_up_ne (by omega), gw_up_ne (by omega)]; exact p3 k j hk hj, p4, p5, p6, p7, fun i hi => ?_⟩
  rw [gw_up_at, gw_up_at]
  split
  · rfl
  · exact p8 i hi
theorem gd_JP_joins {g : gw_Mem} (h : gd_JP g) {k p e : Int} (hk : 0 ≤ k ∧ k ≤ 3) (hp : 1 ≤ p ∧ p ≤ 4) (he : gw_b e) (ht : ¬ (k = 3 ∧ 0 ≤ gd_tl g (g 117 6).toNat)) (hn : g 117 6 < 10) : gd_JP (gd_joins g k p e) := by
  obtain ⟨j1, j2, j3, j4, j5, j6, j7, j8, j9⟩ := h
  have en : gd_joins g k p e 117 6 = g 117 6 + 1 := by unfold gd_joins; rw [gw_up_at, if_pos rfl]
  have e0 : gd_joins g k p e 117 0 = g 117 0 := by unfold gd_joins; rw [gw_up_at, if_neg (by omega)]; simp (disch := omega) only [gw_up_ne]
  have e3 : ∀ j, gd_joins g k p e 123 j = if j = g 117 6 then k else g 123 j := by intro j; unfold gd_joins; simp (disch := omega) only [gw_up_ne]; rw [gw_up_at]
  have e4 : ∀ j, gd_joins g k p e 124 j = if j = g 117 6 then p else g 124 j := by intro j; unfold gd_joins; simp (disch := omega) only [gw_up_ne]; rw [gw_up_at]; simp (disch := omega) only [gw_up_ne]
  have e5 : ∀ j, gd_joins g k p e 125 j = if j = g 117 6 then e else g 125 j := by intro j; unfold gd_joins; simp (disch := omega) only [gw_up_ne]; rw [gw_up_at]; simp (disch := omega) only [gw_up_ne]
  have er : ∀ o : Nat, o ≠ 117 → o ≠ 123 → o ≠ 124 → o ≠ 125 → gd_joins g k p e o = g o := by intro o h1 h2 h3 h4; unfold gd_joins; simp (disch := omega) only [gw_up_ne]
  unfold gd_JP
  rw [en, e0, er 118 (by omega) (by omega) (by omega) (by omega), er 119 (by omega) (by omega) (by omega) (by omega), er 120 (by omega) (by omega) (by omega) (by omega), er 121 (by omega) (by omega) (by omega) (by omega), er 122 (by omega) (by omega) (by omega) (by omega), er 126 (by omega) (by omega) (by omega) (by omega)]
  have hno : k = 3 → ∀ j : Int, 0 ≤ j ∧ j < g 117 6 → g 123 j ≠ 3 := by
    intro hk3 j hj
    have h1 := (gd_tl_neg g (g 117 6).toNat).mp (by omega) j.toNat (by omega)
    rwa [Int.toNat_of_nonneg hj.1] at h1
  refine ⟨j1, j2, j3, j4, by omega, fun j hj => ?_, fun i j hi hj hi3 hj3 => ?_, j8, j9⟩
  · rw [e3, e4, e5]
    by_cases hh : j = g 117 6
    · rw [if_pos hh, if_pos hh, if_pos hh]
      exact ⟨hk, hp, he⟩
    · rw [if_neg hh, if_neg hh, if_neg hh]
      exact j6 j (by omega)
  · rw [e3] at hi3 hj3
    by_cases h1 : i = g 117 6
    · by_cases h2 : j = g 117 6
      · omega
      · rw [if_pos h1] at hi3
        rw [if_neg h2] at hj3
        exact absurd hj3 (hno hi3 j (by omega))
    · by_cases h2 : j = g 117 6
      · rw [if_neg h1] at hi3
        rw [if_pos h2] at hj3
        exact absurd hi3 (hno hj3 i (by omega))
      · rw [if_neg h1] at hi3
        rw [if_neg h2] at hj3
        exact j7 i j (by omega) (by omega) hi3 hj3
theorem gc_P_joins {g m : gw_Mem} {b : Nat} (h : gc_P g m b) {k p e : Int} : gc_P (gd_joins g k p e) (gc_join m (b + 14) k p e) b := by
  obtain ⟨p1, p2, p3, p4, p5, p6, p7, p8⟩ := h
  have en : gd_joins g k p e 117 6 = g 117 6 + 1 := by unfold gd_joins; rw [gw_up_at, if_pos rfl]
  have e0 : gd_joins g k p e 117 0 = g 117 0 := by unfold gd_joins; rw [gw_up_at, if_neg (by omega)]; simp (disch := omega) only [gw_up_ne]
  have e3 : ∀ j, gd_joins g k p e 123 j = if j = g 117 6 then k else g 123 j := by intro j; unfold gd_joins; simp (disch := omega) only [gw_up_ne]; rw [gw_up_at]
  have e4 : ∀ j, gd_joins g k p e 124 j = if j = g 117 6 then p else g 124 j := by intro j; unfold gd_joins; simp (disch := omega) only [gw_up_ne]; rw [gw_up_at]; simp (disch := omega) only [gw_up_ne]
  have e5 : ∀ j, gd_joins g k p e 125 j = if j = g 117 6 then e else g 125 j := by intro j; unfold gd_joins; simp (disch := omega) only [gw_up_ne]; rw [gw_up_at]; simp (disch := omega) only [gw_up_ne]
  have er : ∀ o : Nat, o ≠ 117 → o ≠ 123 → o ≠ 124 → o ≠ 125 → gd_joins g k p e o = g o := by intro o h1 h2 h3 h4; unfold gd_joins; simp (disch := omega) only [gw_up_ne]
  have cn : gc_join m (b + 14) k p e (b + 14) 0 = g 117 6 + 1 := by unfold gc_join; rw [gw_up_at, if_pos rfl, p5]
  have c3 : ∀ j, gc_join m (b + 14) k p e (b + 15) j = if j = g 117 6 then k else m (b + 15) j := by intro j; unfold gc_join; simp (disch := omega) only [gw_up_ne]; rw [gw_up_at, p5]
  have c4 : ∀ j, gc_join m (b + 14) k p e (b + 16) j = if j = g 117 6 then p else m (b + 16) j := by intro j; unfold gc_join; simp (disch := omega) only [gw_up_ne]; rw [gw_up_at, p5]; simp (disch := omega) only [gw_up_ne]
  have c5 : ∀ j, gc_join m (b + 14) k p e (b + 17) j = if j = g 117 6 then e else m (b + 17) j := by intro j; unfold gc_join; simp (disch := omega) only [gw_up_ne]; rw [gw_up_at, p5]; simp (disch := omega) only [gw_up_ne]
  have cr : ∀ o : Nat, o ≠ b + 14 → o ≠ b + 15 → o ≠ b + 16 → o ≠ b + 17 → gc_join m (b + 14) k p e o = m o := by intro o h1 h2 h3 h4; unfold gc_join; simp (disch := omega) only [gw_up_ne]
  unfold gc_P
  rw [en, e0, er 118 (by omega) (by omega) (by omega) (by omega), er 119 (by omega) (by omega) (by omega) (by omega), er 120 (by omega) (by omega) (by omega) (by omega), er 121 (by omega) (by omega) (by omega) (by omega), er 122 (by omega) (by omega) (by omega) (by omega), er 126 (by omega) (by omega) (by omega) (by omega), cn]
  refine ⟨by rw [cr _ (by omega) (by omega) (by omega) (by omega)]; exact p1, fun j hj => by rw [cr _ (by omega) (by omega) (by omega) (by omega)]; exact p2 j hj, fun i j hi hj => ?_, fun j hj => by rw [cr _ (by omega) (by omega) (by omega) (by omega)]; exact p4 j hj, rfl, fun j hj => ?_, fun j hj => by rw [cr _ (by omega) (by omega) (by omega) (by omega)]; exact p7 j hj, fun j hj => by rw [cr _ (by omega) (by omega) (by omega) (by omega)]; exact p8 j hj⟩
  · rw [cr _ (by omega) (by omega) (by omega) (by omega), cr _ (by omega) (by omega) (by omega) (by omega)]
    exact p3 i j hi hj
  · rw [e3, e4, e5, c3, c4, c5]
    by_cases hh : j = g 117 6
    · rw [if_pos hh, if_pos hh, if_pos hh, if_pos hh, if_pos hh, if_pos hh]
      exact ⟨rfl, rfl, rfl⟩
    · rw [if_neg hh, if_neg hh, if_neg hh, if_neg hh, if_neg hh, if_neg hh]
      exact p6 j (by omega)
/-! a mark comes -/
theorem gd_comes_8 (g : gw_Mem) (k p l j : Int) : gd_comes g k p l 118 j = if j = k then g 118 k + 1 else g 118 j := by
  unfold gd_comes
  rw [gw_up_at]
  split
  · rfl
  · split <;> simp (disch := omega) only [gw_up_ne]
theorem gd_comes_9 (g : gw_Mem) (k p l j : Int) : gd_comes g k p l 119 j = if j = 8 * k + g 118 k then p else g 119 j := by
  unfold gd_comes
  rw [gw_up_ne (by omega)]
  split
  · rw [gw_up_ne (by omega), gw_up_ne (by omega), gw_up_at]
  · rw [gw_up_ne (by omega), gw_up_at]
theorem gd_comes_20 (g : gw_Mem) (k p l j : Int) : gd_comes g k p l 120 j = if j = 8 * k + g 118 k then l else g 120 j := by
  unfold gd_comes
  rw [gw_up_ne (by omega)]
  split
  · rw [gw_up_ne (by omega), gw_up_at, gw_up_ne (by omega)]
  · rw [gw_up_at, gw_up_ne (by omega)]
theorem gd_comes_21 (g : gw_Mem) (k p l j : Int) : gd_comes g k p l 121 j = if k = 0 ∧ j = g 118 k then 10 else g 121 j := by
  unfold gd_comes
  rw [gw_up_ne (by omega)]
  by_cases hk : k = 0
  · rw [if_pos hk, gw_up_at, gw_up_ne (by omega), gw_up_ne (by omega)]
    simp only [hk, true_and]
  · rw [if_neg hk, if_neg (fun z => hk z.1), gw_up_ne (by omega), gw_up_ne (by omega)]
theorem gd_comes_ne (g : gw_Mem) (k p l : Int) (o : Nat) (h1 : o ≠ 118) (h2 : o ≠ 119) (h3 : o ≠ 120) (h4 : o ≠ 121) : gd_comes g k p l o = g o := by
  unfold gd_comes
  rw [gw_up_ne h1]
  split <;> simp (disch := omega) only [gw_up_ne]
theorem gd_JP_comes {g : gw_Mem} (h : gd_JP g) {k p l : Int} (hk : 0 ≤ k ∧ k ≤ 3) (hp : 0 ≤ p ∧ p ≤ 99) (hl : gd_lo k ≤ l ∧ l ≤ gd_hi k) (hn : g 118 k < 8) : gd_JP (gd_comes g k p l) := by
  obtain ⟨j1, j2, j3, j4, j5, j6, j7, j8, j9⟩ := h
  unfold gd_JP
  rw [gd_comes_ne g k p l 117 (by omega) (by omega) (by omega) (by omega), gd_comes_ne g k p l 122 (by omega) (by omega) (by omega) (by omega), gd_comes_ne g k p l 123 (by omega) (by omega) (by omega) (by omega), gd_comes_ne g k p l 124 (by omega) (by omega) (by omega) (by omega), gd_comes_ne g k p l 125 (by omega) (by omega) (by omega) (by omega), gd_comes_ne g k p l 126 (by omega) (by omega) (by omega) (by omega)]
  simp only [gd_comes_8, gd_comes_9, gd_comes_20, gd_comes_21]
  have hk8 := j2 k hk
  refine ⟨j1, fun i hi => ?_, fun i j hi hj => ?_, fun j hj => ?_, j5, j6, j7, j8, j9⟩
  · have := j2 i hi
    split <;> omega
  · by_cases e : i = k
    · subst e
      rw [if_pos rfl] at hj
      by_cases e2 : j = g 118 i
      · subst e2
        rw [if_pos rfl, if_pos rfl]
        exact ⟨hp, hl⟩
      · rw [if_neg (by omega), if_neg (by omega)]
        exact j3 i j hi (by omega)
    · rw [if_neg e] at hj
      have h8 := j2 i hi
      rw [if_neg (by omega), if_neg (by omega)]
      exact j3 i j hi hj
  · by_cases e : k = 0 ∧ j = g 118 k
    · rw [if_pos e]
      omega
    · rw [if_neg e]
      refine j4 j ?_
      by_cases e2 : (0 : Int) = k
      · rw [if_pos e2] at hj
        subst e2
        omega
      · rw [if_neg e2] at hj
        exact hj
theorem gc_P_comes {g m : gw_Mem} {b : Nat} (hJ : gd_JP g) (h : gc_P g m b) {k p l : Int} (hk : 0 ≤ k ∧ k ≤ 3) (hn : g 118 k < 8) : gc_P (gd_comes g k p l) (gc_add m (b + 1) k p l) b := by
  obtain ⟨p1, p2, p3, p4, p5, p6, p7, p8⟩ := h
  have hz := p2 k hk
  have hz' : m (b + 1 + 1) k = g 118 k := hz
  have c8 : ∀ j, gc_add m (b + 1) k p l (b + 2) j = if j = k then g 118 k + 1 else m (b + 2) j := by
    intro j
    unfold gc_add
    rw [show b + 2 = b + 1 + 1 by omega, gw_up_at, hz']
    split
    · rfl
    · split <;> simp (disch := omega) only [gw_up_ne]
  have c9 : ∀ (i j : Int), 0 ≤ i ∧ i ≤ 3 → gc_add m (b + 1) k p l (b + 6 + i.toNat) j = if i = k ∧ j = g 118 k then p else m (b + 6 + i.toNat) j := by
    intro i j hi
    unfold gc_add
    rw [gw_up_ne (by omega)]
    by_cases e : i = k
    · subst e
      have er : b + 6 + i.toNat = b + 1 + 5 + i.toNat := by omega
      rw [er]
      split
      · rw [gw_up_ne (by omega), gw_up_ne (by omega), gw_up_at, hz']
        simp only [true_and]
      · rw [gw_up_ne (by omega), gw_up_at, hz']
        simp only [true_and]
    · have e9 : ¬ (i = k ∧ j = g 118 k) := fun z => e z.1
      rw [if_neg e9]
      split
      · rw [gw_up_ne (by omega), gw_up_ne (by omega), gw_up_ne (by omega)]
      · rw [gw_up_ne (by omega), gw_up_ne (by omega)]
  have c20 : ∀ (i j : Int), 0 ≤ i ∧ i ≤ 3 → gc_add m (b + 1) k p l (b + 10 + i.toNat) j = if i = k ∧ j = g 118 k then l else m (b + 10 + i.toNat) j := by
    intro i j hi
    unfold gc_add
    rw [gw_up_ne (by omega)]
    by_cases e : i = k
    · subst e
      have er : b + 10 + i.toNat = b + 1 + 9 + i.toNat := by omega
      rw [er]
      split
      · rw [gw_up_ne (by omega), gw_up_at, hz', gw_up_ne (by omega)]
        simp only [true_and]
      · rw [gw_up_at, hz', gw_up_ne (by omega)]
        simp only [true_and]
    · have e9 : ¬ (i = k ∧ j = g 118 k) := fun z => e z.1
      rw [if_neg e9]
      split
      · rw [gw_up_ne (by omega), gw_up_ne (by omega), gw_up_ne (by omega)]
      · rw [gw_up_ne (by omega), gw_up_ne (by omega)]
  have c21 : ∀ j, gc_add m (b + 1) k p l (b + 5) j = if k = 0 ∧ j = g 118 k then 10 else m (b + 5) j := by
    intro j
    unfold gc_add
    rw [gw_up_ne (by omega)]
    by_cases hk : k = 0
    · rw [if_pos hk, show b + 5 = b + 1 + 4 by omega, gw_up_at, hz', gw_up_ne (by omega), gw_up_ne (by omega)]
      simp only [hk, true_and]
    · rw [if_neg hk, if_neg (fun z => hk z.1), gw_up_ne (by omega), gw_up_ne (by omega)]
  have cr : ∀ o : Nat, (o = b ∨ b + 14 ≤ o) → gc_add m (b + 1) k p l o = m o := by
    intro o ho
    unfold gc_add
    rw [gw_up_ne (by omega)]
    split <;> simp (disch := omega) only [gw_up_ne]
  unfold gc_P
  rw [gd_comes_ne g k p l 117 (by omega) (by omega) (by omega) (by omega), gd_comes_ne g k p l 122 (by omega) (by omega) (by omega) (by omega), gd_comes_ne g k p l 123 (by omega) (by omega) (by omega) (by omega), gd_comes_ne g k p l 124 (by omega) (by omega) (by omega) (by omega), gd_comes_ne g k p l 125 (by omega) (by omega) (by omega) (by omega), gd_comes_ne g k p l 126 (by omega) (by omega) (by omega) (by omega)]
  rw [cr b (by omega), cr (b + 14) (by omega), cr (b + 15) (by omega), cr (b + 16) (by omega), cr (b + 17) (by omega), cr (b + 18) (by omega), cr (b + 20) (by omega)]
  simp only [gd_comes_8, gd_comes_9, gd_comes_20, gd_comes_21]
  refine ⟨p1, fun i hi => ?_, fun i j hi hj => ?_, fun j hj => ?_, p5, p6, p7, p8⟩
  · rw [c8]
    split
    · rfl
    · exact p2 i hi
  · rw [c9 i j hi, c20 i j hi]
    have h8 := hJ.2.1 i hi
    by_cases e : i = k
    · subst e
      rw [if_pos rfl] at hj
      by_cases e2 : j = g 118 i
      · subst e2
        rw [if_pos ⟨rfl, rfl⟩, if_pos rfl, if_pos ⟨rfl, rfl⟩, if_pos rfl]
        exact ⟨rfl, rfl⟩
      · rw [if_neg (fun z => e2 z.2), if_neg (by omega), if_neg (fun z => e2 z.2), if_neg (by omega)]
        exact p3 i j hi (by omega)
    · rw [if_neg e] at hj
      have h8k := hJ.2.1 k hk
      rw [if_neg (fun z => e z.1), if_neg (by omega), if_neg (fun z => e z.1), if_neg (by omega)]
      exact p3 i j hi hj
  · rw [c21]
    by_cases e : k = 0 ∧ j = g 118 k
    · rw [if_pos e, if_pos e]
    · rw [if_neg e, if_neg e]
      refine p4 j ?_
      by_cases e2 : (0 : Int) = k
      · rw [if_pos e2] at hj
        subst e2
        omega
      · rw [if_neg e2] at hj
        exact hj
