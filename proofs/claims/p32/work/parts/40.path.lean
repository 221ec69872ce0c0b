/-! the class: the way by places -/
def gd_wl (g : gw_Mem) (k x : Int) : Int := if x < g 117 0 ∧ 0 ≤ gd_mk g k x then g 120 (8 * k + gd_mk g k x) else 0
theorem gd_wl_rng {g : gw_Mem} (hJ : gd_JP g) {k : Int} (hk : 0 ≤ k ∧ k ≤ 3) (x : Int) : 0 ≤ gd_wl g k x ∧ gd_wl g k x ≤ 50 ∧ (0 < gd_wl g k x ↔ x < g 117 0 ∧ 0 ≤ gd_mk g k x) := by
  have h := gd_mk_rng hJ hk x
  have h1 : 1 ≤ gd_lo k := by unfold gd_lo; split <;> omega
  have h2 : gd_hi k ≤ 50 := by unfold gd_hi; split <;> omega
  unfold gd_wl
  split
  · rename_i z
    have q := h.2.2.2 z.2
    exact ⟨by omega, by omega, fun _ => z, fun _ => by omega⟩
  · rename_i z
    exact ⟨by omega, by omega, fun q => by omega, fun q => absurd q z⟩
def gc_L (g m : gw_Mem) (b : Nat) : Prop := m (b + 1) 0 = g 117 0 ∧ (∀ k : Nat, k ≤ 3 → ∀ x : Int, 0 ≤ x ∧ x < 100 → m (b + 2 + k) x = gd_wl g k x) ∧ m (b + 6) 0 = g 117 6 ∧
  (∀ j : Int, 0 ≤ j ∧ j < g 117 6 → m (b + 7) j = g 123 j ∧ m (b + 8) j = g 124 j ∧ m (b + 9) j = g 125 j) ∧ (∀ j : Int, 0 ≤ j ∧ j < 5 → m (b + 10) j = g 122 j)
theorem gd_wl_pq {g g' : gw_Mem} (h : gd_pq g g') (k x : Int) : gd_wl g' k x = gd_wl g k x := by
  unfold gd_wl gd_mk
  rw [h.2.1, h.1 118 (by omega), h.1 120 (by omega), gd_ma_congr (h.1 119 (by omega))]
theorem gd_pq_wf {g g' : gw_Mem} (h : gd_wf g g') : gd_pq g g' := ⟨fun o a => h.1 o (by omega) (by omega), h.2 0 (by omega), h.2 6 (by omega)⟩
theorem gc_L_g {g g' m : gw_Mem} {b : Nat} (h : gc_L g m b) (hg : gd_pq g g') : gc_L g' m b := by
  obtain ⟨a1, a2, a3, a4, a5⟩ := h
  refine ⟨by rw [hg.2.1]; exact a1, fun k hk x hx => by rw [gd_wl_pq hg]; exact a2 k hk x hx, by rw [hg.2.2]; exact a3, fun j hj => ?_, fun j hj => by rw [hg.1 122 (by omega)]; exact a5 j hj⟩
  rw [hg.2.2] at hj
  rw [hg.1 123 (by omega), hg.1 124 (by omega), hg.1 125 (by omega)]
  exact a4 j hj
theorem gc_L_m {g m m' : gw_Mem} {b : Nat} (h : gc_L g m b) (hm : ∀ o : Nat, b + 1 ≤ o → o ≤ b + 10 → m' o = m o) : gc_L g m' b := by
  obtain ⟨a1, a2, a3, a4, a5⟩ := h
  refine ⟨by rw [hm _ (by omega) (by omega)]; exact a1, fun k hk x hx => by rw [hm _ (by omega) (by omega)]; exact a2 k hk x hx, by rw [hm _ (by omega) (by omega)]; exact a3, fun j hj => ?_, fun j hj => by rw [hm _ (by omega) (by omega)]; exact a5 j hj⟩
  rw [hm (b + 7) (by omega) (by omega), hm (b + 8) (by omega) (by omega), hm (b + 9) (by omega) (by omega)]
  exact a4 j hj
theorem gw_walkP {b : Nat} (h : gw_isWalk b) : gw_isPath (b + 1) := by rcases h with rfl | rfl <;> simp [gw_isPath]
theorem gw_walkH {b : Nat} (h : gw_isWalk b) : gw_isHalt (b + 11) := by rcases h with rfl | rfl <;> simp [gw_isHalt]
theorem gw_walkQ {b : Nat} (h : gw_isWalk b) : gw_isPeople (b + 6) := by rcases h with rfl | rfl <;> simp [gw_isPeople]
theorem gw_walk65 {b : Nat} (h : gw_isWalk b) : 65 ≤ b ∧ b ≤ 83 := by rcases h with rfl | rfl <;> omega
theorem shWalk_k {b : Nat} (h : gw_isWalk b) {k : Nat} (hk : k ≤ 3) : gw_SH[b + 2 + k]? = some (1, 100, []) := by
  have hc : k = 0 ∨ k = 1 ∨ k = 2 ∨ k = 3 := by omega
  rcases hc with rfl | rfl | rfl | rfl
  · exact shWalk_2 h
  · exact shWalk_3 h
  · exact shWalk_4 h
  · exact shWalk_5 h
theorem sp_X4_layKind (b : Nat) (hb : gw_isWalk b) (k : Nat) (hk : k ≤ 3) (g m : gw_Mem) (hJ : gd_JP g) (hP : gc_P g m 4) (he : m (b + 1) 0 = g 117 0) : gw_SpecV M_X4_layKind 11 [gR (b + 1), gR (b + 2 + k), gR 5, gI (k : Int)] m (fun m' => (∀ x : Int, 0 ≤ x ∧ x < 100 → m' (b + 2 + k) x = gd_wl g k x) ∧ ∀ o : Nat, o ≠ b + 2 + k → m' o = m o) := by
  refine gw_intro pl_X4_layKind rfl (fun Γ => ?_)
  have hb65 := gw_walk65 hb
  have hk3 : (0 : Int) ≤ k ∧ (k : Int) ≤ 3 := by omega
  have hz := hJ.2.1 k hk3
  obtain ⟨n, hN⟩ := gw_nat hz.1
  have en : (g 118 k).toNat = n := by omega
  have h1 : m (5 + 1) (k : Int) = g 118 k := hP.2.1 k hk3
  have tn : ((k : Int)).toNat = k := by omega
  have h2 : ∀ i : Nat, i < n → m (5 + 5 + k) (i : Int) = g 119 (8 * k + i) ∧ m (5 + 9 + k) (i : Int) = g 120 (8 * k + i) := by
    intro i hi
    have z := hP.2.2.1 k i hk3 (by omega)
    rw [tn] at z
    exact z
  have lay : ∀ (j i : Nat) (q : gw_Mem) (y5 : Option gw_SV), i + j = n → (∀ x : Int, 0 ≤ x ∧ x < 100 → q (b + 2 + k) x = if x < g 117 0 ∧ 0 ≤ gd_ma g k x i then g 120 (8 * k + gd_ma g k x i) else 0) → (∀ o : Nat, o ≠ b + 2 + k → q o = m o) →
      gw_G M_X4_layKind 11 (fun r m' => r = none ∧ (∀ x : Int, 0 ≤ x ∧ x < 100 → m' (b + 2 + k) x = gd_wl g k x) ∧ ∀ o : Nat, o ≠ b + 2 + k → m' o = m o) Γ 24 [some (gR (b + 1)), some (gR (b + 2 + k)), some (gR 5), some (gI (k : Int)), some (gI (i : Int)), y5] [] q := by
    intro j
    induction j with
    | zero =>
      intro i q y5 hi hq hf
      refine r_X4_layKind_24 (b + 1) (gw_walkP hb) (b + 2 + k) 100 (shWalk_k hb hk) rfl 5 isMarks_5 k i y5 q ?_
      rw [hf (5 + 1) (by omega), h1]
      refine ⟨gw_inm (by omega) (by omega), fun _ => ⟨rfl, fun x hx => ?_, hf⟩, fun h => absurd (by omega) h⟩
      have ei : i = n := by omega
      rw [hq x hx, gd_wl, gd_mk, en, ei]
    | succ j ih =>
      intro i q y5 hi hq hf
      refine r_X4_layKind_24 (b + 1) (gw_walkP hb) (b + 2 + k) 100 (shWalk_k hb hk) rfl 5 isMarks_5 k i y5 q ?_
      rw [tn, hf (5 + 1) (by omega), h1, hf (5 + 5 + k) (by omega), hf (b + 1) (by omega), he, (h2 i (by omega)).1]
      have hp := hJ.2.2.1 k i hk3 (by omega)
      have hend := hJ.1
      rw [gw_w_id (x := g 117 0 - 1) (by omega)]
      refine ⟨gw_inm (by omega) (by omega), fun h => absurd h (by omega), fun _ => ⟨gw_inm (by omega) (by omega), gw_inm (by omega) (by omega), ?_⟩⟩
      have hi4 : gw_in (k : Int) 4 := gw_inm (by omega) (by omega)
      have hi8 : gw_in (i : Int) 8 := gw_inm (by omega) (by omega)
      refine gw_CI.eq (sp_X11_within _ 0 (g 117 0 - 1) q) rfl (gw_b_tf (fun h => ?_) (fun h => ⟨hi4, hi8, gw_inm (by omega) (by omega), ?_⟩))
      · refine r_X4_layKind_74 (b + 1) (gw_walkP hb) (b + 2 + k) 100 (shWalk_k hb hk) rfl 5 isMarks_5 k i _ q ?_
        rw [gw_w1 (by omega)]
        refine ih (i + 1) q _ (by omega) (fun x hx => ?_) hf
        rw [hq x hx, gd_ma]
        by_cases hx2 : g 119 (8 * k + i) = x
        · rw [if_pos hx2, if_neg (by omega)]
          rw [if_neg (fun z => h (by omega))]
        · rw [if_neg hx2]
      · refine r_X4_layKind_74 (b + 1) (gw_walkP hb) (b + 2 + k) 100 (shWalk_k hb hk) rfl 5 isMarks_5 k i _ _ ?_
        rw [gw_w1 (by omega), hf (5 + 9 + k) (by omega), (h2 i (by omega)).2]
        refine ih (i + 1) _ _ (by omega) (fun x hx => ?_) (fun o ho => by rw [gw_up_ne ho]; exact hf o ho)
        rw [gw_up_at, hq x hx, gd_ma]
        by_cases hx2 : g 119 (8 * k + i) = x
        · rw [if_pos hx2.symm, if_pos hx2, if_pos (by omega)]
        · rw [if_neg (fun z => hx2 z.symm), if_neg hx2]
  have zero : ∀ (j i : Nat) (q : gw_Mem) (y5 : Option gw_SV), i + j = 100 → (∀ x : Int, 0 ≤ x ∧ x < i → q (b + 2 + k) x = 0) → (∀ o : Nat, o ≠ b + 2 + k → q o = m o) →
      gw_G M_X4_layKind 11 (fun r m' => r = none ∧ (∀ x : Int, 0 ≤ x ∧ x < 100 → m' (b + 2 + k) x = gd_wl g k x) ∧ ∀ o : Nat, o ≠ b + 2 + k → m' o = m o) Γ 3 [some (gR (b + 1)), some (gR (b + 2 + k)), some (gR 5), some (gI (k : Int)), some (gI (i : Int)), y5] [] q := by
    intro j
    induction j with
    | zero =>
      intro i q y5 hi hq hf
      refine r_X4_layKind_3 (b + 1) (gw_walkP hb) (b + 2 + k) 100 (shWalk_k hb hk) rfl 5 isMarks_5 k i y5 q ?_
      refine ⟨fun _ => lay n 0 q _ (by omega) (fun x hx => ?_) hf, fun h => absurd (by omega) h⟩
      rw [gd_ma, if_neg (by omega)]
      exact hq x (by omega)
    | succ j ih =>
      intro i q y5 hi hq hf
      refine r_X4_layKind_3 (b + 1) (gw_walkP hb) (b + 2 + k) 100 (shWalk_k hb hk) rfl 5 isMarks_5 k i y5 q ?_
      refine ⟨fun h => absurd h (by omega), fun _ => ⟨gw_inm (by omega) (by omega), ?_⟩⟩
      rw [gw_w1 (by omega)]
      refine ih (i + 1) _ _ (by omega) (fun x hx => ?_) (fun o ho => by rw [gw_up_ne ho]; exact hf o ho)
      rw [gw_up_at]
      split
      · rfl
      · exact hq x (by omega)
  refine r_X4_layKind_0 (b + 1) (gw_walkP hb) (b + 2 + k) 100 (shWalk_k hb hk) rfl 5 isMarks_5 k m ?_
  exact zero 100 0 m none (by omega) (fun x hx => by omega) (fun _ _ => rfl)
theorem gc_P_m {g m m' : gw_Mem} {b : Nat} (h : gc_P g m b) (hm : ∀ o : Nat, b ≤ o → o < b + 21 → m' o = m o) : gc_P g m' b :=
  gc_P_congr h hm rfl rfl rfl rfl rfl rfl rfl rfl rfl rfl rfl
theorem sp_X4_lay (b : Nat) (hb : gw_isWalk b) (g m : gw_Mem) (hJ : gd_JP g) (hP : gc_P g m 4) : gw_SpecV M_X4_lay 12 [gR (b + 1), gR 5, gI (g 117 0)] m (fun m' => m' (b + 1) 0 = g 117 0 ∧ (∀ k : Nat, k ≤ 3 → ∀ x : Int, 0 ≤ x ∧ x < 100 → m' (b + 2 + k) x = gd_wl g k x) ∧ ∀ o : Nat, ¬ (b + 1 ≤ o ∧ o ≤ b + 5) → m' o = m o) := by
  refine gw_intro pl_X4_lay rfl (fun Γ => ?_)
  have hb65 := gw_walk65 hb
  refine r_X4_lay_0 (b + 1) (gw_walkP hb) 5 isMarks_5 (g 117 0) m ?_
  generalize hm0 : gw_up m (b + 1) 0 (g 117 0) = m0
  have e0 : m0 (b + 1) 0 = g 117 0 := by rw [← hm0, gw_up_at, if_pos rfl]
  have f0 : ∀ o : Nat, o ≠ b + 1 → m0 o = m o := fun o ho => by rw [← hm0, gw_up_ne ho]
  refine gw_CV.of (sp_X4_layKind b hb 0 (by omega) g m0 hJ (gc_P_m hP (fun o _ _ => f0 o (by omega))) e0) rfl (fun m1 _ h1 => ?_)
  refine gw_CV.of (sp_X4_layKind b hb 1 (by omega) g m1 hJ (gc_P_m hP (fun o _ _ => by rw [h1.2 o (by omega), f0 o (by omega)])) (by rw [h1.2 _ (by omega)]; exact e0)) rfl (fun m2 _ h2 => ?_)
  refine gw_CV.of (sp_X4_layKind b hb 2 (by omega) g m2 hJ (gc_P_m hP (fun o _ _ => by rw [h2.2 o (by omega), h1.2 o (by omega), f0 o (by omega)])) (by rw [h2.2 _ (by omega), h1.2 _ (by omega)]; exact e0)) rfl (fun m3 _ h3 => ?_)
  refine gw_CV.of (sp_X4_layKind b hb 3 (by omega) g m3 hJ (gc_P_m hP (fun o _ _ => by rw [h3.2 o (by omega), h2.2 o (by omega), h1.2 o (by omega), f0 o (by omega)])) (by rw [h3.2 _ (by omega), h2.2 _ (by omega), h1.2 _ (by omega)]; exact e0)) rfl (fun m4 _ h4 => ?_)
  refine ⟨rfl, ?_, fun k hk x hx => ?_, fun o ho => ?_⟩
  · rw [h4.2 _ (by omega), h3.2 _ (by omega), h2.2 _ (by omega), h1.2 _ (by omega)]; exact e0
  · have hc : k = 0 ∨ k = 1 ∨ k = 2 ∨ k = 3 := by omega
    rcases hc with rfl | rfl | rfl | rfl
    · rw [h4.2 _ (by omega), h3.2 _ (by omega), h2.2 _ (by omega)]; exact h1.1 x hx
    · rw [h4.2 _ (by omega), h3.2 _ (by omega)]; exact h2.1 x hx
    · rw [h4.2 _ (by omega)]; exact h3.1 x hx
    · exact h4.1 x hx
  · rw [h4.2 _ (by omega), h3.2 _ (by omega), h2.2 _ (by omega), h1.2 _ (by omega), f0 _ (by omega)]
