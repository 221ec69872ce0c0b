/-! the class: calls that set and tell -/
def gc_fg (m : gw_Mem) : gw_Mem := gw_up (gw_up m 0 8 0) 0 12 (-1)
def cu_end (m : gw_Mem) (v : Int) : gw_Mem := if 10 ≤ v ∧ v ≤ 99 then gc_fg (gw_up m 4 0 v) else m
theorem sp_X11_end (g m : gw_Mem) (hP : gc_P g m 4) (v : Int) : gw_SpecI M_X11_end 12 [gR 0, gI v] m (fun r m' => r = ga_end g v ∧ m' = cu_end m v) := by
  refine gw_intro pl_X11_end rfl (fun Γ => ?_)
  apply r_X11_end_0
  refine gw_CI.eq (sp_X11_within v 10 99 m) rfl (gw_b_tf (fun h => ?_) (fun h => ?_))
  · exact gw_rE (by rw [ga_end, if_neg h]) (by rw [cu_end, if_neg h])
  · refine gw_CV.eq (sp_X11_forget _) rfl ?_
    exact gw_rE (by rw [ga_end, if_pos h]; exact hP.1) (by rw [cu_end, if_pos h]; rfl)
theorem gc_mk_ma {g m : gw_Mem} {b : Nat} (hP : gc_P g m b) {k p : Int} (hk : 0 ≤ k ∧ k ≤ 3) (hs : 0 ≤ g 118 k) : gc_mk m (b + 1) k p (g 118 k).toNat = true ↔ 0 ≤ gd_ma g k p (g 118 k).toNat := by
  have h1 : ∀ n : Nat, (n : Int) ≤ g 118 k → (gc_mk m (b + 1) k p n = true ↔ 0 ≤ gd_ma g k p n) := by
    intro n
    induction n with
    | zero => intro _; simp [gc_mk, gd_ma]
    | succ n ih =>
      intro hn
      have h3 := (hP.2.2.1 k n hk (by omega)).1
      have h4 : m (b + 1 + 5 + k.toNat) (n : Int) = g 119 (8 * k + n) := by
        rw [show b + 1 + 5 + k.toNat = b + 6 + k.toNat by omega]
        exact h3
      rw [gc_mk, gd_ma, Bool.or_eq_true, decide_eq_true_eq, h4, ih (by omega)]
      split
      · rename_i e
        exact ⟨fun _ => by omega, fun _ => Or.inr e⟩
      · rename_i e
        exact ⟨fun z => z.elim id (fun q => absurd q e), Or.inl⟩
  exact h1 _ (by omega)
def cu_mark (g m : gw_Mem) (k p l : Int) : gw_Mem := if (0 ≤ k ∧ k ≤ 3) ∧ (0 ≤ p ∧ p ≤ 99) ∧ gd_lo k ≤ l ∧ l ≤ gd_hi k then (if 0 ≤ gd_ma g k p (g 118 k).toNat then m else if g 118 k = 8 then m else gc_fg (gc_add m 5 k p l)) else m
theorem gd_lo_sv {k : Int} (hk : 0 ≤ k ∧ k ≤ 3) : (gw_sv 0).getD k.toNat 0 = gd_lo k ∧ (gw_sv 1).getD k.toNat 0 = gd_hi k := by
  have hw : k = 0 ∨ k = 1 ∨ k = 2 ∨ k = 3 := by omega
  rcases hw with rfl | rfl | rfl | rfl <;> exact ⟨rfl, rfl⟩
theorem sp_X11_mark (g m : gw_Mem) (hJ : gd_JP g) (hP : gc_P g m 4) (k p l : Int) : gw_SpecI M_X11_mark 13 [gR 0, gI k, gI p, gI l] m (fun r m' => r = ga_mark g k p l ∧ m' = cu_mark g m k p l) := by
  refine gw_intro pl_X11_mark rfl (fun Γ => ?_)
  apply r_X11_mark_0
  refine gw_CI.eq (sp_X11_within k 0 3 m) rfl (gw_b_tf (fun h => ?_) (fun h1 => ?_))
  · exact gw_rE (by rw [ga_mark, if_neg (fun z => h z.1)]) (by rw [cu_mark, if_neg (fun z => h z.1)])
  refine gw_CI.eq (sp_X11_within p 0 99 m) rfl (gw_b_tf (fun h => ?_) (fun h2 => ⟨gw_inm h1.1 (by omega), gw_inm h1.1 (by omega), ?_⟩))
  · exact gw_rE (by rw [ga_mark, if_neg (fun z => h z.2.1)]) (by rw [cu_mark, if_neg (fun z => h z.2.1)])
  rw [(gd_lo_sv h1).1, (gd_lo_sv h1).2]
  refine gw_CI.eq (sp_X11_within l (gd_lo k) (gd_hi k) m) rfl (gw_b_tf (fun h => ?_) (fun h3 => ?_))
  · exact gw_rE (by rw [ga_mark, if_neg (fun z => h z.2.2)]) (by rw [cu_mark, if_neg (fun z => h z.2.2)])
  have hs := hJ.2.1 k h1
  have hz : m 6 k = g 118 k := hP.2.1 k h1
  have hmk := gc_mk_ma hP (p := p) h1 hs.1
  have hall : (0 ≤ k ∧ k ≤ 3) ∧ (0 ≤ p ∧ p ≤ 99) ∧ gd_lo k ≤ l ∧ l ≤ gd_hi k := ⟨h1, h2, h3⟩
  refine gw_CI.eq (sp_X3_add 5 isMarks_5 k p l m h1 (by show 0 ≤ m 6 k ∧ m 6 k ≤ 8; omega)) rfl ?_
  have hz' : m (5 + 1) k = g 118 k := hz
  rw [hz']
  by_cases h4 : 0 ≤ gd_ma g k p (g 118 k).toNat
  · have h5 := hmk.mpr h4
    rw [if_pos h5, if_pos h5]
    exact ⟨fun _ => gw_rE (by rw [ga_mark, if_pos hall, if_pos h4]) (by rw [cu_mark, if_pos hall, if_pos h4]), fun z => absurd (by omega) z⟩
  · have h5 : ¬ gc_mk m 5 k p (g 118 k).toNat = true := fun z => h4 (hmk.mp z)
    rw [if_neg h5, if_neg h5]
    by_cases h6 : g 118 k = 8
    · rw [if_pos h6, if_pos h6]
      exact ⟨fun _ => gw_rE (by rw [ga_mark, if_pos hall, if_neg h4, if_pos h6]) (by rw [cu_mark, if_pos hall, if_neg h4, if_pos h6]), fun z => absurd (by omega) z⟩
    · rw [if_neg h6, if_neg h6]
      refine ⟨fun z => absurd z (by omega), fun _ => ?_⟩
      refine gw_CV.eq (sp_X11_forget _) rfl ?_
      exact gw_rE (by rw [ga_mark, if_pos hall, if_neg h4, if_neg h6]) (by rw [cu_mark, if_pos hall, if_neg h4, if_neg h6]; rfl)
def cu_value (g m : gw_Mem) (j v : Int) : gw_Mem := if (0 ≤ j ∧ j ≤ g 118 0 - 1) ∧ 0 ≤ v ∧ v ≤ 99 then gw_up m 9 j v else m
theorem gc_tl_tl {g m : gw_Mem} {b : Nat} (hJ : gd_JP g) (hP : gc_P g m b) : gc_tl m (b + 14) (g 117 6).toNat < 0 ∧ gd_tl g (g 117 6).toNat = -4 ∨ 0 ≤ gd_tl g (g 117 6).toNat ∧ gc_tl m (b + 14) (g 117 6).toNat = gd_tl g (g 117 6).toNat := by
  have hn := hJ.2.2.2.2.1
  have a := gc_tl_rng m (b + 14) (g 117 6).toNat
  have c := gd_tl_rng g (g 117 6).toNat
  have e : ∀ j : Int, 0 ≤ j ∧ j < g 117 6 → m (b + 14 + 1) j = g 123 j := fun j hj => (hP.2.2.2.2.2.1 j hj).1
  by_cases h : gd_tl g (g 117 6).toNat < 0
  · left
    refine ⟨(gc_tl_neg _ _ _).mpr (fun j hj => ?_), c.2.2.1 h⟩
    rw [e j (by omega)]
    exact (gd_tl_neg _ _).mp h j hj
  · right
    refine ⟨by omega, ?_⟩
    have h2 : ¬ gc_tl m (b + 14) (g 117 6).toNat < 0 := fun z => by
      have h3 := (gc_tl_neg _ _ _).mp z (gd_tl g (g 117 6).toNat).toNat (by omega)
      rw [Int.toNat_of_nonneg (by omega), e _ (by omega)] at h3
      exact h3 (c.2.2.2 (by omega))
    have h4 := a.2.2 (by omega)
    rw [e _ (by omega)] at h4
    exact hJ.2.2.2.2.2.2.1 _ _ (by omega) (by omega) h4 (c.2.2.2 (by omega))
def cu_person (g m : gw_Mem) (k p e : Int) : gw_Mem := if (0 ≤ k ∧ k ≤ 3) ∧ 1 ≤ p ∧ p ≤ 4 then (if k = 3 ∧ 0 ≤ gd_tl g (g 117 6).toNat then m else if g 117 6 = 10 then m else gc_fg (gc_join m 18 k p e)) else m
theorem sp_X11_person (g m : gw_Mem) (hJ : gd_JP g) (hP : gc_P g m 4) (k p e : Int) (he : gw_b e) : gw_SpecI M_X11_person 13 [gR 0, gI k, gI p, gI e] m (fun r m' => r = ga_person g k p ∧ m' = cu_person g m k p e) := by
  refine gw_intro pl_X11_person rfl (fun Γ => ?_)
  apply r_X11_person_0
  refine gw_CI.eq (sp_X11_within k 0 3 m) rfl (gw_b_tf (fun h => ?_) (fun h1 => ?_))
  · exact gw_rE (by rw [ga_person, if_neg (fun z => h z.1)]) (by rw [cu_person, if_neg (fun z => h z.1)])
  refine gw_CI.eq (sp_X11_within p 1 4 m) rfl (gw_b_tf (fun h => ?_) (fun h2 => ?_))
  · exact gw_rE (by rw [ga_person, if_neg (fun z => h z.2)]) (by rw [cu_person, if_neg (fun z => h z.2)])
  have hn := hJ.2.2.2.2.1
  have hz : m 18 0 = g 117 6 := hP.2.2.2.2.1
  have ht : gc_tl m 18 (g 117 6).toNat < 0 ∧ gd_tl g (g 117 6).toNat = -4 ∨ 0 ≤ gd_tl g (g 117 6).toNat ∧ gc_tl m 18 (g 117 6).toNat = gd_tl g (g 117 6).toNat := gc_tl_tl hJ hP
  have hall : (0 ≤ k ∧ k ≤ 3) ∧ 1 ≤ p ∧ p ≤ 4 := ⟨h1, h2⟩
  refine gw_CI.eq (sp_X5_add 18 (by unfold gw_isPeople; decide) k p e m (by omega) he) rfl ?_
  rw [hz]
  by_cases h4 : k = 3 ∧ 0 ≤ gd_tl g (g 117 6).toNat
  · have h5 : k = 3 ∧ 0 ≤ gc_tl m 18 (g 117 6).toNat := ⟨h4.1, by rcases ht with q | q <;> omega⟩
    rw [if_pos h5, if_pos h5]
    exact ⟨fun _ => gw_rE (by rw [ga_person, if_pos hall, if_pos h4]) (by rw [cu_person, if_pos hall, if_pos h4]), fun z => absurd (by omega) z⟩
  · have h5 : ¬ (k = 3 ∧ 0 ≤ gc_tl m 18 (g 117 6).toNat) := fun z => h4 ⟨z.1, by rcases ht with q | q <;> omega⟩
    rw [if_neg h5, if_neg h5]
    by_cases h6 : g 117 6 = 10
    · rw [if_pos h6, if_pos h6]
      exact ⟨fun _ => gw_rE (by rw [ga_person, if_pos hall, if_neg h4, if_pos h6]) (by rw [cu_person, if_pos hall, if_neg h4, if_pos h6]), fun z => absurd (by omega) z⟩
    · rw [if_neg h6, if_neg h6]
      refine ⟨fun z => absurd z (by omega), fun _ => ?_⟩
      refine gw_CV.eq (sp_X11_forget _) rfl ?_
      exact gw_rE (by rw [ga_person, if_pos hall, if_neg h4, if_neg h6]) (by rw [cu_person, if_pos hall, if_neg h4, if_neg h6]; rfl)
theorem sp_X11_isPerson (g m : gw_Mem) (hJ : gd_JP g) (hP : gc_P g m 4) (p : Int) : gw_SpecI M_X11_isPerson 11 [gR 0, gI p] m (fun r m' => r = gw_tf (0 ≤ p ∧ p ≤ g 117 6 - 1) ∧ m' = m) := by
  refine gw_intro pl_X11_isPerson rfl (fun Γ => ?_)
  apply r_X11_isPerson_0
  have hn := hJ.2.2.2.2.1
  have hz : m 18 0 = g 117 6 := hP.2.2.2.2.1
  rw [hz, gw_w_id (by omega)]
  exact gw_CI.eq (sp_X11_within p 0 (g 117 6 - 1) m) rfl ⟨gw_tfb _, gw_rE rfl rfl⟩
def cu_rule (m : gw_Mem) (w v : Int) : gw_Mem := if (0 ≤ w ∧ w ≤ 4) ∧ gd_rlo w ≤ v ∧ v ≤ gd_rhi w then gc_fg (gw_up m 22 w v) else m
theorem gd_rlo_sv {w : Int} (hw : 0 ≤ w ∧ w ≤ 4) : (gw_sv 2).getD w.toNat 0 = gd_rlo w ∧ (gw_sv 3).getD w.toNat 0 = gd_rhi w := by
  have h : w = 0 ∨ w = 1 ∨ w = 2 ∨ w = 3 ∨ w = 4 := by omega
  rcases h with rfl | rfl | rfl | rfl | rfl <;> exact ⟨rfl, rfl⟩
theorem sp_X11_rule (g m : gw_Mem) (hP : gc_P g m 4) (w v : Int) : gw_SpecI M_X11_rule 12 [gR 0, gI w, gI v] m (fun r m' => r = ga_rule g w v ∧ m' = cu_rule m w v) := by
  refine gw_intro pl_X11_rule rfl (fun Γ => ?_)
  apply r_X11_rule_0
  refine gw_CI.eq (sp_X11_within w 0 4 m) rfl (gw_b_tf (fun h => ?_) (fun h1 => ⟨gw_inm h1.1 (by omega), gw_inm h1.1 (by omega), ?_⟩))
  · exact gw_rE (by rw [ga_rule, if_neg (fun z => h z.1)]) (by rw [cu_rule, if_neg (fun z => h z.1)])
  rw [(gd_rlo_sv h1).1, (gd_rlo_sv h1).2]
  refine gw_CI.eq (sp_X11_within v (gd_rlo w) (gd_rhi w) m) rfl (gw_b_tf (fun h => ?_) (fun h2 => ⟨gw_inm h1.1 (by omega), gw_inm h1.1 (by omega), ?_⟩))
  · exact gw_rE (by rw [ga_rule, if_neg (fun z => h z.2)]) (by rw [cu_rule, if_neg (fun z => h z.2)])
  refine gw_CV.eq (sp_X11_forget _) rfl ?_
  have hr : m 22 w = g 122 w := hP.2.2.2.2.2.2.1 w (by omega)
  exact gw_rE (by rw [hr, ga_rule, if_pos ⟨h1, h2⟩]) (by rw [cu_rule, if_pos ⟨h1, h2⟩]; rfl)
def cu_square (m : gw_Mem) (p v : Int) : gw_Mem := if (0 ≤ p ∧ p ≤ 143) ∧ 0 ≤ v ∧ v ≤ 2 then gw_up m 24 p v else m
/-! costs -/
theorem sp_X11_cutUp (v k : Int) (m : gw_Mem) (hv : 0 ≤ v ∧ v ≤ 1000) (hk : 1 ≤ k ∧ k ≤ 1000) : gw_SpecI M_X11_cutUp 10 [gI v, gI k] m (fun r m' => r = gd_cu v k ∧ m' = m) := by
  refine gw_intro pl_X11_cutUp rfl (fun Γ => ?_)
  apply r_X11_cutUp_0
  refine ⟨fun _ => by omega, gw_rE ?_ rfl⟩
  have h1 := gd_cu_rng hv.1 hk.1
  rw [if_neg (by omega), gw_w_id (x := v + k) (by omega), gw_w_id (x := v + k - 1) (by omega)]
  exact gw_w_id (by unfold gd_cu at h1; omega)
