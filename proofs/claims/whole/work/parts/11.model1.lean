/-! the reference: the way, the people -/
def gm_X (m m' : gw_Mem) : Prop := ∀ o : Nat, o < 117 → m' o = m o
theorem gm_X_up {m : gw_Mem} {o : Nat} {j v : Int} (h : 117 ≤ o) : gm_X m (gw_up m o j v) := fun q hq => gw_up_ne (by omega)
theorem gm_X_tr {m m' m2 : gw_Mem} (h : gm_X m m') (h2 : gm_X m' m2) : gm_X m m2 := fun q hq => (h2 q hq).trans (h q hq)
/-- what a golden call answers (BAD etc.) is told in ga_, what it leaves in gu_ -/
def ga_end (g : gw_Mem) (v : Int) : Int := if 10 ≤ v ∧ v ≤ 99 then g 117 0 else -1
def gu_end (g : gw_Mem) (v : Int) : gw_Mem := if 10 ≤ v ∧ v ≤ 99 then gw_up g 117 0 v else g
theorem sp_X12_end (v : Int) (m : gw_Mem) : gw_SpecI M_X12_end 12 [gR 117, gI v] m (fun r m' => r = ga_end m v ∧ m' = gu_end m v) := by
  refine gw_intro pl_X12_end rfl (fun Γ => ?_)
  apply r_X12_end_0
  refine gw_CI.eq (sp_X12_in v 10 99 m) rfl (gw_b_tf (fun h => ?_) (fun h => ?_))
  · exact gw_rE (by rw [ga_end, if_neg h]) (by rw [gu_end, if_neg h])
  · exact gw_rE (by rw [ga_end, if_pos h]) (by rw [gu_end, if_pos h])
def gd_comes (g : gw_Mem) (k p l : Int) : gw_Mem := gw_up (if k = 0 then gw_up (gw_up (gw_up g 119 (8 * k + g 118 k) p) 120 (8 * k + g 118 k) l) 121 (g 118 k) 10 else gw_up (gw_up g 119 (8 * k + g 118 k) p) 120 (8 * k + g 118 k) l) 118 k (g 118 k + 1)
theorem sp_X12_comes (k p l : Int) (m : gw_Mem) (hk : 0 ≤ k ∧ k ≤ 3) (hs : 0 ≤ m 118 k ∧ m 118 k < 8) : gw_SpecI M_X12_comes 10 [gR 117, gI k, gI p, gI l] m (fun r m' => r = m 118 k ∧ m' = gd_comes m k p l) := by
  refine gw_intro pl_X12_comes rfl (fun Γ => ?_)
  apply r_X12_comes_0
  have e1 : gw_w (gw_w (8 * k) + m 118 k) = 8 * k + m 118 k := by rw [gw_w_id (x := 8 * k) (by omega), gw_w_id (by omega)]
  rw [e1]
  refine ⟨gw_inm hk.1 (by omega), gw_inm (by omega) (by omega), gw_inm (by omega) (by omega), fun h => ⟨gw_inm hs.1 hs.2, ?_⟩, fun h => ?_⟩
  · apply r_X12_comes_47
    refine ⟨gw_inm hk.1 (by omega), gw_inm hk.1 (by omega), gw_rE rfl ?_⟩
    have e2 : gw_up (gw_up (gw_up m 119 (8 * k + m 118 k) p) 120 (8 * k + m 118 k) l) 121 (m 118 k) 10 118 k = m 118 k := by simp [gw_up]
    rw [e2, gw_w_id (by omega), gd_comes, if_pos h]
  · apply r_X12_comes_47
    refine ⟨gw_inm hk.1 (by omega), gw_inm hk.1 (by omega), gw_rE rfl ?_⟩
    have e2 : gw_up (gw_up m 119 (8 * k + m 118 k) p) 120 (8 * k + m 118 k) l 118 k = m 118 k := by simp [gw_up]
    rw [e2, gw_w_id (by omega), gd_comes, if_neg h]
theorem sp_X12_isLength (k l : Int) (m : gw_Mem) : gw_SpecI M_X12_isLength 11 [gI k, gI l] m (fun r m' => r = gw_tf (gd_lo k ≤ l ∧ l ≤ gd_hi k) ∧ m' = m) := by
  refine gw_intro pl_X12_isLength rfl (fun Γ => ?_)
  apply r_X12_isLength_0
  exact gw_CI.eq (sp_X12_in l (gd_lo k) (gd_hi k) m) rfl ⟨gw_tfb _, gw_rE rfl rfl⟩
def ga_mark (g : gw_Mem) (k p l : Int) : Int := if (0 ≤ k ∧ k ≤ 3) ∧ (0 ≤ p ∧ p ≤ 99) ∧ gd_lo k ≤ l ∧ l ≤ gd_hi k then (if 0 ≤ gd_ma g k p (g 118 k).toNat then -2 else if g 118 k = 8 then -3 else g 118 k) else -1
def gu_mark (g : gw_Mem) (k p l : Int) : gw_Mem := if (0 ≤ k ∧ k ≤ 3) ∧ (0 ≤ p ∧ p ≤ 99) ∧ gd_lo k ≤ l ∧ l ≤ gd_hi k then (if 0 ≤ gd_ma g k p (g 118 k).toNat then g else if g 118 k = 8 then g else gd_comes g k p l) else g
theorem sp_X12_mark (k p l : Int) (m : gw_Mem) (hJ : gd_JP m) : gw_SpecI M_X12_mark 13 [gR 117, gI k, gI p, gI l] m (fun r m' => r = ga_mark m k p l ∧ m' = gu_mark m k p l) := by
  refine gw_intro pl_X12_mark rfl (fun Γ => ?_)
  apply r_X12_mark_0
  refine gw_CI.eq (sp_X12_in k 0 3 m) rfl (gw_b_tf (fun h => ?_) (fun h1 => ?_))
  · exact gw_rE (by rw [ga_mark, if_neg (fun z => h z.1)]) (by rw [gu_mark, if_neg (fun z => h z.1)])
  refine gw_CI.eq (sp_X12_in p 0 99 m) rfl (gw_b_tf (fun h => ?_) (fun h2 => ?_))
  · exact gw_rE (by rw [ga_mark, if_neg (fun z => h z.2.1)]) (by rw [gu_mark, if_neg (fun z => h z.2.1)])
  refine gw_CI.eq (sp_X12_isLength k l m) rfl (gw_b_tf (fun h => ?_) (fun h3 => ?_))
  · exact gw_rE (by rw [ga_mark, if_neg (fun z => h z.2.2)]) (by rw [gu_mark, if_neg (fun z => h z.2.2)])
  have hs := hJ.2.1 k h1
  refine gw_CI.eq (sp_X12_markAt k p m h1 hs) rfl ⟨fun h4 => ?_, fun h4 => ?_⟩
  · refine ⟨gw_inm h1.1 (by omega), fun h5 => ?_, fun h5 => ?_⟩
    · exact gw_rE (by rw [ga_mark, if_pos ⟨h1, h2, h3⟩, if_neg (by omega), if_pos h5]) (by rw [gu_mark, if_pos ⟨h1, h2, h3⟩, if_neg (by omega), if_pos h5])
    · refine gw_CI.eq (sp_X12_comes k p l m h1 (by omega)) rfl ?_
      exact gw_rE (by rw [ga_mark, if_pos ⟨h1, h2, h3⟩, if_neg (by omega), if_neg h5]) (by rw [gu_mark, if_pos ⟨h1, h2, h3⟩, if_neg (by omega), if_neg h5])
  · exact gw_rE (by rw [ga_mark, if_pos ⟨h1, h2, h3⟩, if_pos (by omega)]) (by rw [gu_mark, if_pos ⟨h1, h2, h3⟩, if_pos (by omega)])
def ga_told (g : gw_Mem) (k j w : Int) : Int := if (0 ≤ k ∧ k ≤ 3) ∧ (0 ≤ j ∧ j ≤ g 118 k - 1) ∧ 0 ≤ w ∧ w ≤ (if k = 0 then 2 else 1) then (if w = 0 then g 119 (8 * k + j) else if w = 1 then g 120 (8 * k + j) else g 121 j) else -1
theorem sp_X12_told (k j w : Int) (m : gw_Mem) (hJ : gd_JP m) : gw_SpecI M_X12_told 12 [gR 117, gI k, gI j, gI w] m (fun r m' => r = ga_told m k j w ∧ m' = m) := by
  refine gw_intro pl_X12_told rfl (fun Γ => ?_)
  apply r_X12_told_0
  refine gw_CI.eq (sp_X12_in k 0 3 m) rfl (gw_b_tf (fun h => ?_) (fun h1 => ⟨gw_inm h1.1 (by omega), ?_⟩))
  · exact gw_rE (by rw [ga_told, if_neg (fun z => h z.1)]) rfl
  have hs := hJ.2.1 k h1
  rw [gw_w_id (x := m 118 k - 1) (by omega)]
  refine gw_CI.eq (sp_X12_in j 0 (m 118 k - 1) m) rfl (gw_b_tf (fun h => ?_) (fun h2 => ?_))
  · exact gw_rE (by rw [ga_told, if_neg (fun z => h z.2.1)]) rfl
  refine gw_CI.eq (sp_X12_in w 0 (if k = 0 then 2 else 1) m) rfl (gw_b_tf (fun h => ?_) (fun h3 => ?_))
  · exact gw_rE (by rw [ga_told, if_neg (fun z => h z.2.2)]) rfl
  have e1 : gw_w (gw_w (8 * k) + j) = 8 * k + j := by rw [gw_w_id (x := 8 * k) (by omega), gw_w_id (by omega)]
  rw [e1]
  refine ⟨fun _ => gw_inm (by omega) (by omega), fun _ => ⟨fun _ => gw_inm (by omega) (by omega), fun _ => gw_inm (by omega) (by omega)⟩, ?_⟩
  exact gw_rE (show _ = ga_told m k j w from (if_pos ⟨h1, h2, h3⟩).symm) rfl
def ga_value (g : gw_Mem) (j v : Int) : Int := if (0 ≤ j ∧ j ≤ g 118 0 - 1) ∧ 0 ≤ v ∧ v ≤ 99 then g 121 j else -1
def gu_value (g : gw_Mem) (j v : Int) : gw_Mem := if (0 ≤ j ∧ j ≤ g 118 0 - 1) ∧ 0 ≤ v ∧ v ≤ 99 then gw_up g 121 j v else g
theorem sp_X12_value (j v : Int) (m : gw_Mem) (hJ : gd_JP m) : gw_SpecI M_X12_value 12 [gR 117, gI j, gI v] m (fun r m' => r = ga_value m j v ∧ m' = gu_value m j v) := by
  refine gw_intro pl_X12_value rfl (fun Γ => ?_)
  apply r_X12_value_0
  have hs := hJ.2.1 0 (by omega)
  rw [gw_w_id (x := m 118 0 - 1) (by omega)]
  refine gw_CI.eq (sp_X12_in j 0 (m 118 0 - 1) m) rfl (gw_b_tf (fun h => ?_) (fun h1 => ?_))
  · exact gw_rE (by rw [ga_value, if_neg (fun z => h z.1)]) (by rw [gu_value, if_neg (fun z => h z.1)])
  refine gw_CI.eq (sp_X12_in v 0 99 m) rfl (gw_b_tf (fun h => ?_) (fun h2 => ?_))
  · exact gw_rE (by rw [ga_value, if_neg (fun z => h z.2)]) (by rw [gu_value, if_neg (fun z => h z.2)])
  refine ⟨gw_inm (by omega) (by omega), gw_inm (by omega) (by omega), ?_⟩
  exact gw_rE (by rw [ga_value, if_pos ⟨h1, h2⟩]) (by rw [gu_value, if_pos ⟨h1, h2⟩])
theorem sp_X12_tail (m : gw_Mem) (hn : 0 ≤ m 117 6 ∧ m 117 6 ≤ 10) : gw_SpecI M_X12_tail 10 [gR 117] m (fun r m' => r = gd_tl m (m 117 6).toNat ∧ m' = m) := by
  refine gw_intro pl_X12_tail rfl (fun Γ => ?_)
  apply r_X12_tail_0
  obtain ⟨n, hn1⟩ := gw_nat hn.1
  have key : ∀ (j i : Nat), i + j = n → gw_G M_X12_tail 10 (fun r m' => ∃ v, r = some (gI v) ∧ v = gd_tl m (m 117 6).toNat ∧ m' = m) Γ 5 [some (gR 117), some (gI (gd_tl m i)), some (gI (i : Int))] [] m := by
    intro j
    induction j with
    | zero =>
      intro i hi
      apply r_X12_tail_5
      refine ⟨fun _ => gw_rE ?_ rfl, fun h => absurd (by omega) h⟩
      rw [hn1, Int.toNat_natCast, ← hi, Nat.add_zero]
    | succ j ih =>
      intro i hi
      apply r_X12_tail_5
      refine ⟨fun h => absurd h (by omega), fun h => ⟨gw_inm (by omega) (by omega), ?_⟩⟩
      rw [gw_w1 (by omega)]
      have h1 := ih (i + 1) (by omega)
      rw [gd_tl] at h1
      exact h1
  exact key n 0 (by omega)
def gd_joins (g : gw_Mem) (k p e : Int) : gw_Mem := gw_up (gw_up (gw_up (gw_up g 123 (g 117 6) k) 124 (g 117 6) p) 125 (g 117 6) e) 117 6 (g 117 6 + 1)
theorem sp_X12_joins (k p e : Int) (m : gw_Mem) (hn : 0 ≤ m 117 6 ∧ m 117 6 < 10) : gw_SpecI M_X12_joins 10 [gR 117, gI k, gI p, gI e] m (fun r m' => r = m 117 6 ∧ m' = gd_joins m k p e) := by
  refine gw_intro pl_X12_joins rfl (fun Γ => ?_)
  apply r_X12_joins_0
  have e0 : ∀ (a b c : Int) (o : Nat), o ≠ 117 → gw_up m o a b 117 c = m 117 c := fun a b c o h => by rw [gw_up_ne (fun z => h z.symm)]
  have e1 : gw_up m 123 (m 117 6) k 117 6 = m 117 6 := by simp [gw_up]
  rw [e1]
  have e2 : gw_up (gw_up m 123 (m 117 6) k) 124 (m 117 6) p 117 6 = m 117 6 := by simp [gw_up]
  rw [e2]
  have e3 : gw_up (gw_up (gw_up m 123 (m 117 6) k) 124 (m 117 6) p) 125 (m 117 6) e 117 6 = m 117 6 := by simp [gw_up]
  rw [e3]
  refine ⟨gw_inm hn.1 hn.2, gw_inm hn.1 hn.2, gw_inm hn.1 hn.2, ?_⟩
  rw [gw_up_at, if_pos rfl, gw_w_id (x := m 117 6 + 1) (by omega), gw_w_id (by omega)]
  exact gw_rE (by omega) rfl
def ga_person (g : gw_Mem) (k p : Int) : Int := if (0 ≤ k ∧ k ≤ 3) ∧ 1 ≤ p ∧ p ≤ 4 then (if k = 3 ∧ 0 ≤ gd_tl g (g 117 6).toNat then -2 else if g 117 6 = 10 then -3 else g 117 6) else -1
def gu_person (g : gw_Mem) (k p e : Int) : gw_Mem := if (0 ≤ k ∧ k ≤ 3) ∧ 1 ≤ p ∧ p ≤ 4 then (if k = 3 ∧ 0 ≤ gd_tl g (g 117 6).toNat then g else if g 117 6 = 10 then g else gd_joins g k p e) else g
theorem sp_X12_person (k p e : Int) (m : gw_Mem) (hJ : gd_JP m) (he : gw_b e) : gw_SpecI M_X12_person 12 [gR 117, gI k, gI p, gI e] m (fun r m' => r = ga_person m k p ∧ m' = gu_person m k p e) := by
  refine gw_intro pl_X12_person rfl (fun Γ => ?_)
  have hn := hJ.2.2.2.2.1
  have e0 : (if e = 0 then (0 : Int) else 1) = e := by rcases he with rfl | rfl <;> rfl
  have h41 : (0 ≤ k ∧ k ≤ 3) ∧ 1 ≤ p ∧ p ≤ 4 → ¬ (k = 3 ∧ 0 ≤ gd_tl m (m 117 6).toNat) → gw_G M_X12_person 12 (fun r m' => ∃ v, r = some (gI v) ∧ v = ga_person m k p ∧ m' = gu_person m k p e) Γ 41 [some (gR 117), some (gI k), some (gI p), some (gI e)] [] m := by
    intro h1 h2
    apply r_X12_person_41
    refine ⟨fun h => ?_, fun h => ?_⟩
    · exact gw_rE (by rw [ga_person, if_pos h1, if_neg h2, if_pos h]) (by rw [gu_person, if_pos h1, if_neg h2, if_pos h])
    · rw [e0]
      refine gw_CI.eq (sp_X12_joins k p e m (by omega)) rfl ?_
      exact gw_rE (by rw [ga_person, if_pos h1, if_neg h2, if_neg h]) (by rw [gu_person, if_pos h1, if_neg h2, if_neg h])
  apply r_X12_person_0
  refine gw_CI.eq (sp_X12_in k 0 3 m) rfl (gw_b_tf (fun h => ?_) (fun h1 => ?_))
  · exact gw_rE (by rw [ga_person, if_neg (fun z => h z.1)]) (by rw [gu_person, if_neg (fun z => h z.1)])
  refine gw_CI.eq (sp_X12_in p 1 4 m) rfl (gw_b_tf (fun h => ?_) (fun h2 => ?_))
  · exact gw_rE (by rw [ga_person, if_neg (fun z => h z.2)]) (by rw [gu_person, if_neg (fun z => h z.2)])
  refine ⟨fun h3 => ?_, fun h3 => h41 ⟨h1, h2⟩ (fun z => h3 z.1)⟩
  refine gw_CI.eq (sp_X12_tail m hn) rfl ⟨fun h4 => h41 ⟨h1, h2⟩ (fun z => by omega), fun h4 => ?_⟩
  exact gw_rE (by rw [ga_person, if_pos ⟨h1, h2⟩, if_pos ⟨h3, by omega⟩]) (by rw [gu_person, if_pos ⟨h1, h2⟩, if_pos ⟨h3, by omega⟩])
theorem sp_X12_isOne (p : Int) (m : gw_Mem) (hn : 0 ≤ m 117 6 ∧ m 117 6 ≤ 10) : gw_SpecI M_X12_isOne 11 [gR 117, gI p] m (fun r m' => r = gw_tf (0 ≤ p ∧ p ≤ m 117 6 - 1) ∧ m' = m) := by
  refine gw_intro pl_X12_isOne rfl (fun Γ => ?_)
  apply r_X12_isOne_0
  rw [gw_w_id (by omega)]
  exact gw_CI.eq (sp_X12_in p 0 (m 117 6 - 1) m) rfl ⟨gw_tfb _, gw_rE rfl rfl⟩
def ga_of (g : gw_Mem) (p w : Int) : Int := if (0 ≤ p ∧ p ≤ g 117 6 - 1) ∧ 0 ≤ w ∧ w ≤ 2 then (if w = 0 then g 123 p else if w = 1 then g 124 p else g 125 p) else -1
theorem sp_X12_of (p w : Int) (m : gw_Mem) (hJ : gd_JP m) : gw_SpecI M_X12_of 12 [gR 117, gI p, gI w] m (fun r m' => r = ga_of m p w ∧ m' = m) := by
  refine gw_intro pl_X12_of rfl (fun Γ => ?_)
  apply r_X12_of_0
  have hn := hJ.2.2.2.2.1
  refine gw_CI.eq (sp_X12_isOne p m hn) rfl (gw_b_tf (fun h => ?_) (fun h1 => ?_))
  · exact gw_rE (by rw [ga_of, if_neg (fun z => h z.1)]) rfl
  refine gw_CI.eq (sp_X12_in w 0 2 m) rfl (gw_b_tf (fun h => ?_) (fun h2 => ?_))
  · exact gw_rE (by rw [ga_of, if_neg (fun z => h z.2)]) rfl
  refine ⟨fun _ => gw_inm (by omega) (by omega), fun _ => ⟨fun _ => gw_inm (by omega) (by omega), fun _ => gw_inm (by omega) (by omega)⟩, ?_⟩
  exact gw_rE (show _ = ga_of m p w from (if_pos ⟨h1, h2⟩).symm) rfl
def gd_rlo (w : Int) : Int := if w = 0 then 1 else if w = 4 then 1 else 0
def gd_rhi (w : Int) : Int := if w = 0 then 4 else if w = 1 then 10 else if w = 2 then 9 else if w = 3 then 30 else 20
theorem sp_X12_isRule (w v : Int) (m : gw_Mem) : gw_SpecI M_X12_isRule 11 [gI w, gI v] m (fun r m' => r = gw_tf ((0 ≤ w ∧ w ≤ 4) ∧ gd_rlo w ≤ v ∧ v ≤ gd_rhi w) ∧ m' = m) := by
  refine gw_intro pl_X12_isRule rfl (fun Γ => ?_)
  apply r_X12_isRule_0
  have key : ∀ a b : Int, (0 ≤ w ∧ w ≤ 4) → gd_rlo w = a → gd_rhi w = b → gw_tf (a ≤ v ∧ v ≤ b) = gw_tf ((0 ≤ w ∧ w ≤ 4) ∧ gd_rlo w ≤ v ∧ v ≤ gd_rhi w) := by
    intro a b h h1 h2
    subst h1; subst h2
    unfold gw_tf
    simp only [h, true_and]
  refine ⟨fun h => ?_, fun h => ?_, fun h => ?_, fun h => ?_, fun h => ⟨fun h2 => ?_, fun h2 => ?_⟩⟩
  · exact gw_CI.eq (sp_X12_in v 1 4 m) rfl ⟨gw_tfb _, gw_rE (key 1 4 (by omega) (by subst h; rfl) (by subst h; rfl)) rfl⟩
  · exact gw_CI.eq (sp_X12_in v 0 10 m) rfl ⟨gw_tfb _, gw_rE (key 0 10 (by omega) (by subst h; rfl) (by subst h; rfl)) rfl⟩
  · exact gw_CI.eq (sp_X12_in v 0 9 m) rfl ⟨gw_tfb _, gw_rE (key 0 9 (by omega) (by subst h; rfl) (by subst h; rfl)) rfl⟩
  · exact gw_CI.eq (sp_X12_in v 0 30 m) rfl ⟨gw_tfb _, gw_rE (key 0 30 (by omega) (by subst h; rfl) (by subst h; rfl)) rfl⟩
  · refine gw_CI.eq (sp_X12_in v 1 20 m) rfl (gw_rE ?_ rfl)
    rw [← key 1 20 (by omega) (by subst h2; rfl) (by subst h2; rfl)]
    unfold gw_tf
    split
    · split <;> simp_all
    · split <;> simp_all
  · refine gw_rE ?_ rfl
    unfold gw_tf
    rw [if_neg (by omega)]
def ga_rule (g : gw_Mem) (w v : Int) : Int := if (0 ≤ w ∧ w ≤ 4) ∧ gd_rlo w ≤ v ∧ v ≤ gd_rhi w then g 122 w else -1
def gu_rule (g : gw_Mem) (w v : Int) : gw_Mem := if (0 ≤ w ∧ w ≤ 4) ∧ gd_rlo w ≤ v ∧ v ≤ gd_rhi w then gw_up g 122 w v else g
theorem sp_X12_rule (w v : Int) (m : gw_Mem) : gw_SpecI M_X12_rule 12 [gR 117, gI w, gI v] m (fun r m' => r = ga_rule m w v ∧ m' = gu_rule m w v) := by
  refine gw_intro pl_X12_rule rfl (fun Γ => ?_)
  apply r_X12_rule_0
  refine gw_CI.eq (sp_X12_isRule w v m) rfl (gw_b_tf (fun h => ?_) (fun h1 => ?_))
  · exact gw_rE (by rw [ga_rule, if_neg h]) (by rw [gu_rule, if_neg h])
  exact ⟨gw_inm (by omega) (by omega), gw_inm (by omega) (by omega), gw_rE (by rw [ga_rule, if_pos h1]) (by rw [gu_rule, if_pos h1])⟩
/-- how many of the first n stops are met -/
def gd_met (g : gw_Mem) (n : Nat) : Int := gw_sum (fun j => if g 117 0 ≤ g 119 j then 0 else 1) n
theorem gd_met_rng (g : gw_Mem) (n : Nat) : 0 ≤ gd_met g n ∧ gd_met g n ≤ n := by
  unfold gd_met
  induction n with
  | zero => simp [gw_sum]
  | succ n ih => rw [gw_sum]; split <;> omega
def gd_stops (g : gw_Mem) : Int := gd_met g (g 118 0).toNat
theorem sp_X12_stopsMet (m : gw_Mem) (hJ : gd_JP m) : gw_SpecI M_X12_stopsMet 10 [gR 117] m (fun r m' => r = gd_stops m ∧ m' = m) := by
  refine gw_intro pl_X12_stopsMet rfl (fun Γ => ?_)
  apply r_X12_stopsMet_0
  have hs := hJ.2.1 0 (by omega)
  obtain ⟨n, hn⟩ := gw_nat hs.1
  have key : ∀ (j i : Nat), i + j = n → gw_G M_X12_stopsMet 10 (fun r m' => ∃ v, r = some (gI v) ∧ v = gd_stops m ∧ m' = m) Γ 4 [some (gR 117), some (gI (gd_met m i)), some (gI (i : Int))] [] m := by
    intro j
    induction j with
    | zero =>
      intro i hi
      apply r_X12_stopsMet_4
      refine ⟨fun _ => gw_rE ?_ rfl, fun h => absurd (by omega) h⟩
      rw [gd_stops, hn, Int.toNat_natCast, ← hi, Nat.add_zero]
    | succ j ih =>
      intro i hi
      apply r_X12_stopsMet_4
      refine ⟨fun h => absurd h (by omega), fun h => ⟨gw_inm (by omega) (by omega), ?_⟩⟩
      have hr := gd_met_rng m i
      rw [gw_w1 (by omega), gw_w_id (by split <;> omega)]
      exact ih (i + 1) (by omega)
  exact key n 0 (by omega)
def ga_count (g : gw_Mem) (w : Int) : Int := if 0 ≤ w ∧ w ≤ 3 then g 118 w else if w = 4 then g 117 6 else if w = 5 then gd_stops g else -1
theorem sp_X12_count (w : Int) (m : gw_Mem) (hJ : gd_JP m) : gw_SpecI M_X12_count 12 [gR 117, gI w] m (fun r m' => r = ga_count m w ∧ m' = m) := by
  refine gw_intro pl_X12_count rfl (fun Γ => ?_)
  apply r_X12_count_0
  refine gw_CI.eq (sp_X12_in w 0 3 m) rfl (gw_b_tf (fun h => ⟨fun h1 => ?_, fun h1 => ⟨fun h2 => ?_, fun h2 => ?_⟩⟩) (fun h => ⟨gw_inm h.1 (by omega), ?_⟩))
  · exact gw_rE (by rw [ga_count, if_neg h, if_pos h1]) rfl
  · exact gw_CI.eq (sp_X12_stopsMet m hJ) rfl (gw_rE (by rw [ga_count, if_neg h, if_neg h1, if_pos h2]) rfl)
  · exact gw_rE (by rw [ga_count, if_neg h, if_neg h1, if_neg h2]) rfl
  · exact gw_rE (by rw [ga_count, if_pos h]) rfl
