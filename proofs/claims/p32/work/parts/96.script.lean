/-! the law's own readings of the script -/
def gp_c (cx : gw_Cx) (k : Int) : Int := gw_and (if gp_L cx ≤ k then gw_w ((gw_w (15485957 * k)) + 107) else gp_X cx k) 2147483647
theorem gp_and31 (x : Int) : 0 ≤ gw_and x 2147483647 := by
  obtain ⟨j, hj, e⟩ := pk_andE (Int32.ofInt x) (m := Int32.ofInt 2147483647) 31 (by decide)
  unfold gw_and
  rw [e]
  have h : (Int32.ofNat j).toInt = (j : Int) := Int32.toInt_ofNat_of_lt (by omega)
  show 0 ≤ (Int32.ofNat j).toInt
  omega
theorem gp_c0 (cx : gw_Cx) (k : Int) : 0 ≤ gp_c cx k ∧ gw_inR (gp_c cx k) := ⟨gp_and31 _, gw_rng _⟩
theorem gp_shr {x : Int} (y : Int) (h : 0 ≤ x ∧ gw_inR x) : 0 ≤ gw_shr x y ∧ gw_inR (gw_shr x y) := by
  refine ⟨?_, gw_rng _⟩
  unfold gw_shr
  rw [pk_shr (Int32.ofInt x) (Int32.ofInt y &&& 31) _ rfl, gw_toInt_id h.2, Int.shiftRight_eq_div_pow]
  exact Int.ediv_nonneg h.1 (by exact Int.natCast_nonneg _)
theorem gp_tmod {x k : Int} (h : 0 ≤ x) (hk : 0 < k) : 0 ≤ x.tmod k ∧ x.tmod k < k := by
  rw [Int.tmod_eq_emod_of_nonneg h]
  exact ⟨Int.emod_nonneg x (by omega), Int.emod_lt_of_pos x hk⟩
/-- a number with a name of its own: compared by its name alone -/
def gp_fz (n : Nat) (t : List Int) (x : Int) : Int := if n = 0 then x else gp_fz (n - 1) t x
termination_by n
theorem gp_fz_eq (t : List Int) (x : Int) : gp_fz 0 t x = x := by
  unfold gp_fz
  exact if_pos rfl
def gp_end (cx : gw_Cx) : Int := gp_fz 0 [1] (gw_w (10 + ((gp_c cx 0).tmod 50)))
def gp_marks (cx : gw_Cx) (x1 : Int) : Int := gp_fz 0 [2, x1] ((gw_shr (gp_c cx 0) (gw_w (6 + (gw_w (2 * x1))))).tmod 4)
def gp_mx (cx : gw_Cx) (x1 x2 : Int) : Int := gw_shr (gp_c cx (gw_w (1 + x1))) (gw_w (5 * x2))
def gp_mark (cx : gw_Cx) (x1 x2 x3 : Int) : Int := gp_fz 0 [3, x1, x2, x3] (if x3 = 0 then gw_w ((gw_w (3 * ((gp_mx cx x1 x2).tmod 20))) + x2) else (if x1 = 1 then gw_w (2 + ((gw_shr (gp_mx cx x1 x2) 3).tmod (if x1 = 3 then (25 : Int) else (8 : Int)))) else gw_w (1 + ((gw_shr (gp_mx cx x1 x2) 3).tmod (if x1 = 3 then (25 : Int) else (8 : Int))))))
def gp_people (cx : gw_Cx) (x1 : Int) : Int := gp_fz 0 [4, x1] (gw_w (1 + ((gw_shr (gp_c cx 0) 15).tmod x1)))
def gp_x (cx : gw_Cx) (p : Int) : Int := gw_shr (gp_c cx 5) (gw_w (3 * p))
def gp_kd (cx : gw_Cx) (p : Int) : Nat → Int
  | 0 => (gp_x cx p).tmod 4
  | o + 1 => if gp_kd cx p o = 3 then (if (gp_x cx o).tmod 4 = 3 then (0 : Int) else gp_kd cx p o) else gp_kd cx p o
def gp_one (cx : gw_Cx) (x1 x2 : Int) : Int := gp_fz 0 [5, x1, x2] (if x2 = 0 then gp_kd cx x1 x1.toNat else (if x2 = 1 then gw_w (1 + ((gw_shr (gp_x cx x1) 2).tmod 4)) else gw_and (gw_shr (gp_x cx x1) 4) 1))
def gp_rule (cx : gw_Cx) (x1 : Int) : Int := gp_fz 0 [6, x1] (if x1 = 0 then gw_w (1 + ((gp_c cx 6).tmod 4)) else (if x1 = 1 then (gw_shr (gp_c cx 6) 2).tmod 11 else (if x1 = 2 then (gw_shr (gp_c cx 6) 6).tmod 5 else (if x1 = 3 then (gw_shr (gp_c cx 6) 9).tmod 16 else gw_w (1 + ((gw_shr (gp_c cx 6) 13).tmod 8))))))
theorem sp_X13_cell (cx : gw_Cx) (k : Int) (hk : 0 ≤ k) (m : gw_Mem) : gw_SpecX cx M_X13_cell 9 [gR 900, gI k] m (fun r m' => r = gp_c cx k ∧ m' = m) := by
  refine gw_introC pl_X13_cell rfl (fun Γ hΓ => ?_)
  subst hΓ
  apply r_X13_cell_0
  exact ⟨fun h => ⟨hk, by omega⟩, gw_rE rfl rfl⟩
theorem sp_X13_end (cx : gw_Cx) (m : gw_Mem) : gw_SpecX cx M_X13_end 10 [gR 900] m (fun r m' => r = gp_end cx ∧ m' = m) := by
  refine gw_introC pl_X13_end rfl (fun Γ hΓ => ?_)
  subst hΓ
  apply r_X13_end_0
  exact gw_CIx.eqX rfl (sp_X13_cell _ 0 (by omega) m) rfl (gw_rE (gp_fz_eq _ _).symm rfl)
theorem sp_X13_marks (cx : gw_Cx) (k : Int) (m : gw_Mem) : gw_SpecX cx M_X13_marks 10 [gR 900, gI k] m (fun r m' => r = gp_marks cx k ∧ m' = m) := by
  refine gw_introC pl_X13_marks rfl (fun Γ hΓ => ?_)
  subst hΓ
  apply r_X13_marks_0
  exact gw_CIx.eqX rfl (sp_X13_cell _ 0 (by omega) m) rfl (gw_rE (gp_fz_eq _ _).symm rfl)
theorem sp_X13_mark (cx : gw_Cx) (k j w : Int) (hk : 0 ≤ k ∧ k ≤ 3) (m : gw_Mem) : gw_SpecX cx M_X13_mark 10 [gR 900, gI k, gI j, gI w] m (fun r m' => r = gp_mark cx k j w ∧ m' = m) := by
  refine gw_introC pl_X13_mark rfl (fun Γ hΓ => ?_)
  subst hΓ
  apply r_X13_mark_0
  refine gw_CIx.eqX rfl (sp_X13_cell _ (gw_w (1 + k)) (by rw [gw_w_id (by omega)]; omega) m) rfl ⟨?_, gw_rE (gp_fz_eq _ _).symm rfl⟩
  split <;> omega
theorem sp_X13_people (cx : gw_Cx) (k : Int) (hk : k ≠ 0) (m : gw_Mem) : gw_SpecX cx M_X13_people 10 [gR 900, gI k] m (fun r m' => r = gp_people cx k ∧ m' = m) := by
  refine gw_introC pl_X13_people rfl (fun Γ hΓ => ?_)
  subst hΓ
  apply r_X13_people_0
  exact gw_CIx.eqX rfl (sp_X13_cell _ 0 (by omega) m) rfl ⟨hk, gw_rE (gp_fz_eq _ _).symm rfl⟩
theorem sp_X13_rule (cx : gw_Cx) (k : Int) (m : gw_Mem) : gw_SpecX cx M_X13_rule 10 [gR 900, gI k] m (fun r m' => r = gp_rule cx k ∧ m' = m) := by
  refine gw_introC pl_X13_rule rfl (fun Γ hΓ => ?_)
  subst hΓ
  apply r_X13_rule_0
  exact gw_CIx.eqX rfl (sp_X13_cell _ 6 (by omega) m) rfl (gw_rE (gp_fz_eq _ _).symm rfl)
theorem sp_X13_one (cx : gw_Cx) (k w : Int) (hk : 0 ≤ k ∧ k ≤ 100) (m : gw_Mem) : gw_SpecX cx M_X13_one 10 [gR 900, gI k, gI w] m (fun r m' => r = gp_one cx k w ∧ m' = m) := by
  refine gw_introC pl_X13_one rfl (fun Γ hΓ => ?_)
  subst hΓ
  obtain ⟨n, hn⟩ := gw_nat hk.1
  have en : k.toNat = n := by omega
  apply r_X13_one_0
  refine gw_CIx.eqX rfl (sp_X13_cell _ 5 (by omega) m) rfl ?_
  have key : ∀ (j i : Nat), i + j = n → gw_G M_X13_one 10 (fun r m' => ∃ v, r = some (gI v) ∧ v = gp_one Γ.1 k w ∧ m' = m) Γ 18 [some (gR 900), some (gI k), some (gI w), some (gI (gw_shr (gp_c Γ.1 5) (gw_w (3 * k)))), some (gI (gp_kd Γ.1 k i)), some (gI (i : Int))] [] m := by
    intro j
    induction j with
    | zero =>
      intro i hi
      apply r_X13_one_18
      refine ⟨fun _ => gw_rE ?_ rfl, fun z => absurd (by omega) z⟩
      unfold gp_one
      rw [gp_fz_eq, en, show i = n by omega]
      rfl
    | succ j ih =>
      intro i hi
      have h1 := ih (i + 1) (by omega)
      rw [gp_kd] at h1
      apply r_X13_one_18
      refine ⟨fun z => absurd z (by omega), fun _ => ⟨fun h3 => ?_, fun h3 => ?_⟩⟩
      · refine gw_CIx.eqX rfl (sp_X13_cell _ 5 (by omega) m) rfl ?_
        apply r_X13_one_52
        rw [gw_w1 (by omega)]
        rw [if_pos h3] at h1
        exact h1
      · apply r_X13_one_52
        rw [gw_w1 (by omega)]
        rw [if_neg h3] at h1
        exact h1
  exact key n 0 (by omega)
/-! how far they reach -/
theorem gp_end_r (cx : gw_Cx) : 10 ≤ gp_end cx ∧ gp_end cx ≤ 59 := by
  have h := gp_tmod (gp_c0 cx 0).1 (show (0 : Int) < 50 by omega)
  unfold gp_end
  rw [gp_fz_eq]
  rw [gw_w_id (by omega)]
  omega
theorem gp_marks_r (cx : gw_Cx) (k : Int) : 0 ≤ gp_marks cx k ∧ gp_marks cx k ≤ 3 := by
  have h := gp_tmod (gp_shr (gw_w (6 + (gw_w (2 * k)))) (gp_c0 cx 0)).1 (show (0 : Int) < 4 by omega)
  unfold gp_marks
  rw [gp_fz_eq]
  omega
theorem gp_place_r (cx : gw_Cx) (k j : Int) (hj : 0 ≤ j ∧ j ≤ 2) : ∃ z : Int, (0 ≤ z ∧ z ≤ 19) ∧ gp_mark cx k j 0 = 3 * z + j := by
  have h := gp_tmod (gp_shr (gw_w (5 * j)) (gp_c0 cx (gw_w (1 + k)))).1 (show (0 : Int) < 20 by omega)
  refine ⟨(gp_mx cx k j).tmod 20, ⟨h.1, by have := h.2; unfold gp_mx; omega⟩, ?_⟩
  have h2 : 0 ≤ (gp_mx cx k j).tmod 20 ∧ (gp_mx cx k j).tmod 20 < 20 := h
  unfold gp_mark
  rw [gp_fz_eq]
  rw [if_pos rfl, gw_w_id (x := 3 * _) (by omega), gw_w_id (by omega)]
theorem gp_place_in (cx : gw_Cx) (k j : Int) (hj : 0 ≤ j ∧ j ≤ 2) : 0 ≤ gp_mark cx k j 0 ∧ gp_mark cx k j 0 ≤ 99 := by
  obtain ⟨z, hz, ez⟩ := gp_place_r cx k j hj
  rw [ez]
  clear ez
  omega
theorem gp_place_ne (cx : gw_Cx) (k i j : Int) (hi : 0 ≤ i ∧ i ≤ 2) (hj : 0 ≤ j ∧ j ≤ 2) (hij : i ≠ j) : gp_mark cx k i 0 ≠ gp_mark cx k j 0 := by
  obtain ⟨z, hz, ez⟩ := gp_place_r cx k i hi
  obtain ⟨y, hy, ey⟩ := gp_place_r cx k j hj
  rw [ez, ey]
  clear ez ey
  omega
theorem gp_len_r (cx : gw_Cx) (k j : Int) : gd_lo k ≤ gp_mark cx k j 1 ∧ gp_mark cx k j 1 ≤ gd_hi k := by
  have hs := (gp_shr 3 (gp_shr (gw_w (5 * j)) (gp_c0 cx (gw_w (1 + k))))).1
  have h8 := gp_tmod hs (show (0 : Int) < 8 by omega)
  have h25 := gp_tmod hs (show (0 : Int) < 25 by omega)
  have e : gw_shr (gw_shr (gp_c cx (gw_w (1 + k))) (gw_w (5 * j))) 3 = gw_shr (gp_mx cx k j) 3 := rfl
  rw [e] at h8 h25
  unfold gp_mark gd_lo gd_hi
  rw [gp_fz_eq]
  rw [if_neg (show ¬ (1 : Int) = 0 by omega)]
  by_cases h1 : k = 1
  · rw [if_pos h1, if_pos h1, if_neg (show ¬ k = 3 by omega), if_neg (show ¬ k = 3 by omega), gw_w_id (by omega)]
    omega
  · rw [if_neg h1, if_neg h1]
    by_cases h3 : k = 3
    · rw [if_pos h3, if_pos h3, gw_w_id (by omega)]
      omega
    · rw [if_neg h3, if_neg h3, gw_w_id (by omega)]
      omega
theorem gp_people_r (cx : gw_Cx) : 1 ≤ gp_people cx 7 ∧ gp_people cx 7 ≤ 7 := by
  have h := gp_tmod (gp_shr 15 (gp_c0 cx 0)).1 (show (0 : Int) < 7 by omega)
  unfold gp_people
  rw [gp_fz_eq]
  rw [gw_w_id (by omega)]
  omega
theorem gp_rule_r (cx : gw_Cx) (k : Int) (hk : 0 ≤ k ∧ k ≤ 4) : gd_rlo k ≤ gp_rule cx k ∧ gp_rule cx k ≤ gd_rhi k ∧ (k = 2 → gp_rule cx k < 5) := by
  have c6 := gp_c0 cx 6
  have h0 := gp_tmod c6.1 (show (0 : Int) < 4 by omega)
  have h1 := gp_tmod (gp_shr 2 c6).1 (show (0 : Int) < 11 by omega)
  have h2 := gp_tmod (gp_shr 6 c6).1 (show (0 : Int) < 5 by omega)
  have h3 := gp_tmod (gp_shr 9 c6).1 (show (0 : Int) < 16 by omega)
  have h4 := gp_tmod (gp_shr 13 c6).1 (show (0 : Int) < 8 by omega)
  unfold gp_rule gd_rlo gd_rhi
  rw [gp_fz_eq]
  by_cases e0 : k = 0
  · rw [if_pos e0, if_pos e0, if_pos e0, gw_w_id (by omega)]; omega
  rw [if_neg e0, if_neg e0, if_neg e0]
  by_cases e1 : k = 1
  · rw [if_pos e1, if_pos e1, if_neg (by omega)]; omega
  rw [if_neg e1, if_neg e1]
  by_cases e2 : k = 2
  · rw [if_pos e2, if_pos e2, if_neg (by omega)]; omega
  rw [if_neg e2, if_neg e2]
  by_cases e3 : k = 3
  · rw [if_pos e3, if_pos e3, if_neg (by omega)]; omega
  rw [if_neg e3, if_neg e3, if_pos (by omega), gw_w_id (by omega)]
  omega
theorem gp_x0 (cx : gw_Cx) (p : Int) : 0 ≤ gp_x cx p ∧ gw_inR (gp_x cx p) := gp_shr _ (gp_c0 cx 5)
theorem gp_kd_r (cx : gw_Cx) (p : Int) (o : Nat) : (0 ≤ gp_kd cx p o ∧ gp_kd cx p o ≤ 3) ∧ (gp_kd cx p o = 3 → (gp_x cx p).tmod 4 = 3 ∧ ∀ i : Nat, i < o → (gp_x cx i).tmod 4 ≠ 3) := by
  induction o with
  | zero =>
    have h := gp_tmod (gp_x0 cx p).1 (show (0 : Int) < 4 by omega)
    rw [gp_kd]
    exact ⟨by omega, fun z => ⟨z, fun i hi => by omega⟩⟩
  | succ o ih =>
    rw [gp_kd]
    by_cases h1 : gp_kd cx p o = 3
    · rw [if_pos h1]
      by_cases h2 : (gp_x cx o).tmod 4 = 3
      · rw [if_pos h2]
        exact ⟨by omega, fun z => by omega⟩
      · rw [if_neg h2]
        refine ⟨ih.1, fun z => ⟨(ih.2 z).1, fun i hi => ?_⟩⟩
        by_cases e : i = o
        · rw [e]; exact h2
        · exact (ih.2 z).2 i (by omega)
    · rw [if_neg h1]
      exact ⟨ih.1, fun z => absurd z h1⟩
theorem gp_one_r (cx : gw_Cx) (p : Int) : (0 ≤ gp_one cx p 0 ∧ gp_one cx p 0 ≤ 3) ∧ (1 ≤ gp_one cx p 1 ∧ gp_one cx p 1 ≤ 4) ∧ gw_b (gp_one cx p 2) := by
  have k := (gp_kd_r cx p p.toNat).1
  have h := gp_tmod (gp_shr 2 (gp_x0 cx p)).1 (show (0 : Int) < 4 by omega)
  unfold gp_one
  rw [gp_fz_eq, gp_fz_eq, gp_fz_eq]
  rw [if_pos rfl, if_neg (show ¬ (1 : Int) = 0 by omega), if_pos rfl, if_neg (show ¬ (2 : Int) = 0 by omega), if_neg (show ¬ (2 : Int) = 1 by omega)]
  rw [gw_w_id (by omega)]
  exact ⟨k, by omega, gd_and01 _⟩
theorem gp_one_tail (cx : gw_Cx) {q p : Nat} (h : q < p) (hp : gp_one cx p 0 = 3) : gp_one cx q 0 ≠ 3 := by
  intro hq
  unfold gp_one at hp hq
  rw [gp_fz_eq] at hp hq
  rw [if_pos rfl] at hp hq
  have a := (gp_kd_r cx (p : Int) (p : Int).toNat).2 hp
  have b := (gp_kd_r cx (q : Int) (q : Int).toNat).2 hq
  exact a.2 q (by omega) b.1
