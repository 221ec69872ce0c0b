/-! what the reference tells of the walk -/
def gd_ha (m : gw_Mem) : Nat → Int
  | 0 => 0
  | i + 1 => gw_w (gd_ha m i + m 132 i)
def gd_lof (m : gw_Mem) : Nat → Int
  | 0 => -4
  | i + 1 => if gd_lof m i < 0 then m 132 i else if gd_lof m i ≤ m 132 i then gd_lof m i else m 132 i
def gd_mx (m : gw_Mem) : Nat → Int
  | 0 => -4
  | i + 1 => if m 134 i ≤ gd_mx m i then gd_mx m i else m 134 i
def gd_nt (m : gw_Mem) : Nat → Int := gw_sum (fun i => if m 134 i < 0 then 1 else 0)
def gd_alt (m : gw_Mem) : Int := if gd_nt m (gd_n m) = 0 then gd_mx m (gd_n m) else -4
def gd_ls (m : gw_Mem) : Nat → Int
  | 0 => 0
  | i + 1 => gw_or (gd_ls m i) (if gd_lost m i = 0 then 0 else gw_shl 1 i)
theorem gd_nt_mono (m : gw_Mem) (i k : Nat) : 0 ≤ gd_nt m i ∧ gd_nt m i ≤ gd_nt m (i + k) := by
  have h : ∀ n, 0 ≤ gd_nt m n ∧ gd_nt m n ≤ n := gw_sum_01 (fun i => by split <;> omega)
  induction k with
  | zero => exact ⟨(h i).1, Int.le_refl _⟩
  | succ k ih =>
    refine ⟨(h i).1, ?_⟩
    have z : gd_nt m (i + (k + 1)) = gd_nt m (i + k) + (if m 134 ((i + k : Nat) : Int) < 0 then 1 else 0) := rfl
    rw [z]
    split <;> omega
def ga_fate (g : gw_Mem) (x w : Int) : Int := if (0 ≤ x ∧ x ≤ g 117 6 - 1) ∧ 0 ≤ w ∧ w ≤ 3 then (if w = 0 then gd_walks g 132 x else if w = 1 then gd_walks g 133 x else if w = 2 then gd_walks g 134 x else gd_walks g 131 x) else -1
def gu_fate (g : gw_Mem) (x w : Int) : gw_Mem := if (0 ≤ x ∧ x ≤ g 117 6 - 1) ∧ 0 ≤ w ∧ w ≤ 3 then gd_walks g else g
def ga_at (g : gw_Mem) (t x : Int) : Int := if (0 ≤ t ∧ t ≤ 299) ∧ -2 ≤ x ∧ x ≤ g 117 6 - 1 then gd_walks g 135 (12 * t + (if x = -1 then 0 else if x = -2 then 1 else 2 + x)) else -1
def gu_at (g : gw_Mem) (t x : Int) : gw_Mem := if (0 ≤ t ∧ t ≤ 299) ∧ -2 ≤ x ∧ x ≤ g 117 6 - 1 then gd_walks g else g
def ga_all (g : gw_Mem) (w : Int) : Int := if 0 ≤ w ∧ w ≤ 5 then (if w = 0 then gd_ha (gd_walks g) (gd_n g) else if w = 1 then gd_lof (gd_walks g) (gd_n g) else if w = 2 then gd_walks g 117 29 else if w = 3 then gd_alt (gd_walks g) else if w = 4 then gd_walks g 117 30 else gd_ls (gd_walks g) (gd_n g)) else -1
def gu_all (g : gw_Mem) (w : Int) : gw_Mem := if 0 ≤ w ∧ w ≤ 5 then gd_walks g else g
/-- the search for the best rule -/
def gd_bq (m : gw_Mem) (c : Nat) : gw_Mem := gw_up (gw_up (gw_up m 122 0 (1 + (c : Int) / 55)) 122 1 ((c : Int) / 5 % 11)) 122 2 ((c : Int) % 5)
def gd_bst (g : gw_Mem) (t : Int) : Nat → (Int × Int) × gw_Mem
  | 0 => ((-4, -1), g)
  | c + 1 =>
    if 0 ≤ gd_alt (gd_walks (gd_bq (gd_bst g t c).2 c)) ∧ gd_alt (gd_walks (gd_bq (gd_bst g t c).2 c)) ≤ t ∧ (gd_bst g t c).1.2 < gd_lof (gd_walks (gd_bq (gd_bst g t c).2 c)) (gd_n g) then (((c : Int), gd_lof (gd_walks (gd_bq (gd_bst g t c).2 c)) (gd_n g)), gd_walks (gd_bq (gd_bst g t c).2 c))
    else ((gd_bst g t c).1, gd_walks (gd_bq (gd_bst g t c).2 c))
def gd_bfin (g m : gw_Mem) : gw_Mem := gw_up (gw_up (gw_up m 122 0 (g 122 0)) 122 1 (g 122 1)) 122 2 (g 122 2)
def ga_best (g : gw_Mem) (t w : Int) : Int := if (0 ≤ t ∧ t ≤ 299) ∧ 0 ≤ w ∧ w ≤ 3 then (if g 117 6 = 0 then -2 else if 0 ≤ (gd_bst g t 220).1.1 then (if w = 0 then 1 + (gd_bst g t 220).1.1 / 55 else if w = 1 then (gd_bst g t 220).1.1 / 5 % 11 else if w = 2 then (gd_bst g t 220).1.1 % 5 else (gd_bst g t 220).1.2) else -4) else -1
def gu_best (g : gw_Mem) (t w : Int) : gw_Mem := if (0 ≤ t ∧ t ≤ 299) ∧ 0 ≤ w ∧ w ≤ 3 then (if g 117 6 = 0 then g else gd_bfin g (gd_bst g t 220).2) else g
/-- the plan with other rules is still one -/
theorem gd_JP_rules {g m : gw_Mem} (hJ : gd_JP g) (h0 : m 117 0 = g 117 0) (h6 : m 117 6 = g 117 6) (h8 : m 118 = g 118) (h9 : m 119 = g 119) (h20 : m 120 = g 120) (h21 : m 121 = g 121) (h23 : m 123 = g 123) (h24 : m 124 = g 124) (h25 : m 125 = g 125) (h26 : m 126 = g 126)
    (hr : (1 ≤ m 122 0 ∧ m 122 0 ≤ 4) ∧ (0 ≤ m 122 1 ∧ m 122 1 ≤ 10) ∧ (0 ≤ m 122 2 ∧ m 122 2 ≤ 9) ∧ (0 ≤ m 122 3 ∧ m 122 3 ≤ 30) ∧ 1 ≤ m 122 4 ∧ m 122 4 ≤ 20) : gd_JP m := by
  unfold gd_JP at hJ ⊢
  rw [h0, h6, h8, h9, h20, h21, h23, h24, h25, h26]
  exact ⟨hJ.1, hJ.2.1, hJ.2.2.1, hJ.2.2.2.1, hJ.2.2.2.2.1, hJ.2.2.2.2.2.1, hJ.2.2.2.2.2.2.1, hr, hJ.2.2.2.2.2.2.2.2⟩
/-- all but the first three rules is left by the search -/
def gd_wr (m m' : gw_Mem) : Prop := (∀ o : Nat, ¬ (129 ≤ o ∧ o ≤ 135) → o ≠ 117 → o ≠ 122 → m' o = m o) ∧ (∀ j : Int, ¬ (16 ≤ j ∧ j ≤ 30) → m' 117 j = m 117 j) ∧ ∀ j : Int, ¬ (0 ≤ j ∧ j ≤ 2) → m' 122 j = m 122 j
theorem gd_wr_JP {g m : gw_Mem} (hJ : gd_JP g) (h : gd_wr g m) (hr : (1 ≤ m 122 0 ∧ m 122 0 ≤ 4) ∧ (0 ≤ m 122 1 ∧ m 122 1 ≤ 10) ∧ 0 ≤ m 122 2 ∧ m 122 2 ≤ 9) : gd_JP m := by
  obtain ⟨h1, h2, h3⟩ := h
  have z := hJ.2.2.2.2.2.2.2.1
  refine gd_JP_rules hJ (h2 0 (by omega)) (h2 6 (by omega)) (h1 118 (by omega) (by omega) (by omega)) (h1 119 (by omega) (by omega) (by omega)) (h1 120 (by omega) (by omega) (by omega)) (h1 121 (by omega) (by omega) (by omega)) (h1 123 (by omega) (by omega) (by omega)) (h1 124 (by omega) (by omega) (by omega)) (h1 125 (by omega) (by omega) (by omega)) (h1 126 (by omega) (by omega) (by omega)) ⟨hr.1, hr.2.1, hr.2.2, ?_⟩
  rw [h3 3 (by omega), h3 4 (by omega)]
  exact ⟨z.2.2.2.1, z.2.2.2.2⟩
theorem gd_wr_wf {g m m' : gw_Mem} (h : gd_wr g m) (h' : gd_wf m m') : gd_wr g m' := ⟨fun o a b c => (h'.1 o a b).trans (h.1 o a b c), fun j a => (h'.2 j a).trans (h.2.1 j a), fun j a => by rw [h'.1 122 (by omega) (by omega)]; exact h.2.2 j a⟩
theorem gd_wr_up {g m : gw_Mem} (h : gd_wr g m) {j : Int} (hj : 0 ≤ j ∧ j ≤ 2) (v : Int) : gd_wr g (gw_up m 122 j v) := by
  refine ⟨fun o a b c => ?_, fun i a => ?_, fun i a => ?_⟩
  · rw [gw_up_ne c]; exact h.1 o a b c
  · rw [gw_up_ne (by omega)]; exact h.2.1 i a
  · rw [gw_up_at, if_neg (by omega)]; exact h.2.2 i a
theorem gd_bq_wr {g m : gw_Mem} (h : gd_wr g m) (c : Nat) : gd_wr g (gd_bq m c) := gd_wr_up (gd_wr_up (gd_wr_up h (by omega) _) (by omega) _) (by omega) _
theorem gd_bq_JP {g m : gw_Mem} (hJ : gd_JP g) (h : gd_wr g m) (c : Nat) (hc : c < 220) : gd_JP (gd_bq m c) := by
  refine gd_wr_JP hJ (gd_bq_wr h c) ?_
  unfold gd_bq
  simp only [gw_up_at]
  simp
  omega
theorem gd_bst_wr (g : gw_Mem) (t : Int) (c : Nat) : gd_wr g (gd_bst g t c).2 := by
  induction c with
  | zero => exact ⟨fun _ _ _ _ => rfl, fun _ _ => rfl, fun _ _ => rfl⟩
  | succ c ih =>
    have hw := gd_wr_wf (gd_bq_wr ih c) (gd_walks_wf (gd_bq (gd_bst g t c).2 c))
    rw [gd_bst]
    generalize gd_walks (gd_bq (gd_bst g t c).2 c) = q at hw ⊢
    split <;> exact hw
theorem gd_bst_rng (g : gw_Mem) (t : Int) (c : Nat) : -4 ≤ (gd_bst g t c).1.1 ∧ (gd_bst g t c).1.1 < c := by
  induction c with
  | zero => exact ⟨by show -4 ≤ (-4 : Int); omega, by show (-4 : Int) < 0; omega⟩
  | succ c ih =>
    rw [gd_bst]
    generalize gd_walks (gd_bq (gd_bst g t c).2 c) = q
    split
    · show -4 ≤ (c : Int) ∧ (c : Int) < ((c + 1 : Nat) : Int); omega
    · show -4 ≤ (gd_bst g t c).1.1 ∧ (gd_bst g t c).1.1 < ((c + 1 : Nat) : Int); omega
theorem gd_cd (c : Nat) (hc : c < 220) : gw_w (1 + gw_w ((c : Int).tdiv 55)) = 1 + (c : Int) / 55 ∧ (gw_w ((c : Int).tdiv 5)).tmod 11 = (c : Int) / 5 % 11 ∧ (c : Int).tmod 5 = (c : Int) % 5 := by
  have a1 : (c : Int).tdiv 55 = (c : Int) / 55 := Int.tdiv_eq_ediv_of_nonneg (by omega)
  have a2 : (c : Int).tdiv 5 = (c : Int) / 5 := Int.tdiv_eq_ediv_of_nonneg (by omega)
  have a3 : (c : Int).tmod 5 = (c : Int) % 5 := Int.tmod_eq_emod_of_nonneg (by omega)
  have a4 : ((c : Int) / 5).tmod 11 = (c : Int) / 5 % 11 := Int.tmod_eq_emod_of_nonneg (by omega)
  rw [a1, a2, a3, gw_w_id (x := (c : Int) / 55) (by omega), gw_w_id (x := (c : Int) / 5) (by omega), gw_w_id (by omega), a4]
  exact ⟨rfl, rfl, rfl⟩
theorem gd_bst_s {g : gw_Mem} {t : Int} {c : Nat} {q : gw_Mem} (hq : gd_walks (gd_bq (gd_bst g t c).2 c) = q) : gd_bst g t (c + 1) = if 0 ≤ gd_alt q ∧ gd_alt q ≤ t ∧ (gd_bst g t c).1.2 < gd_lof q (gd_n g) then (((c : Int), gd_lof q (gd_n g)), q) else ((gd_bst g t c).1, q) := by
  subst hq
  rw [gd_bst]
/-- what one is worth -/
def gd_wq (m g : gw_Mem) (x : Int) : gw_Mem := gw_up (gw_up m 123 x (if g 123 x = 3 then 0 else g 123 x)) 125 x (if g 123 x = 3 then g 125 x else 0)
def gd_wz (m g : gw_Mem) (x : Int) : gw_Mem := gw_up (gw_up m 123 x (g 123 x)) 125 x (g 125 x)
def ga_worth (g : gw_Mem) (x : Int) : Int := if 0 ≤ x ∧ x ≤ g 117 6 - 1 then (if g 123 x ≠ 3 ∧ g 125 x = 0 then -100002 else gw_w (gd_ha (gd_walks g) (gd_n g) - gd_ha (gd_walks (gd_wq (gd_walks g) g x)) (gd_n g))) else -100001
def gu_worth (g : gw_Mem) (x : Int) : gw_Mem := if 0 ≤ x ∧ x ≤ g 117 6 - 1 then (if g 123 x ≠ 3 ∧ g 125 x = 0 then g else gd_wz (gd_walks (gd_wq (gd_walks g) g x)) g x) else g
theorem gd_ha_congr {m m' : gw_Mem} (h : m' 132 = m 132) (n : Nat) : gd_ha m' n = gd_ha m n := by
  induction n with
  | zero => rfl
  | succ n ih => rw [gd_ha, gd_ha, h, ih]
theorem gd_JP_worth {g : gw_Mem} (hJ : gd_JP g) (x : Int) : gd_JP (gd_wq g g x) := by
  unfold gd_JP gd_wq at *
  simp (disch := omega) only [gw_up_ne, gw_up_at]
  refine ⟨hJ.1, hJ.2.1, hJ.2.2.1, hJ.2.2.2.1, hJ.2.2.2.2.1, ?_, ?_, hJ.2.2.2.2.2.2.2⟩
  · intro j hj
    have h := hJ.2.2.2.2.2.1 j hj
    unfold gw_b at h ⊢
    refine ⟨?_, h.2.1, ?_⟩
    · split
      · rename_i e
        subst e
        split <;> omega
      · exact h.1
    · split
      · rename_i e
        subst e
        split
        · exact h.2.2
        · exact Or.inl rfl
      · exact h.2.2
  · intro i j hi hj h1 h2
    refine hJ.2.2.2.2.2.2.1 i j hi hj ?_ ?_
    · split at h1
      · rename_i e
        subst e
        split at h1
        · omega
        · exact h1
      · exact h1
    · split at h2
      · rename_i e
        subst e
        split at h2
        · omega
        · exact h2
      · exact h2
