/-! the search for the best rule, without the walks' remains -/
theorem gd_alt_E {T : Int} {N : Nat} {w w' : gw_Mem} (h : gd_E T N w w') : gd_alt w' = gd_alt w := by
  have e2 := gd_E_n h
  have e1 := gd_E_N h
  have nt : gd_nt w' N = gd_nt w N := gw_sum_congr (n := N) (fun i hi => by show (if w' 134 (i : Int) < 0 then (1 : Int) else 0) = _; rw [gd_E_p h 134 (by omega) i hi])
  have mx : ∀ n : Nat, n ≤ N → gd_mx w' n = gd_mx w n := by
    intro n
    induction n with
    | zero => exact fun _ => rfl
    | succ n ih => intro hle; rw [gd_mx, gd_mx, ih (by omega), gd_E_p h 134 (by omega) n (by omega)]
  unfold gd_alt
  rw [e2, e1, nt, mx N (Nat.le_refl _)]
theorem gd_lof_E {T : Int} {N : Nat} {w w' : gw_Mem} (h : gd_E T N w w') (n : Nat) (hn : n ≤ N) : gd_lof w' n = gd_lof w n := by
  induction n with
  | zero => rfl
  | succ n ih => rw [gd_lof, gd_lof, ih (by omega), gd_E_p h 132 (by omega) n (by omega)]
theorem gd_inT_pb {N : Nat} {p p' : gw_Mem} (h : gd_pb N p p') (hN : p 117 6 = N) (hN2 : N ≤ 10) (T : Int) : gd_alt (gd_walks p') = gd_alt (gd_walks p) ∧ gd_lof (gd_walks p') (gd_n p') = gd_lof (gd_walks p) (gd_n p) ∧ gd_inT p' T = gd_inT p T := by
  have hE := gd_E_walksb h hN hN2
  have e1 : gd_n p = N := by unfold gd_n; omega
  have e2 : gd_n p' = N := by unfold gd_n; rw [h.2.2]; omega
  have a := gd_alt_E hE
  have l := gd_lof_E hE N (Nat.le_refl _)
  have l2 : gd_lof (gd_walks p') (gd_n p') = gd_lof (gd_walks p) (gd_n p) := by rw [e1, e2]; exact l
  refine ⟨a, l2, ?_⟩
  unfold gd_inT
  rw [a, l2]
def gd_vb (g : gw_Mem) (T : Int) : Nat → Int × Int
  | 0 => (-4, -1)
  | c + 1 => if (gd_vb g T c).2 < gd_inT (gd_bq g c) T then ((c : Int), gd_inT (gd_bq g c) T) else gd_vb g T c
theorem gd_vb_rng (g : gw_Mem) (T : Int) (c : Nat) : -1 ≤ (gd_vb g T c).2 ∧ ((gd_vb g T c).2 < 0 ↔ (gd_vb g T c).1 < 0) ∧ (gd_vb g T c).1 < c := by
  induction c with
  | zero => rw [gd_vb]; exact ⟨by show (-1 : Int) ≤ -1; omega, ⟨fun _ => by show (-4 : Int) < 0; omega, fun _ => by show (-1 : Int) < 0; omega⟩, by show (-4 : Int) < 0; omega⟩
  | succ c ih =>
    rw [gd_vb]
    split
    · dsimp only
      exact ⟨by omega, ⟨fun _ => by omega, fun _ => by omega⟩, by omega⟩
    · exact ⟨ih.1, ih.2.1, by omega⟩
theorem gd_bq_at (m : gw_Mem) (c : Nat) : (∀ o : Nat, o ≠ 122 → gd_bq m c o = m o) ∧ gd_bq m c 122 0 = 1 + (c : Int) / 55 ∧ gd_bq m c 122 1 = (c : Int) / 5 % 11 ∧ gd_bq m c 122 2 = (c : Int) % 5 ∧ ∀ j : Int, ¬ (0 ≤ j ∧ j ≤ 2) → gd_bq m c 122 j = m 122 j := by
  unfold gd_bq
  refine ⟨fun o ho => by rw [gw_up_ne ho, gw_up_ne ho, gw_up_ne ho], ?_, ?_, ?_, fun j hj => ?_⟩
  · simp [gw_up_at]
  · simp [gw_up_at]
  · simp [gw_up_at]
  · rw [gw_up_at, if_neg (by omega), gw_up_at, if_neg (by omega), gw_up_at, if_neg (by omega)]
theorem gd_bq_pq {g m : gw_Mem} (h : gd_wr g m) (c : Nat) : gd_pq (gd_bq g c) (gd_bq m c) := by
  have a := gd_bq_at g c
  have b := gd_bq_at m c
  refine ⟨fun o ho => ?_, ?_, ?_⟩
  · by_cases e : o = 122
    · subst e
      funext j
      by_cases hj : 0 ≤ j ∧ j ≤ 2
      · have hc : j = 0 ∨ j = 1 ∨ j = 2 := by omega
        rcases hc with rfl | rfl | rfl
        · rw [a.2.1, b.2.1]
        · rw [a.2.2.1, b.2.2.1]
        · rw [a.2.2.2.1, b.2.2.2.1]
      · rw [a.2.2.2.2 j hj, b.2.2.2.2 j hj, h.2.2 j hj]
    · rw [a.1 o e, b.1 o e, h.1 o (by omega) (by omega) e]
  · rw [a.1 117 (by omega), b.1 117 (by omega), h.2.1 0 (by omega)]
  · rw [a.1 117 (by omega), b.1 117 (by omega), h.2.1 6 (by omega)]
theorem gd_bst_vb {g : gw_Mem} (hJ : gd_JP g) (T : Int) (c : Nat) : (gd_bst g T c).1 = gd_vb g T c := by
  have hn := gd_n_cast hJ
  induction c with
  | zero => rfl
  | succ c ih =>
    have hwr := gd_bst_wr g T c
    have a := gd_bq_at g c
    have e6 : gd_bq g c 117 6 = (gd_n g : Nat) := by rw [a.1 117 (by omega)]; exact hn.1.symm
    have q := gd_inT_pb (gd_pb_pq (gd_n g) (gd_bq_pq hwr c)) e6 hn.2 T
    have en : gd_n (gd_bq g c) = gd_n g := by unfold gd_n; rw [a.1 117 (by omega)]
    have en2 : gd_n (gd_bq (gd_bst g T c).2 c) = gd_n g := by unfold gd_n; rw [(gd_bq_at _ c).1 117 (by omega), hwr.2.1 6 (by omega)]
    rw [en, en2] at q
    rw [gd_bst_s rfl, gd_vb, ← ih, q.1, q.2.1]
    have ei : gd_inT (gd_bq g c) T = if 0 ≤ gd_alt (gd_walks (gd_bq g c)) ∧ gd_alt (gd_walks (gd_bq g c)) ≤ T then gd_lof (gd_walks (gd_bq g c)) (gd_n g) else -1 := by rw [gd_inT, en]
    rw [ei]
    have h1 := (gd_vb_rng g T c).1
    rw [← ih] at h1
    generalize gd_walks (gd_bq (gd_bst g T c).2 c) = w1
    generalize gd_walks (gd_bq g c) = w2
    by_cases hc : 0 ≤ gd_alt w2 ∧ gd_alt w2 ≤ T
    · rw [if_pos hc]
      by_cases hl : (gd_bst g T c).1.2 < gd_lof w2 (gd_n g)
      · rw [if_pos ⟨hc.1, hc.2, hl⟩, if_pos hl]
      · rw [if_neg (fun z => hl z.2.2), if_neg hl]
    · rw [if_neg hc, if_neg (fun z => hc ⟨z.1, z.2.1⟩), if_neg (by omega)]
theorem gd_lof_le {w : gw_Mem} (n : Nat) (h : ∀ j : Int, 0 ≤ j ∧ j < n → 0 ≤ w 132 j) : ∀ j : Nat, j < n → gd_lof w n ≤ w 132 j := by
  induction n with
  | zero => intro j hj; omega
  | succ n ih =>
    intro j hj
    have hn := h n (by omega)
    have hp := gd_lof_pos n (fun i hi => h i (by omega))
    rw [gd_lof]
    by_cases e : j = n
    · subst e
      repeat' split
      all_goals omega
    · have q := ih (fun i hi => h i (by omega)) j (by omega)
      have hp := hp (by omega)
      repeat' split
      all_goals omega
theorem gd_inT_le {g : gw_Mem} (hJ : gd_JP g) (hn1 : 0 < g 117 6) (T : Int) (c : Nat) (hc : c < 220) : gd_inT (gd_bq g c) T ≤ gd_spoken g := by
  have hwr : gd_wr g g := ⟨fun _ _ _ _ => rfl, fun _ _ => rfl, fun _ _ => rfl⟩
  have hJq := gd_bq_JP hJ hwr c hc
  have a := gd_bq_at g c
  have es : gd_spoken (gd_bq g c) = gd_spoken g := by
    unfold gd_spoken gd_sp
    rw [a.1 118 (by omega), a.1 117 (by omega), a.1 119 (by omega), a.1 120 (by omega)]
  have hn := gd_n_cast hJ
  have en : gd_n (gd_bq g c) = gd_n g := by unfold gd_n; rw [a.1 117 (by omega)]
  have hh := gd_heard_sp hJq 0 (by omega)
  have hp := gd_walks_heard (gd_bq g c)
  have hl := gd_lof_le (gd_n (gd_bq g c)) (fun j hj => (hp j hj).1) 0 (by omega)
  have h0 := (hp 0 (by omega)).1
  have e0 : ((0 : Nat) : Int) = 0 := rfl
  rw [e0] at hl
  rw [← es]
  unfold gd_inT
  split <;> omega
/-- behind one that hears all that is spoken there is none better -/
theorem gd_vb_stay {g : gw_Mem} (hJ : gd_JP g) (hn1 : 0 < g 117 6) (T : Int) (c : Nat) (h : gd_spoken g ≤ (gd_vb g T c).2) : ∀ d : Nat, c + d ≤ 220 → gd_vb g T (c + d) = gd_vb g T c := by
  intro d
  induction d with
  | zero => exact fun _ => rfl
  | succ d ih =>
    intro hle
    have q := ih (by omega)
    have b := gd_inT_le hJ hn1 T (c + d) (by omega)
    rw [show c + (d + 1) = (c + d) + 1 by omega, gd_vb, if_neg (by rw [q]; omega), q]
theorem gd_vb_ge (g : gw_Mem) (T : Int) (c : Nat) : ∀ i : Nat, i < c → gd_inT (gd_bq g i) T ≤ (gd_vb g T c).2 := by
  induction c with
  | zero => intro i hi; omega
  | succ c ih =>
    intro i hi
    rw [gd_vb]
    by_cases e : i = c
    · subst e
      generalize gd_inT (gd_bq g i) T = v
      split
      · dsimp only; omega
      · omega
    · have q := ih i (by omega)
      split
      · dsimp only; omega
      · exact q
/-- wishes for more than there are -/
theorem gd_vb_skip {g : gw_Mem} (hJ : gd_JP g) (T : Int) (p : Nat) (hp : p < 4) : ∀ d : Nat, gd_n g ≤ 10 → 5 * (gd_n g + 1) + d ≤ 55 → gd_vb g T (55 * p + 5 * (gd_n g + 1) + d) = gd_vb g T (55 * p + 5 * (gd_n g + 1)) := by
  intro d hn10
  have hn := gd_n_cast hJ
  induction d with
  | zero => exact fun _ => rfl
  | succ d ih =>
    intro hle
    have q := ih (by omega)
    rw [show 55 * p + 5 * (gd_n g + 1) + (d + 1) = (55 * p + 5 * (gd_n g + 1) + d) + 1 by omega, gd_vb, q, if_neg]
    -- the code with the wish for all of them
    have hi : 55 * p + 5 * gd_n g + d % 5 < 55 * p + 5 * (gd_n g + 1) := by omega
    have ge := gd_vb_ge g T (55 * p + 5 * (gd_n g + 1)) _ hi
    have a := gd_bq_at g (55 * p + 5 * gd_n g + d % 5)
    have b := gd_bq_at g (55 * p + 5 * (gd_n g + 1) + d)
    have hpb : gd_pb (gd_n g) (gd_bq g (55 * p + 5 * gd_n g + d % 5)) (gd_bq g (55 * p + 5 * (gd_n g + 1) + d)) := by
      refine ⟨⟨fun o ho => by rw [a.1 o (by omega), b.1 o (by omega)], fun j hj => ?_, Or.inr ⟨?_, ?_⟩⟩, by rw [a.1 117 (by omega), b.1 117 (by omega)], by rw [a.1 117 (by omega), b.1 117 (by omega)]⟩
      · by_cases h0 : j = 0
        · rw [h0, a.2.1, b.2.1]; omega
        · by_cases h2 : j = 2
          · rw [h2, a.2.2.2.1, b.2.2.2.1]; omega
          · rw [a.2.2.2.2 j (by omega), b.2.2.2.2 j (by omega)]
      · rw [a.2.2.1]; omega
      · rw [b.2.2.1]; omega
    have e := (gd_inT_pb hpb (by rw [a.1 117 (by omega)]; exact hn.1.symm) hn10 T).2.2
    rw [e]
    omega
