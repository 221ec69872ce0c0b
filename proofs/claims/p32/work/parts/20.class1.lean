/-! the class: marks, people, plans -/
def gc_mk (m : gw_Mem) (b : Nat) (k p : Int) : Nat → Bool
  | 0 => false
  | n + 1 => gc_mk m b k p n || decide (m (b + 5 + k.toNat) n = p)
theorem sp_X3_isTaken (b : Nat) (hb : gw_isMarks b) (k p : Int) (m : gw_Mem) (hk : 0 ≤ k ∧ k ≤ 3) (hs : 0 ≤ m (b + 1) k ∧ m (b + 1) k ≤ 8) : gw_SpecI M_X3_isTaken 10 [gR b, gI k, gI p] m (fun r m' => r = gw_tf (gc_mk m b k p (m (b + 1) k).toNat = true) ∧ m' = m) := by
  refine gw_intro pl_X3_isTaken rfl (fun Γ => ?_)
  apply r_X3_isTaken_0 b hb
  obtain ⟨n, hn⟩ := gw_nat hs.1
  have yes : ∀ i : Nat, i < n → m (b + 5 + k.toNat) i = p → gc_mk m b k p n = true := by
    intro i hi he
    have h1 : ∀ t : Nat, i < t → gc_mk m b k p t = true := by
      intro t
      induction t with
      | zero => intro h; omega
      | succ t ih =>
        intro h
        rw [gc_mk, Bool.or_eq_true, decide_eq_true_eq]
        by_cases e : i = t
        · subst e; exact Or.inr he
        · exact Or.inl (ih (by omega))
    exact h1 n hi
  have key : ∀ (j i : Nat), i + j = n → gc_mk m b k p i = false → gw_G M_X3_isTaken 10 (fun r m' => ∃ v, r = some (gI v) ∧ v = gw_tf (gc_mk m b k p (m (b + 1) k).toNat = true) ∧ m' = m) Γ 2 [some (gR b), some (gI k), some (gI p), some (gI (i : Int))] [] m := by
    intro j
    induction j with
    | zero =>
      intro i hi hf
      apply r_X3_isTaken_2 b hb
      refine ⟨gw_inm hk.1 (by omega), fun _ => gw_rE ?_ rfl, fun h => absurd (by omega) h⟩
      rw [hn, Int.toNat_natCast, ← hi, Nat.add_zero, hf]
      rfl
    | succ j ih =>
      intro i hi hf
      apply r_X3_isTaken_2 b hb
      refine ⟨gw_inm hk.1 (by omega), fun h => absurd h (by omega), fun h => ⟨gw_inm hk.1 (by omega), gw_inm (by omega) (by omega), fun h2 => gw_rE ?_ rfl, fun h2 => ?_⟩⟩
      · rw [hn, Int.toNat_natCast, yes i (by omega) h2]
        rfl
      · rw [gw_w1 (by omega)]
        exact ih (i + 1) (by omega) (by rw [gc_mk, hf, decide_eq_false h2]; rfl)
  exact key n 0 (by omega) rfl
/-- a mark added behind the others -/
def gc_add (m : gw_Mem) (b : Nat) (k p l : Int) : gw_Mem := gw_up (if k = 0 then gw_up (gw_up (gw_up m (b + 5 + k.toNat) (m (b + 1) k) p) (b + 9 + k.toNat) (m (b + 1) k) l) (b + 4) (m (b + 1) k) 10 else gw_up (gw_up m (b + 5 + k.toNat) (m (b + 1) k) p) (b + 9 + k.toNat) (m (b + 1) k) l) (b + 1) k (m (b + 1) k + 1)
theorem sp_X3_add (b : Nat) (hb : gw_isMarks b) (k p l : Int) (m : gw_Mem) (hk : 0 ≤ k ∧ k ≤ 3) (hs : 0 ≤ m (b + 1) k ∧ m (b + 1) k ≤ 8) : gw_SpecI M_X3_add 11 [gR b, gI k, gI p, gI l] m (fun r m' => (r = if gc_mk m b k p (m (b + 1) k).toNat = true then -2 else if m (b + 1) k = 8 then -3 else m (b + 1) k) ∧ m' = if gc_mk m b k p (m (b + 1) k).toNat = true then m else if m (b + 1) k = 8 then m else gc_add m b k p l) := by
  refine gw_intro pl_X3_add rfl (fun Γ => ?_)
  apply r_X3_add_0 b hb
  refine gw_CI.eq (sp_X3_isTaken b hb k p m hk hs) rfl (gw_b_tf (fun h => ⟨gw_inm hk.1 (by omega), fun h2 => ⟨gw_inm hk.1 (by omega), gw_inm hs.1 h2, gw_inm hk.1 (by omega), gw_inm hs.1 h2, fun h3 => ⟨gw_inm hs.1 h2, ?_⟩, fun h3 => ?_⟩, fun h2 => ?_⟩) (fun h => ?_))
  · apply r_X3_add_63 b hb
    refine ⟨gw_inm hk.1 (by omega), gw_rE ?_ ?_⟩
    · rw [if_neg h, if_neg (by omega)]
    · rw [if_neg h, if_neg (show ¬ m (b + 1) k = 8 by omega), gc_add, if_pos h3, gw_w_id (by omega)]
  · apply r_X3_add_63 b hb
    refine ⟨gw_inm hk.1 (by omega), gw_rE ?_ ?_⟩
    · rw [if_neg h, if_neg (by omega)]
    · rw [if_neg h, if_neg (show ¬ m (b + 1) k = 8 by omega), gc_add, if_neg h3, gw_w_id (by omega)]
  · exact gw_rE (by rw [if_neg h, if_pos (by omega)]) (by rw [if_neg h, if_pos (by omega)])
  · exact gw_rE (by rw [if_pos h]) (by rw [if_pos h])
/-- rows of one kind taken over -/
def gc_tk1 (m : gw_Mem) (b c : Nat) (k : Nat) : gw_Mem := gw_cp (gw_cp (gw_up m (b + 1) k (m (c + 1) k)) (c + 5 + k) 0 (b + 5 + k) 0 8) (c + 9 + k) 0 (b + 9 + k) 0 8
def gc_take (m : gw_Mem) (b c : Nat) : gw_Mem := gw_cp (gc_tk1 (gc_tk1 (gc_tk1 (gc_tk1 m b c 0) b c 1) b c 2) b c 3) (c + 4) 0 (b + 4) 0 8
theorem sp_X3_take (b c : Nat) (hb : gw_isMarks b) (hc : gw_isMarks c) (m : gw_Mem) : gw_SpecV M_X3_take 10 [gR b, gR c] m (fun m' => m' = gc_take m b c) := by
  refine gw_intro pl_X3_take rfl (fun Γ => ?_)
  apply r_X3_take_0 b hb c hc _ (by decide)
  have st : ∀ (k : Nat) (m1 : gw_Mem), k < 4 → gw_G M_X3_take 10 (fun r m' => r = none ∧ m' = gc_take m b c) Γ 2 [some (gR b), some (gR c), some (gI ((k + 1 : Nat) : Int))] [] (gc_tk1 m1 b c k) → gw_G M_X3_take 10 (fun r m' => r = none ∧ m' = gc_take m b c) Γ 2 [some (gR b), some (gR c), some (gI (k : Int))] [] m1 := by
    intro k m1 hk h
    apply r_X3_take_2 b hb c hc _ _ (by decide)
    have hi : gw_in (k : Int) 4 := gw_inm (by omega) (by omega)
    refine ⟨fun h => absurd h (by omega), fun _ => ⟨hi, hi, hi, hi, hi, hi, ?_⟩⟩
    rw [gw_w1 (by omega), Int.toNat_natCast]
    exact h
  refine st 0 m (by omega) (st 1 _ (by omega) (st 2 _ (by omega) (st 3 _ (by omega) ?_)))
  apply r_X3_take_2 b hb c hc _ _ (by decide)
  exact ⟨fun _ => ⟨rfl, rfl⟩, fun h => absurd (by omega) h⟩
/-- the first tail of a row of people -/
def gc_tl (m : gw_Mem) (b : Nat) : Nat → Int
  | 0 => -1
  | n + 1 => if 0 ≤ gc_tl m b n then gc_tl m b n else if m (b + 1) n = 3 then n else -1
theorem gc_tl_rng (m : gw_Mem) (b n : Nat) : -1 ≤ gc_tl m b n ∧ gc_tl m b n < n ∧ (0 ≤ gc_tl m b n → m (b + 1) (gc_tl m b n) = 3) := by
  induction n with
  | zero => unfold gc_tl; omega
  | succ n ih =>
    rw [gc_tl]
    split
    · exact ⟨by omega, by omega, fun _ => ih.2.2 (by assumption)⟩
    · split
      · rename_i h
        exact ⟨by omega, by omega, fun _ => h⟩
      · exact ⟨by omega, by omega, fun h => absurd h (by omega)⟩
theorem gc_tl_mono (m : gw_Mem) (b n : Nat) (h : 0 ≤ gc_tl m b n) : ∀ j : Nat, gc_tl m b (n + j) = gc_tl m b n := by
  intro j
  induction j with
  | zero => rfl
  | succ j ih =>
    rw [show n + (j + 1) = (n + j) + 1 by omega, gc_tl, ih, if_pos h]
theorem gc_tl_neg (m : gw_Mem) (b n : Nat) : gc_tl m b n < 0 ↔ ∀ j : Nat, j < n → m (b + 1) j ≠ 3 := by
  induction n with
  | zero => simp [gc_tl]
  | succ n ih =>
    rw [gc_tl]
    split
    · rename_i h
      refine ⟨fun z => by omega, fun z => ?_⟩
      exact absurd (ih.mpr (fun j hj => z j (by omega))) (by omega)
    · rename_i h
      split
      · rename_i h2
        exact ⟨fun z => by omega, fun z => absurd h2 (z n (by omega))⟩
      · rename_i h2
        refine ⟨fun _ j hj => ?_, fun _ => by omega⟩
        by_cases e : j = n
        · subst e; exact h2
        · exact (ih.mp (by omega)) j (by omega)
theorem sp_X5_tailNumber (b : Nat) (hb : gw_isPeople b) (m : gw_Mem) (hn : 0 ≤ m b 0 ∧ m b 0 ≤ 10) : gw_SpecI M_X5_tailNumber 10 [gR b] m (fun r m' => r = gc_tl m b (m b 0).toNat ∧ m' = m) := by
  refine gw_intro pl_X5_tailNumber rfl (fun Γ => ?_)
  apply r_X5_tailNumber_0 b hb
  obtain ⟨n, hn1⟩ := gw_nat hn.1
  have key : ∀ (j i : Nat), i + j = n → gc_tl m b i < 0 → gw_G M_X5_tailNumber 10 (fun r m' => ∃ v, r = some (gI v) ∧ v = gc_tl m b (m b 0).toNat ∧ m' = m) Γ 2 [some (gR b), some (gI (i : Int))] [] m := by
    intro j
    induction j with
    | zero =>
      intro i hi hf
      apply r_X5_tailNumber_2 b hb
      refine ⟨fun _ => gw_rE ?_ rfl, fun h => absurd (by omega) h⟩
      have := gc_tl_rng m b i
      rw [hn1, Int.toNat_natCast, ← hi, Nat.add_zero]
      omega
    | succ j ih =>
      intro i hi hf
      apply r_X5_tailNumber_2 b hb
      refine ⟨fun h => absurd h (by omega), fun h => ⟨gw_inm (by omega) (by omega), fun h2 => gw_rE ?_ rfl, fun h2 => ?_⟩⟩
      · have e1 : gc_tl m b (i + 1) = i := by rw [gc_tl, if_neg (by omega), if_pos h2]
        have e2 := gc_tl_mono m b (i + 1) (by omega) j
        rw [hn1, Int.toNat_natCast, show n = i + 1 + j by omega, e2, e1]
      · rw [gw_w1 (by omega)]
        exact ih (i + 1) (by omega) (by rw [gc_tl, if_neg (by omega), if_neg h2]; omega)
  exact key n 0 (by omega) (by unfold gc_tl; omega)
def gc_join (m : gw_Mem) (b : Nat) (k p e : Int) : gw_Mem := gw_up (gw_up (gw_up (gw_up m (b + 1) (m b 0) k) (b + 2) (m b 0) p) (b + 3) (m b 0) e) b 0 (m b 0 + 1)
theorem sp_X5_add (b : Nat) (hb : gw_isPeople b) (k p e : Int) (m : gw_Mem) (hn : 0 ≤ m b 0 ∧ m b 0 ≤ 10) (he : gw_b e) : gw_SpecI M_X5_add 11 [gR b, gI k, gI p, gI e] m (fun r m' => (r = if k = 3 ∧ 0 ≤ gc_tl m b (m b 0).toNat then -2 else if m b 0 = 10 then -3 else m b 0) ∧ m' = if k = 3 ∧ 0 ≤ gc_tl m b (m b 0).toNat then m else if m b 0 = 10 then m else gc_join m b k p e) := by
  refine gw_intro pl_X5_add rfl (fun Γ => ?_)
  have h15 : ¬ (k = 3 ∧ 0 ≤ gc_tl m b (m b 0).toNat) → gw_G M_X5_add 11 (fun r m' => ∃ v, r = some (gI v) ∧ (v = if k = 3 ∧ 0 ≤ gc_tl m b (m b 0).toNat then -2 else if m b 0 = 10 then -3 else m b 0) ∧ m' = if k = 3 ∧ 0 ≤ gc_tl m b (m b 0).toNat then m else if m b 0 = 10 then m else gc_join m b k p e) Γ 15 [some (gR b), some (gI k), some (gI p), some (gI e)] [] m := by
    intro h
    apply r_X5_add_15 b hb
    have e1 : gw_up m (b + 1) (m b 0) k b 0 = m b 0 := by rw [gw_up_ne (by omega)]
    rw [e1]
    have e2 : gw_up (gw_up m (b + 1) (m b 0) k) (b + 2) (m b 0) p b 0 = m b 0 := by rw [gw_up_ne (by omega), e1]
    rw [e2]
    have e3 : gw_up (gw_up (gw_up m (b + 1) (m b 0) k) (b + 2) (m b 0) p) (b + 3) (m b 0) e b 0 = m b 0 := by rw [gw_up_ne (by omega), e2]
    rw [e3]
    refine ⟨fun h2 => ⟨gw_inm hn.1 h2, gw_inm hn.1 h2, gw_inm hn.1 h2, he, ?_⟩, fun h2 => ?_⟩
    · rw [gw_up_at, if_pos rfl, gw_w_id (x := m b 0 + 1) (by omega), gw_w_id (by omega)]
      refine gw_rE ?_ ?_
      · rw [if_neg h, if_neg (by omega)]
        omega
      · rw [if_neg h, if_neg (show ¬ m b 0 = 10 by omega)]
        rfl
    · exact gw_rE (by rw [if_neg h, if_pos (by omega)]) (by rw [if_neg h, if_pos (by omega)])
  apply r_X5_add_0 b hb
  refine ⟨fun h => ?_, fun h => h15 (fun z => h z.1)⟩
  refine gw_CI.eq (sp_X5_tailNumber b hb m hn) rfl ⟨fun h2 => h15 (fun z => by omega), fun h2 => ?_⟩
  exact gw_rE (by rw [if_pos ⟨h, by omega⟩]) (by rw [if_pos ⟨h, by omega⟩])
def gc_ptake (m : gw_Mem) (b c : Nat) : gw_Mem := gw_cp (gw_cp (gw_cp (gw_up m b 0 (m c 0)) (c + 1) 0 (b + 1) 0 10) (c + 2) 0 (b + 2) 0 10) (c + 3) 0 (b + 3) 0 10
theorem sp_X5_take (b c : Nat) (hb : gw_isPeople b) (hc : gw_isPeople c) (m : gw_Mem) : gw_SpecV M_X5_take 10 [gR b, gR c] m (fun m' => m' = gc_ptake m b c) := by
  refine gw_intro pl_X5_take rfl (fun Γ => ?_)
  apply r_X5_take_0 b hb c hc _ (by decide)
  exact ⟨rfl, rfl⟩
theorem gw_planM {b : Nat} (h : gw_isPlan b) : gw_isMarks (b + 1) := by
  unfold gw_isPlan at h
  unfold gw_isMarks
  omega
theorem gw_planP {b : Nat} (h : gw_isPlan b) : gw_isPeople (b + 14) := by
  unfold gw_isPlan at h
  unfold gw_isPeople
  omega
def gc_pl (m : gw_Mem) (b c : Nat) : gw_Mem := gw_cp (gw_cp (gc_ptake (gc_take (gw_up m b 0 (m c 0)) (b + 1) (c + 1)) (b + 14) (c + 14)) (c + 18) 0 (b + 18) 0 5) (c + 20) 0 (b + 20) 0 144
theorem sp_X6_take (b c : Nat) (hb : gw_isPlan b) (hc : gw_isPlan c) (m : gw_Mem) : gw_SpecV M_X6_take 11 [gR b, gR c] m (fun m' => m' = gc_pl m b c) := by
  refine gw_intro pl_X6_take rfl (fun Γ => ?_)
  apply r_X6_take_0 b hb c hc _ (by decide)
  refine gw_CV.eq (sp_X3_take (b + 1) (c + 1) (gw_planM hb) (gw_planM hc) _) rfl ?_
  refine gw_CV.eq (sp_X5_take (b + 14) (c + 14) (gw_planP hb) (gw_planP hc) _) rfl ?_
  exact ⟨rfl, rfl⟩
/-- met stops of a plan -/
theorem sp_X6_isMet (b : Nat) (hb : gw_isPlan b) (i : Int) (m : gw_Mem) (hi : 0 ≤ i ∧ i < 8) : gw_SpecI M_X6_isMet 10 [gR b, gI i] m (fun r m' => (r = if m b 0 ≤ m (b + 6) i then 0 else 1) ∧ m' = m) := by
  refine gw_intro pl_X6_isMet rfl (fun Γ => ?_)
  apply r_X6_isMet_0 b hb
  exact ⟨gw_inm hi.1 hi.2, gw_rE rfl rfl⟩
theorem gw_sum_congr {f g : Int → Int} {n : Nat} (h : ∀ j : Nat, j < n → f j = g j) : gw_sum f n = gw_sum g n := by
  induction n with
  | zero => rfl
  | succ n ih => rw [gw_sum, gw_sum, ih (fun j hj => h j (by omega)), h n (by omega)]
/-- the lengths of the stops that are met -/
def gd_sp (g : gw_Mem) (n : Nat) : Int := gw_sum (fun j => if g 117 0 ≤ g 119 j then 0 else g 120 j) n
theorem gd_sp_rng {g : gw_Mem} (hJ : gd_JP g) (n : Nat) (h : n ≤ (g 118 0).toNat) : 0 ≤ gd_sp g n ∧ gd_sp g n ≤ 20 * n := by
  unfold gd_sp
  induction n with
  | zero => simp [gw_sum]
  | succ n ih =>
    rw [gw_sum]
    have h1 := ih (by omega)
    have h2 := hJ.2.2.1 0 n (by omega) (by omega)
    have e : (8 * 0 + (n : Int)) = n := by omega
    rw [e] at h2
    have h3 : gd_hi 0 = 20 := rfl
    have h4 : gd_lo 0 = 1 := rfl
    split <;> omega
def gd_spoken (g : gw_Mem) : Int := gd_sp g (g 118 0).toNat
theorem sp_X6_minutesSpoken (b : Nat) (hb : gw_isPlan b) (g m : gw_Mem) (hJ : gd_JP g) (hP : gc_P g m b) : gw_SpecI M_X6_minutesSpoken 11 [gR b] m (fun r m' => r = gd_spoken g ∧ m' = m) := by
  refine gw_intro pl_X6_minutesSpoken rfl (fun Γ => ?_)
  apply r_X6_minutesSpoken_0 b hb
  have hs := hJ.2.1 0 (by omega)
  have hz := hP.2.1 0 (by omega)
  obtain ⟨n, hn⟩ := gw_nat hs.1
  have key : ∀ (j i : Nat), i + j = n → gw_G M_X6_minutesSpoken 11 (fun r m' => ∃ v, r = some (gI v) ∧ v = gd_spoken g ∧ m' = m) Γ 4 [some (gR b), some (gI (gd_sp g i)), some (gI (i : Int))] [] m := by
    intro j
    induction j with
    | zero =>
      intro i hi
      apply r_X6_minutesSpoken_4 b hb
      refine ⟨fun _ => gw_rE ?_ rfl, fun h => absurd (by omega) h⟩
      rw [gd_spoken, hn, Int.toNat_natCast, ← hi, Nat.add_zero]
    | succ j ih =>
      intro i hi
      apply r_X6_minutesSpoken_4 b hb
      refine ⟨fun h => absurd h (by omega), fun h => ?_⟩
      refine gw_CI.eq (sp_X6_isMet b hb i m (by omega)) rfl ⟨fun _ => gw_inm (by omega) (by omega), ?_⟩
      have hr := gd_sp_rng hJ i (by omega)
      have hr2 := gd_sp_rng hJ (i + 1) (by omega)
      have h6 := hP.2.2.1 0 i (by omega) (by omega)
      have e0 : (8 * 0 + (i : Int)) = i := by omega
      rw [e0] at h6
      have e2 : (if (if m b 0 ≤ m (b + 6) (i : Int) then (0 : Int) else 1) = 0 then (0 : Int) else m (b + 10) (i : Int)) = if g 117 0 ≤ g 119 (i : Int) then 0 else g 120 (i : Int) := by
        have e3 : m (b + 6) (i : Int) = g 119 (i : Int) := h6.1
        have e4 : m (b + 10) (i : Int) = g 120 (i : Int) := h6.2
        rw [hP.1, e3, e4]
        split <;> rfl
      have e5 : gd_sp g i + (if g 117 0 ≤ g 119 (i : Int) then 0 else g 120 (i : Int)) = gd_sp g (i + 1) := rfl
      rw [e2, gw_w1 (by omega), e5, gw_w_id (by omega)]
      exact ih (i + 1) (by omega)
  exact key n 0 (by omega)
