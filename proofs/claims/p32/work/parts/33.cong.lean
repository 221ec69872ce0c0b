/-! the walk looks at the plan alone -/
def gd_rl (N : Nat) (g g' : gw_Mem) : Prop := (∀ j : Int, j ≠ 1 → g' 122 j = g 122 j) ∧ (g' 122 1 = g 122 1 ∨ (N : Int) ≤ g 122 1 ∧ (N : Int) ≤ g' 122 1)
def gd_E (T : Int) (N : Nat) (g g' : gw_Mem) : Prop := ((∀ o : Nat, 118 ≤ o ∧ o ≤ 125 ∧ o ≠ 121 ∧ o ≠ 122 → g' o = g o) ∧ gd_rl N g g') ∧ (∀ j : Int, j = 0 ∨ j = 6 ∨ (16 ≤ j ∧ j ≤ 22) ∨ j = 29 ∨ j = 30 → g' 117 j = g 117 j) ∧
  (∀ o : Nat, 129 ≤ o ∧ o ≤ 134 → ∀ j : Int, 0 ≤ j ∧ j < N → g' o j = g o j) ∧ (∀ j : Int, 0 ≤ j → j / 12 < T → j % 12 < N + 2 → g' 135 j = g 135 j) ∧ g 117 6 = N
section
variable {T : Int} {N : Nat} {g g' : gw_Mem}
theorem gd_E_up (h : gd_E T N g g') (o : Nat) (j : Int) {v v' : Int} (hv : v' = v) (h6 : ¬ (o = 117 ∧ j = 6)) : gd_E T N (gw_up g o j v) (gw_up g' o j v') := by
  obtain ⟨h1, h2, h3, h4, h5⟩ := h
  subst hv
  have aux : ∀ (q : Nat) (i : Int), g' q i = g q i → gw_up g' o j v' q i = gw_up g o j v' q i := by
    intro q i e
    unfold gw_up
    split
    · rfl
    · exact e
  refine ⟨⟨fun q hq => ?_, fun i hi => aux _ _ (h1.2.1 i hi), ?_⟩, fun i hi => aux _ _ (h2 i hi), fun q hq i hi => aux _ _ (h3 q hq i hi), fun i a b c => aux _ _ (h4 i a b c), ?_⟩
  · funext i
    exact aux q i (by rw [h1.1 q hq])
  · by_cases e : o = 122 ∧ j = 1
    · left
      unfold gw_up
      rw [if_pos ⟨e.1.symm, e.2.symm⟩, if_pos ⟨e.1.symm, e.2.symm⟩]
    · have ne : ∀ q : gw_Mem, gw_up q o j v' 122 1 = q 122 1 := fun q => by
        unfold gw_up
        rw [if_neg (fun z => e ⟨z.1.symm, z.2.symm⟩)]
      rw [ne, ne]
      exact h1.2.2
  · unfold gw_up
    rw [if_neg (fun z => h6 ⟨z.1.symm, z.2.symm⟩)]
    exact h5
theorem gd_E_f (h : gd_E T N g g') (j : Int) (hj : j = 0 ∨ j = 6 ∨ (16 ≤ j ∧ j ≤ 22) ∨ j = 29 ∨ j = 30) : g' 117 j = g 117 j := h.2.1 j hj
theorem gd_E_r (h : gd_E T N g g') (o : Nat) (ho : 118 ≤ o ∧ o ≤ 125 ∧ o ≠ 121 ∧ o ≠ 122) : g' o = g o := h.1.1 o ho
theorem gd_E_q (h : gd_E T N g g') (j : Int) (hj : j ≠ 1) : g' 122 j = g 122 j := h.1.2.1 j hj
theorem gd_E_p (h : gd_E T N g g') (o : Nat) (ho : 129 ≤ o ∧ o ≤ 134) (i : Nat) (hi : i < N) : g' o i = g o i := h.2.2.1 o ho i (by omega)
theorem gd_E_n (h : gd_E T N g g') : gd_n g' = gd_n g := by unfold gd_n; rw [gd_E_f h 6 (by omega)]
theorem gd_E_N (h : gd_E T N g g') : gd_n g = N := by have z := h.2.2.2.2; unfold gd_n; omega
theorem gd_E_lost (h : gd_E T N g g') (i : Nat) (hi : i < N) : gd_lost g' i = gd_lost g i := by
  unfold gd_lost; rw [gd_E_p h 131 (by omega) i hi]
theorem gd_E_nr (h : gd_E T N g g') (i : Nat) (hi : i < N) (t : Int) : gd_nr g' i t = gd_nr g i t := by
  unfold gd_nr; rw [gd_E_p h 131 (by omega) i hi, gd_E_p h 129 (by omega) i hi, gd_E_q h 4 (by omega), gd_E_f h 16 (by omega)]
theorem gd_E_near (h : gd_E T N g g') : gd_near g' (gd_n g') = gd_near g (gd_n g) := by
  rw [gd_E_n h, gd_E_N h]
  exact gw_sum_congr (n := N) (fun i hi => gd_E_nr h i hi 1)
theorem gd_E_alive (h : gd_E T N g g') : gd_alive g' (gd_n g') = gd_alive g (gd_n g) := by
  rw [gd_E_n h, gd_E_N h]
  exact gw_sum_congr (n := N) (fun i hi => by show (if gd_lost g' i = 0 then (1 : Int) else 0) = _; rw [gd_E_lost h i hi])
theorem gd_E_mk (h : gd_E T N g g') (k x : Int) : gd_mk g' k x = gd_mk g k x := by
  unfold gd_mk; rw [gd_E_r h 118 (by omega), gd_ma_congr (gd_E_r h 119 (by omega))]
theorem gd_E_sh (h : gd_E T N g g') : gd_sh g' = gd_sh g := by
  unfold gd_sh gd_sq; rw [gd_E_f h 16 (by omega), gd_E_f h 0 (by omega), gd_E_f h 22 (by omega), gd_E_mk h]
theorem gd_E_rd (h : gd_E T N g g') (x t : Int) : gd_rd g' x t = gd_rd g x t := by
  unfold gd_rd; rw [gd_E_mk h, gd_E_f h 0 (by omega), gd_E_r h 120 (by omega)]
theorem gd_E_spk (h : gd_E T N g g') (n : Nat) (hn : n ≤ N) : gd_E T N (gd_spk g n) (gd_spk g' n) := by
  induction n with
  | zero => exact h
  | succ n ih =>
    have q := ih (by omega)
    rw [gd_spk, gd_spk]
    exact gd_E_up q 132 n (by rw [gd_E_p q 132 (by omega) n (by omega), gd_E_r q 125 (by omega), gd_E_nr q n (by omega)]) (by omega)
theorem gd_E_done (h : gd_E T N g g') (k : Int) : gd_E T N (gd_done g k) (gd_done g' k) := gd_E_up h 117 22 (by rw [gd_E_f h 22 (by omega)]) (by omega)
theorem gd_E_kA (h : gd_E T N g g') (k : Int) : (gd_kA g' k).1 = (gd_kA g k).1 ∧ gd_E T N (gd_kA g k).2 (gd_kA g' k).2 := by
  unfold gd_kA
  rw [gd_E_f h 17 (by omega), gd_E_f h 19 (by omega), gd_E_f h 20 (by omega), gd_E_f h 21 (by omega), gd_E_q h 2 (by omega), gd_E_q h 3 (by omega), gd_E_r h 120 (by omega), gd_E_n h]
  repeat' split
  all_goals first
    | exact ⟨rfl, h⟩
    | exact ⟨rfl, gd_E_done h k⟩
    | exact ⟨rfl, gd_E_up h 117 20 rfl (by omega)⟩
    | exact ⟨rfl, gd_E_spk (gd_E_up h 117 19 rfl (by omega)) _ (by rw [gd_E_N h]; exact Nat.le_refl N)⟩
theorem gd_E_bg (h : gd_E T N g g') : gd_bg g' = gd_bg g := by
  have hw : gd_wish g' = gd_wish g := by
    unfold gd_wish
    rw [gd_E_alive h]
    have a := gd_alive_rng g (gd_n g)
    have b := gd_E_N h
    rcases h.1.2.2 with z | z
    · rw [z]
    · rw [if_pos (show gd_alive g (gd_n g) ≤ g' 122 1 by omega), if_pos (show gd_alive g (gd_n g) ≤ g 122 1 by omega)]
  unfold gd_bg
  rw [hw, gd_E_near h, gd_E_q h 3 (by omega), gd_E_f h 18 (by omega)]
theorem gd_E_kp (h : gd_E T N g g') : (gd_kp g').1 = (gd_kp g).1 ∧ gd_E T N (gd_kp g).2 (gd_kp g').2 := by
  unfold gd_kp
  rw [gd_E_sh h, gd_E_f h 17 (by omega)]
  split
  · split
    · refine gd_E_kA ?_ _
      unfold gd_bgm
      rw [gd_E_bg h, gd_E_f h 18 (by omega)]
      exact gd_E_up (gd_E_up h 117 17 rfl (by omega)) 117 18 rfl (by omega)
    · exact gd_E_kA h _
  · exact ⟨rfl, h⟩
theorem gd_E_gs (h : gd_E T N g g') (t : Int) (k : Nat) : gd_E T N (gd_gs g t k) (gd_gs g' t k) := by
  induction k generalizing g g' with
  | zero => exact h
  | succ k ih =>
    rw [gd_gs, gd_gs, gd_E_f h 0 (by omega), gd_E_f h 16 (by omega), gd_E_sh h, gd_E_rd h]
    repeat' split
    all_goals first
      | exact h
      | exact ih (gd_E_up h 117 16 rfl (by omega))
theorem gd_E_clr (h : gd_E T N g g') : gd_E T N (gd_clr g) (gd_clr g') := by
  unfold gd_clr
  repeat (first | exact h | refine gd_E_up ?_ _ _ rfl (by omega))
theorem gd_E_ar (h : gd_E T N g g') (t : Int) : gd_E T N (gd_ar g t) (gd_ar g' t) := gd_E_up h 117 29 (by rw [gd_E_f h 16 (by omega), gd_E_f h 0 (by omega), gd_E_f h 29 (by omega)]) (by omega)
theorem gd_E_gg (h : gd_E T N g g') (t : Int) : gd_E T N (gd_gg g t) (gd_gg g' t) := by
  have hk := gd_E_kp h
  unfold gd_gg gd_gA
  rw [gd_E_f h 0 (by omega), gd_E_f h 16 (by omega), hk.1, gd_E_f hk.2 16 (by omega), gd_E_q hk.2 0 (by omega)]
  have hs := gd_E_gs hk.2 t ((gd_kp g).2 122 0).toNat
  rw [gd_E_f hs 16 (by omega)]
  split
  · exact h
  · split
    · refine gd_E_ar ?_ t
      split
      · exact hs
      · exact gd_E_clr hs
    · exact hk.2
theorem gd_E_lst (h : gd_E T N g g') (x : Int) (n : Nat) (hn : n ≤ N) : gd_lst g' x n = gd_lst g x n := by
  induction n with
  | zero => rfl
  | succ n ih => rw [gd_lst, gd_lst, ih (by omega), gd_E_lost h n (by omega), gd_E_p h 129 (by omega) n (by omega)]
theorem gd_E_lw (h : gd_E T N g g') (i : Nat) (hi : i < N) : gd_lw g' i = gd_lw g i := by
  have e1 : gd_lk g' i = gd_lk g i := by
    unfold gd_lk; rw [gd_E_r h 123 (by omega), gd_E_mk h, gd_E_p h 129 (by omega) i hi]
  have e2 : gd_tl g' (gd_n g') = gd_tl g (gd_n g) := by rw [gd_E_n h, gd_tl_congr (gd_E_r h 123 (by omega))]
  unfold gd_lw
  rw [e1, e2, gd_E_p h 129 (by omega) i hi, gd_E_f h 0 (by omega), gd_E_f h 16 (by omega), gd_E_r h 120 (by omega)]
  by_cases hz : gd_tl g (gd_n g) < 0
  · simp only [if_pos hz]
  · obtain ⟨k, hk⟩ := gw_nat (show 0 ≤ gd_tl g (gd_n g) by omega)
    have hr := gd_tl_rng g (gd_n g)
    have hN := gd_E_N h
    rw [hk, gd_E_p h 129 (by omega) k (by omega)]
theorem gd_E_up1 (h : gd_E T N g g') (i : Nat) (hi : i < N) : gd_E T N (gd_up1 g i) (gd_up1 g' i) := gd_E_up h 129 i (by rw [gd_E_p h 129 (by omega) i hi]) (by omega)
theorem gd_E_wd (h : gd_E T N g g') (i : Nat) (hi : i < N) : gd_wd g' i = gd_wd g i := by
  unfold gd_wd; rw [gd_E_r h 123 (by omega), gd_E_mk h, gd_E_p h 129 (by omega) i hi, gd_E_f h 0 (by omega)]
theorem gd_E_fs (h : gd_E T N g g') (i : Nat) (hi : i < N) (t : Int) (k : Nat) : gd_E T N (gd_fs g i t k) (gd_fs g' i t k) := by
  induction k generalizing g g' with
  | zero => exact h
  | succ k ih =>
    have hu := gd_E_up1 h i hi
    rw [gd_fs, gd_fs, gd_E_f h 16 (by omega), gd_E_p h 129 (by omega) i hi, gd_E_rd h, gd_E_r h 123 (by omega), gd_E_n h, gd_E_lst h i _ (by rw [gd_E_N h]; exact Nat.le_refl N), gd_E_lw h i hi, gd_E_wd hu i hi, gd_E_r hu 120 (by omega)]
    repeat' split
    all_goals first
      | exact h
      | exact ih hu
      | exact gd_E_up hu 130 i rfl (by omega)
      | exact gd_E_up h 131 i rfl (by omega)
theorem gd_E_go (h : gd_E T N g g') (i : Nat) (hi : i < N) (t : Int) : gd_E T N (gd_go g i t) (gd_go g' i t) := by
  unfold gd_go
  rw [gd_E_r h 123 (by omega), gd_E_r h 124 (by omega), gd_E_p h 130 (by omega) i hi]
  repeat' split
  all_goals first
    | exact h
    | exact gd_E_up h 130 i rfl (by omega)
    | exact gd_E_fs h i hi t _
theorem gd_E_pp (h : gd_E T N g g') (t : Int) (n : Nat) (hn : n ≤ N) : gd_E T N (gd_pp g t n) (gd_pp g' t n) := by
  induction n with
  | zero => exact h
  | succ n ih =>
    have q := ih (by omega)
    rw [gd_pp, gd_pp, gd_E_lost q n (by omega)]
    split
    · exact gd_E_go q n (by omega) t
    · exact q
theorem gd_E_br (h : gd_E T N g g') (i : Nat) (hi : i < N) (t : Int) : gd_E T N (gd_br g i t) (gd_br g' i t) := by
  unfold gd_br
  rw [gd_E_p h 133 (by omega) i hi, gd_E_p h 129 (by omega) i hi, gd_E_p h 134 (by omega) i hi, gd_E_f h 16 (by omega), gd_E_f h 0 (by omega)]
  exact gd_E_up (gd_E_up h 133 i rfl (by omega)) 134 i rfl (by omega)
theorem gd_E_bs (h : gd_E T N g g') (t : Int) (n : Nat) (hn : n ≤ N) : (gd_bs g' t n).1 = (gd_bs g t n).1 ∧ gd_E T N (gd_bs g t n).2 (gd_bs g' t n).2 := by
  induction n with
  | zero => exact ⟨rfl, h⟩
  | succ n ih =>
    obtain ⟨q1, q2⟩ := ih (by omega)
    rw [gd_bs, gd_bs, q1, gd_E_lost q2 n (by omega), gd_E_p q2 129 (by omega) n (by omega)]
    split
    · exact ⟨rfl, gd_E_br q2 n (by omega) t⟩
    · exact ⟨q1, q2⟩
theorem gd_E_bo (h : gd_E T N g g') (t : Int) : gd_bo g' t = gd_bo g t := by
  have q := gd_E_bs h t (gd_n g) (by rw [gd_E_N h]; exact Nat.le_refl N)
  unfold gd_bo gd_out
  rw [gd_E_n h, q.1, gd_E_f q.2 16 (by omega)]
theorem gd_E_bm (h : gd_E T N g g') (t : Int) : gd_E T N (gd_bm g t) (gd_bm g' t) := by
  have q := gd_E_bs h t (gd_n g) (by rw [gd_E_N h]; exact Nat.le_refl N)
  have q2 : gd_E T N (gd_b2 (gd_bs g t (gd_n g)).2 (gd_bs g t (gd_n g)).1) (gd_b2 (gd_bs g' t (gd_n g')).2 (gd_bs g' t (gd_n g')).1) := by
    unfold gd_b2 gd_out
    rw [gd_E_n h, q.1, gd_E_f q.2 16 (by omega), gd_E_f q.2 30 (by omega)]
    exact gd_E_up q.2 117 30 rfl (by omega)
  unfold gd_bm gd_b3
  rw [gd_E_near q2, gd_E_alive q2, gd_E_f q2 21 (by omega)]
  exact gd_E_up q2 117 21 rfl (by omega)
end
theorem gd_fr_ne (q : gw_Mem) (t : Int) (n : Nat) {o : Nat} (ho : o ≠ 135) : gd_fr q t n o = q o := by
  induction n with
  | zero => rfl
  | succ n ih => rw [gd_fr, gw_up_ne ho, ih]
theorem gd_fr_at (q : gw_Mem) (t : Int) (n : Nat) (j : Int) : gd_fr q t n 135 j = if 12 * t + 2 ≤ j ∧ j < 12 * t + 2 + n then q 129 (j - (12 * t + 2)) else q 135 j := by
  induction n with
  | zero => rw [gd_fr, if_neg (by omega)]
  | succ n ih =>
    rw [gd_fr, gw_up_at, ih, gd_fr_ne q t n (by omega)]
    by_cases h : j = 12 * t + 2 + n
    · rw [if_pos h, if_pos (by omega)]
      congr 1
      omega
    · rw [if_neg h]
      by_cases h2 : 12 * t + 2 ≤ j ∧ j < 12 * t + 2 + n
      · rw [if_pos h2, if_pos (by omega)]
      · rw [if_neg h2, if_neg (by omega)]
theorem gd_bs_film (m : gw_Mem) (t : Int) (n : Nat) : (gd_bs m t n).2 135 = m 135 := by
  induction n with
  | zero => rfl
  | succ n ih =>
    rw [gd_bs]
    split
    · unfold gd_br
      simp (disch := omega) only [gw_up_ne]
      exact ih
    · exact ih
theorem gd_bm_film (m : gw_Mem) (t : Int) : gd_bm m t 135 = m 135 := by
  unfold gd_bm gd_b3 gd_b2
  simp (disch := omega) only [gw_up_ne]
  exact gd_bs_film m t _
theorem gd_bh_ne (m : gw_Mem) (t : Int) {o : Nat} (ho : o ≠ 135) : gd_bh m t o = gd_bm m t o := by
  unfold gd_bh gd_fm
  rw [gd_fr_ne _ _ _ ho, gw_up_ne ho, gw_up_ne ho]
theorem gd_bh_film (m : gw_Mem) (t j : Int) : gd_bh m t 135 j = if j = 12 * t then gd_bm m t 117 16 else if j = 12 * t + 1 then gd_bo m t else if 12 * t + 2 ≤ j ∧ j < 12 * t + 2 + gd_n m then gd_bm m t 129 (j - (12 * t + 2)) else m 135 j := by
  unfold gd_bh gd_fm
  rw [gd_fr_at]
  simp (disch := omega) only [gw_up_ne, gw_up_at]
  rw [gd_bm_film]
  by_cases h1 : j = 12 * t
  · rw [if_pos h1, if_neg (by omega), if_neg (by omega), if_pos h1]
  · rw [if_neg h1]
    by_cases h2 : j = 12 * t + 1
    · rw [if_pos h2, if_neg (by omega), if_pos h2, if_neg h1]
    · rw [if_neg h2, if_neg h2, if_neg h1]
theorem gd_E_bh {T : Nat} {N : Nat} {g g' : gw_Mem} (h : gd_E T N g g') (hN : N ≤ 10) : gd_E (T + 1 : Nat) N (gd_bh g T) (gd_bh g' T) := by
  have hm := gd_E_bm h T
  have ho := gd_E_bo h T
  have e : ∀ q : gw_Mem, ∀ o : Nat, o ≠ 135 → gd_bh q (T : Int) o = gd_bm q T o := fun q o z => gd_bh_ne q T z
  refine ⟨⟨fun o a => ?_, ?_⟩, fun j a => ?_, fun o a j b => ?_, fun j a b c => ?_, ?_⟩
  · rw [e _ o (by omega), e _ o (by omega)]; exact hm.1.1 o a
  · unfold gd_rl
    rw [e _ 122 (by omega), e _ 122 (by omega)]; exact hm.1.2
  · rw [e _ 117 (by omega), e _ 117 (by omega)]; exact hm.2.1 j a
  · rw [e _ o (by omega), e _ o (by omega)]; exact hm.2.2.1 o a j b
  · rw [gd_bh_film, gd_bh_film, ho, hm.2.1 16 (by omega), gd_E_n h]
    by_cases h1 : j = 12 * T
    · rw [if_pos h1, if_pos h1]
    · rw [if_neg h1, if_neg h1]
      by_cases h2 : j = 12 * T + 1
      · rw [if_pos h2, if_pos h2]
      · rw [if_neg h2, if_neg h2]
        have hgN := gd_E_N h
        by_cases h3 : 12 * (T : Int) + 2 ≤ j ∧ j < 12 * T + 2 + gd_n g
        · rw [if_pos h3, if_pos h3]
          exact hm.2.2.1 129 (by omega) _ (by omega)
        · rw [if_neg h3, if_neg h3]
          exact h.2.2.2.1 j a (by omega) c
  · rw [e _ 117 (by omega)]; exact hm.2.2.2.2
theorem gd_E_min {T : Nat} {N : Nat} {g g' : gw_Mem} (h : gd_E T N g g') (hN : N ≤ 10) : gd_E (T + 1 : Nat) N (gd_min g T) (gd_min g' T) := by
  unfold gd_min
  rw [gd_E_n h]
  exact gd_E_bh (gd_E_pp (gd_E_gg h T) T (gd_n g) (by rw [gd_E_N h]; exact Nat.le_refl N)) hN
def gd_iv (o : Nat) : Int := if o = 131 ∨ o = 134 then -4 else 0
theorem gd_ini_at (m : gw_Mem) (n : Nat) (o : Nat) (j : Int) : gd_ini m n o j = if (129 ≤ o ∧ o ≤ 134) ∧ 0 ≤ j ∧ j < n then gd_iv o else m o j := by
  induction n with
  | zero => rw [gd_ini, if_neg (by omega)]
  | succ n ih =>
    rw [gd_ini]
    unfold gd_in1
    by_cases h : (129 ≤ o ∧ o ≤ 134) ∧ j = n
    · obtain ⟨ho, hj⟩ := h
      rw [if_pos (by omega)]
      have hc : o = 129 ∨ o = 130 ∨ o = 131 ∨ o = 132 ∨ o = 133 ∨ o = 134 := by omega
      rcases hc with rfl | rfl | rfl | rfl | rfl | rfl <;> simp [gw_up, hj, gd_iv]
    · have e : ∀ (q : gw_Mem) (a : Nat) (v : Int), 129 ≤ a ∧ a ≤ 134 → gw_up q a n v o j = q o j := by
        intro q a v ha
        unfold gw_up
        rw [if_neg (fun z => h ⟨by omega, z.2⟩)]
      rw [e _ _ _ (by omega), e _ _ _ (by omega), e _ _ _ (by omega), e _ _ _ (by omega), e _ _ _ (by omega), e _ _ _ (by omega), ih]
      by_cases h2 : (129 ≤ o ∧ o ≤ 134) ∧ 0 ≤ j ∧ j < n
      · rw [if_pos h2, if_pos (by omega)]
      · rw [if_neg h2, if_neg (by omega)]
/-- two memories with one plan, as the walk reads it -/
def gd_pq (g g' : gw_Mem) : Prop := (∀ o : Nat, 118 ≤ o ∧ o ≤ 125 ∧ o ≠ 121 → g' o = g o) ∧ g' 117 0 = g 117 0 ∧ g' 117 6 = g 117 6
/-- or with two wishes that nobody can tell apart -/
def gd_pb (N : Nat) (g g' : gw_Mem) : Prop := ((∀ o : Nat, 118 ≤ o ∧ o ≤ 125 ∧ o ≠ 121 ∧ o ≠ 122 → g' o = g o) ∧ gd_rl N g g') ∧ g' 117 0 = g 117 0 ∧ g' 117 6 = g 117 6
theorem gd_pb_pq {g g' : gw_Mem} (N : Nat) (h : gd_pq g g') : gd_pb N g g' := ⟨⟨fun o a => h.1 o (by omega), fun j _ => by rw [h.1 122 (by omega)], Or.inl (by rw [h.1 122 (by omega)])⟩, h.2⟩
theorem gd_E_begb {N : Nat} {g g' : gw_Mem} (h : gd_pb N g g') (hN : g 117 6 = N) : gd_E (0 : Nat) N (gd_beg g) (gd_beg g') := by
  have en : gd_n g' = gd_n g := by unfold gd_n; rw [h.2.2]
  have en2 : gd_n g = N := by unfold gd_n; omega
  have s : ∀ (q : gw_Mem) (o : Nat), o ≠ 117 → gd_st0 q o = q o := by
    intro q o ho
    unfold gd_st0
    simp (disch := omega) only [gw_up_ne]
  unfold gd_beg
  rw [en, en2]
  have i122 : ∀ q : gw_Mem, gd_ini (gd_st0 q) N 122 = q 122 := by
    intro q
    funext j
    rw [gd_ini_at, if_neg (by omega), s _ 122 (by omega)]
  refine ⟨⟨fun o a => ?_, ?_⟩, fun j a => ?_, fun o a j b => ?_, fun j a b c => absurd b (by omega), ?_⟩
  · funext j
    rw [gd_ini_at, gd_ini_at, if_neg (by omega), if_neg (by omega), s _ o (by omega), s _ o (by omega), h.1.1 o a]
  · unfold gd_rl
    rw [i122, i122]
    exact h.1.2
  · rw [gd_ini_at, gd_ini_at, if_neg (by omega), if_neg (by omega)]
    unfold gd_st0
    simp only [gw_up_at]
    rcases a with rfl | rfl | a | rfl | rfl
    · simp; exact h.2.1
    · simp; exact h.2.2
    · have hc : j = 16 ∨ j = 17 ∨ j = 18 ∨ j = 19 ∨ j = 20 ∨ j = 21 ∨ j = 22 := by omega
      rcases hc with rfl | rfl | rfl | rfl | rfl | rfl | rfl <;> simp
    · simp
    · simp
  · rw [gd_ini_at, gd_ini_at, if_pos ⟨a, b⟩, if_pos ⟨a, b⟩]
  · rw [gd_ini_at, if_neg (by omega)]
    unfold gd_st0
    simp only [gw_up_at]
    simp
    exact hN
theorem gd_E_runb {N : Nat} {g g' : gw_Mem} (h : gd_pb N g g') (hN : g 117 6 = N) (hN2 : N ≤ 10) (k : Nat) : gd_E k N (gd_run (gd_beg g) k) (gd_run (gd_beg g') k) := by
  induction k with
  | zero => exact gd_E_begb h hN
  | succ k ih => exact gd_E_min ih hN2
theorem gd_E_walksb {N : Nat} {g g' : gw_Mem} (h : gd_pb N g g') (hN : g 117 6 = N) (hN2 : N ≤ 10) : gd_E (300 : Nat) N (gd_walks g) (gd_walks g') := gd_E_runb h hN hN2 300
theorem gd_E_walks {N : Nat} {g g' : gw_Mem} (h : gd_pq g g') (hN : g 117 6 = N) (hN2 : N ≤ 10) : gd_E (300 : Nat) N (gd_walks g) (gd_walks g') := gd_E_walksb (gd_pb_pq N h) hN hN2
