/-! the reference: texts, costs, the square, images, sheets -/
theorem gw_cp_0 (m : gw_Mem) (a b : Nat) (s t : Int) : gw_cp m a s b t 0 = m := by
  funext q j
  unfold gw_cp
  rw [if_neg (by omega)]
theorem gw_cp_src {m : gw_Mem} {a b : Nat} {s t n : Int} (h : a ≠ b) : gw_cp m a s b t n a = m a := by
  funext j
  unfold gw_cp
  rw [if_neg (fun z => h z.1)]
theorem gw_cp_ne {m : gw_Mem} {a b q : Nat} {s t n : Int} (h : q ≠ b) : gw_cp m a s b t n q = m q := by
  funext j
  unfold gw_cp
  rw [if_neg (fun z => h z.1)]
theorem gw_cpa {m : gw_Mem} {a b : Nat} {s t n j : Int} : gw_cp m a s b t n b j = if t ≤ j ∧ j < t + n then m a (s + (j - t)) else m b j := by
  unfold gw_cp
  by_cases h : t ≤ j ∧ j < t + n
  · rw [if_pos ⟨rfl, h⟩, if_pos h]
  · rw [if_neg (fun z => h z.2), if_neg h]
theorem gw_cp_step {m : gw_Mem} {a b : Nat} {s t i : Int} (h : a ≠ b) (hi : 0 ≤ i) : gw_up (gw_cp m a s b t i) b (t + i) (m a (s + i)) = gw_cp m a s b t (i + 1) := by
  funext q j
  unfold gw_up gw_cp
  by_cases hq : q = b
  · subst hq
    by_cases hj : j = t + i
    · subst hj
      rw [if_pos ⟨rfl, rfl⟩, if_pos (by omega)]
      congr 1
      omega
    · rw [if_neg (fun z => hj z.2)]
      by_cases h1 : t ≤ j ∧ j < t + i
      · rw [if_pos ⟨rfl, h1⟩, if_pos (by omega)]
      · rw [if_neg (fun z => h1 z.2), if_neg (by omega)]
  · rw [if_neg (fun z => hq z.1), if_neg (fun z => hq z.1), if_neg (fun z => hq z.1)]
/-- n cells of o from a on become v -/
def gw_fill (m : gw_Mem) (o : Nat) (a n v : Int) : gw_Mem := fun q j => if q = o ∧ a ≤ j ∧ j < a + n then v else m q j
theorem gw_fill_0 (m : gw_Mem) (o : Nat) (a v : Int) : gw_fill m o a 0 v = m := by
  funext q j
  unfold gw_fill
  rw [if_neg (by omega)]
theorem gw_fill_ne {m : gw_Mem} {o q : Nat} {a n v : Int} (h : q ≠ o) : gw_fill m o a n v q = m q := by
  funext j
  unfold gw_fill
  rw [if_neg (fun z => h z.1)]
theorem gw_fill_at {m : gw_Mem} {o : Nat} {a n v j : Int} : gw_fill m o a n v o j = if a ≤ j ∧ j < a + n then v else m o j := by
  unfold gw_fill
  by_cases h : a ≤ j ∧ j < a + n
  · rw [if_pos ⟨rfl, h⟩, if_pos h]
  · rw [if_neg (fun z => h z.2), if_neg h]
theorem gw_fill_step {m : gw_Mem} {o : Nat} {a i v : Int} (hi : 0 ≤ i) : gw_up (gw_fill m o a i v) o (a + i) v = gw_fill m o a (i + 1) v := by
  funext q j
  unfold gw_up gw_fill
  by_cases hq : q = o
  · subst hq
    by_cases hj : j = a + i
    · subst hj
      rw [if_pos ⟨rfl, rfl⟩, if_pos (by omega)]
    · rw [if_neg (fun z => hj z.2)]
      by_cases h1 : a ≤ j ∧ j < a + i
      · rw [if_pos ⟨rfl, h1⟩, if_pos (by omega)]
      · rw [if_neg (fun z => h1 z.2), if_neg (by omega)]
  · rw [if_neg (fun z => hq z.1), if_neg (fun z => hq z.1), if_neg (fun z => hq z.1)]
/-! texts -/
def gd_by (w k : Int) : Int := gw_andL (gw_shrL w (8 * k)) 255
def gd_tok (w : Int) : Nat → Bool
  | 0 => true
  | n + 1 => gd_tok w n && decide (32 ≤ gd_by w n ∧ gd_by w n ≤ 126)
def gd_ty (w : Int) : Nat → gw_Mem → gw_Mem
  | 0, g => g
  | n + 1, g => gd_ty w n (gw_up (gw_up g 127 (g 117 12) (gd_by w n)) 117 12 (g 117 12 + 1))
theorem gd_tok_all {w : Int} {n : Nat} (h : gd_tok w n = true) : ∀ k : Nat, k < n → 32 ≤ gd_by w k ∧ gd_by w k ≤ 126 := by
  induction n with
  | zero => intro k hk; omega
  | succ n ih =>
    intro k hk
    rw [gd_tok, Bool.and_eq_true, decide_eq_true_eq] at h
    by_cases e : k = n
    · subst e; exact h.2
    · exact ih h.1 k (by omega)
theorem gd_tok_no {w : Int} {n k : Nat} (hk : k < n) (h : ¬ (32 ≤ gd_by w k ∧ gd_by w k ≤ 126)) : gd_tok w n = false := by
  cases e : gd_tok w n with
  | false => rfl
  | true => exact absurd (gd_tok_all e k hk) h
def ga_type (g : gw_Mem) (w n : Int) : Int := if 1 ≤ n ∧ n ≤ 8 then (if gd_tok w n.toNat = true then (if g 117 12 + n ≤ 80 then g 117 12 + n else -3) else -1) else -1
def gu_type (g : gw_Mem) (w n : Int) : gw_Mem := if 1 ≤ n ∧ n ≤ 8 then (if gd_tok w n.toNat = true then (if g 117 12 + n ≤ 80 then gd_ty w n.toNat g else g) else g) else g
theorem gd_ty_len (w : Int) (n : Nat) : ∀ g : gw_Mem, gd_ty w n g 117 12 = g 117 12 + n := by
  induction n with
  | zero => intro g; simp [gd_ty]
  | succ n ih =>
    intro g
    rw [gd_ty, ih, gw_up_at, if_pos rfl]
    omega
theorem sp_X12_type (w n : Int) (m : gw_Mem) (hJ : gd_JT m) : gw_SpecI M_X12_type 12 [gR 117, gL w, gI n] m (fun r m' => r = ga_type m w n ∧ m' = gu_type m w n) := by
  refine gw_intro pl_X12_type rfl (fun Γ => ?_)
  have hT := hJ.1
  apply r_X12_type_0
  refine gw_CI.eq (sp_X12_in n 1 8 m) rfl (gw_b_tf (fun h => ?_) (fun h1 => ?_))
  · exact gw_rE (by rw [ga_type, if_neg h]) (by rw [gu_type, if_neg h])
  obtain ⟨N, hN⟩ := gw_nat (x := n) (by omega)
  subst hN
  -- the writing
  have kw : gd_tok w N = true → m 117 12 + N ≤ 80 → ∀ (j : Nat) (g : gw_Mem), j ≤ N → g 117 12 + j = m 117 12 + N → gd_ty w j g = gd_ty w N m → gw_G M_X12_type 12 (fun r m' => ∃ v, r = some (gI v) ∧ v = ga_type m w N ∧ m' = gu_type m w N) Γ 73 [some (gR 117), some (gL w), none, some (gI (N : Int)), some (gI ((j : Int) - 1))] [] g := by
    intro hk hf j
    induction j with
    | zero =>
      intro g hj he hg
      apply r_X12_type_73
      refine ⟨fun _ => gw_rE ?_ ?_, fun h => absurd (by omega) h⟩
      · rw [ga_type, if_pos h1, Int.toNat_natCast, if_pos hk, if_pos hf]
        omega
      · rw [gu_type, if_pos h1, Int.toNat_natCast, if_pos hk, if_pos hf, ← hg]
        rfl
    | succ j ih =>
      intro g hj he hg
      apply r_X12_type_73
      refine ⟨fun h => absurd h (by omega), fun h => ⟨gw_inm (by omega) (by omega), ?_⟩⟩
      have hb := gd_tok_all hk j (by omega)
      have e1 : gw_w (8 * (((j + 1 : Nat) : Int) - 1)) = 8 * (j : Int) := by rw [gw_w_id (by omega)]; omega
      have e2 : gw_w ((((j + 1 : Nat) : Int) - 1) + (-1)) = (j : Int) - 1 := by rw [gw_w_id (by omega)]; omega
      have e3 : ∀ v : Int, gw_up g 127 (g 117 12) v 117 12 = g 117 12 := fun v => by rw [gw_up_ne (by decide)]
      rw [e1, e2, e3]
      have e4 : gw_w (gw_andL (gw_shrL w (8 * (j : Int))) 255) = gd_by w j := by
        show gw_w (gd_by w j) = gd_by w j
        rw [gw_w_id (by omega)]
      rw [e4, gw_w_id (x := g 117 12 + 1) (by omega)]
      refine ih _ (by omega) ?_ ?_
      · rw [gw_up_at, if_pos rfl]
        omega
      · rw [← hg, gd_ty]
  -- the looking
  have kl : ∀ (j i : Nat), i + j = N → gd_tok w i = true → gw_G M_X12_type 12 (fun r m' => ∃ v, r = some (gI v) ∧ v = ga_type m w N ∧ m' = gu_type m w N) Γ 17 [some (gR 117), some (gL w), none, some (gI (N : Int)), some (gI (i : Int))] [] m := by
    intro j
    induction j with
    | zero =>
      intro i hi hk
      have hi : i = N := by omega
      subst hi
      apply r_X12_type_17
      refine ⟨fun _ => ⟨fun h => ?_, fun h => ?_⟩, fun h => absurd (by omega) h⟩
      · rw [gw_w_id (by omega)] at h
        rw [gw_w_id (x := (i : Int) - 1) (by omega)]
        exact kw hk h i m (by omega) rfl rfl
      · rw [gw_w_id (by omega)] at h
        exact gw_rE (by rw [ga_type, if_pos h1, Int.toNat_natCast, if_pos hk, if_neg h]) (by rw [gu_type, if_pos h1, Int.toNat_natCast, if_pos hk, if_neg h])
    | succ j ih =>
      intro i hi hk
      apply r_X12_type_17
      refine ⟨fun h => absurd h (by omega), fun h => ?_⟩
      have e1 : gw_andL (gw_shrL w (gw_w (8 * (i : Int)))) 255 = gd_by w i := by rw [gw_w_id (by omega)]; rfl
      rw [e1]
      refine gw_CI.eq (sp_X12_in (gd_by w i) 32 126 m) rfl (gw_b_tf (fun h2 => ?_) (fun h2 => ?_))
      · have hno := gd_tok_no (show i < N by omega) h2
        exact gw_rE (by rw [ga_type, if_pos h1, Int.toNat_natCast, hno]; rfl) (by rw [gu_type, if_pos h1, Int.toNat_natCast, hno]; rfl)
      · rw [gw_w1 (by omega)]
        exact ih (i + 1) (by omega) (by rw [gd_tok, hk, decide_eq_true h2]; rfl)
  exact kl N 0 (by omega) rfl
/-! costs -/
def gd_cu (v k : Int) : Int := (v + k - 1).tdiv k
theorem gd_cu_rng {v k : Int} (hv : 0 ≤ v) (hk : 1 ≤ k) : 0 ≤ gd_cu v k ∧ gd_cu v k ≤ v + k - 1 ∧ 0 ≤ gd_cu v k * k ∧ gd_cu v k * k ≤ v + k - 1 := by
  unfold gd_cu
  rw [Int.tdiv_eq_ediv_of_nonneg (by omega)]
  have h1 := Int.ediv_nonneg (a := v + k - 1) (b := k) (by omega) (by omega)
  have h2 : (v + k - 1) / k * k ≤ v + k - 1 := Int.ediv_mul_le _ (by omega)
  have h3 : (v + k - 1) / k ≤ v + k - 1 := Int.ediv_le_self _ (by omega)
  exact ⟨h1, h3, Int.mul_nonneg h1 (by omega), h2⟩
def gd_later (n k : Int) : Nat → Int := gw_sum (fun j => min (gd_cu (j + 1) k * k) n - (j + 1))
def gd_cost (n k c e m : Int) : Int := 100 * c * gd_cu n k + e * m * gd_later n k n.toNat
theorem gd_later_rng {n k : Int} (hn : 0 ≤ n ∧ n ≤ 8) (hk : 1 ≤ k ∧ k ≤ 8) (i : Nat) (hi : i ≤ 8) : -10 * i ≤ gd_later n k i ∧ gd_later n k i ≤ 10 * i := by
  unfold gd_later
  induction i with
  | zero => simp [gw_sum]
  | succ i ih =>
    rw [gw_sum]
    have h1 := gd_cu_rng (v := (i : Int) + 1) (k := k) (by omega) (by omega)
    have h2 := ih (by omega)
    omega
theorem gd_mul_rng {a b A B : Int} (ha : 0 ≤ a ∧ a ≤ A) (hb : -B ≤ b ∧ b ≤ B) : -(A * B) ≤ a * b ∧ a * b ≤ A * B := by
  have hB : 0 ≤ B := by omega
  have h1 : a * b ≤ a * B := Int.mul_le_mul_of_nonneg_left hb.2 ha.1
  have h2 : a * B ≤ A * B := Int.mul_le_mul_of_nonneg_right ha.2 hB
  have h3 : a * (-B) ≤ a * b := Int.mul_le_mul_of_nonneg_left hb.1 ha.1
  have h4 : a * (-B) = -(a * B) := Int.mul_neg a B
  omega
theorem sp_X12_costOf (n k c e q : Int) (m : gw_Mem) (hn : 0 ≤ n ∧ n ≤ 8) (hk : 1 ≤ k ∧ k ≤ 8) (hc : 0 ≤ c ∧ c ≤ 9) (he : 0 ≤ e ∧ e ≤ 30) (hq : 0 ≤ q ∧ q ≤ 99) : gw_SpecI M_X12_costOf 10 [gI n, gI k, gI c, gI e, gI q] m (fun r m' => r = gd_cost n k c q e ∧ m' = m) := by
  refine gw_intro pl_X12_costOf rfl (fun Γ => ?_)
  apply r_X12_costOf_0
  refine ⟨by omega, ?_⟩
  have hcu := gd_cu_rng (v := n) (k := k) hn.1 hk.1
  have ecu : gw_w ((gw_w ((gw_w (n + k)) - 1)).tdiv k) = gd_cu n k := by
    rw [gw_w_id (x := n + k) (by omega), gw_w_id (x := n + k - 1) (by omega)]
    exact gw_w_id (by have := hcu; unfold gd_cu at this; omega)
  rw [ecu]
  obtain ⟨N, hN⟩ := gw_nat hn.1
  have key : ∀ (j i : Nat) (y : Option gw_SV), i + j = N → gw_G M_X12_costOf 10 (fun r m' => ∃ v, r = some (gI v) ∧ v = gd_cost n k c q e ∧ m' = m) Γ 15 [some (gI n), some (gI k), some (gI c), some (gI e), some (gI q), some (gI (gd_cu n k)), some (gI (gd_later n k i)), some (gI ((i : Int) + 1)), y] [] m := by
    intro j
    induction j with
    | zero =>
      intro i y hi
      apply r_X12_costOf_15
      refine ⟨fun _ => gw_rE ?_ rfl, fun h => absurd (by omega) h⟩
      have hl := gd_later_rng hn hk i (by omega)
      have b1 := gd_mul_rng (a := 100 * c) (b := gd_cu n k) (A := 900) (B := 16) (by omega) (by omega)
      have b2 := gd_mul_rng (a := q) (b := e) (A := 99) (B := 30) (by omega) (by omega)
      have b2' : 0 ≤ q * e := Int.mul_nonneg hq.1 he.1
      have b3 := gd_mul_rng (a := q * e) (b := gd_later n k i) (A := 2970) (B := 80) (by omega) (by omega)
      rw [gw_w_id (x := 100 * c) (by omega), gw_w_id (x := q * e) (by omega), gw_w_id (x := 100 * c * gd_cu n k) (by omega), gw_w_id (x := q * e * gd_later n k i) (by omega), gw_w_id (by omega), gd_cost, hN, Int.toNat_natCast, ← hi, Nat.add_zero]
    | succ j ih =>
      intro i y hi
      apply r_X12_costOf_15
      refine ⟨fun h => absurd h (by omega), fun h => ⟨by omega, ?_⟩⟩
      have h1 := gd_cu_rng (v := (i : Int) + 1) (k := k) (by omega) hk.1
      have hl := gd_later_rng hn hk i (by omega)
      have e1 : gw_w ((gw_w ((gw_w (((i : Int) + 1) + k)) - 1)).tdiv k) = gd_cu ((i : Int) + 1) k := by
        rw [gw_w_id (x := (i : Int) + 1 + k) (by omega), gw_w_id (x := (i : Int) + 1 + k - 1) (by omega)]
        exact gw_w_id (by have := h1; unfold gd_cu at this; omega)
      rw [e1, gw_w_id (x := gd_cu ((i : Int) + 1) k * k) (by omega)]
      have e2 : gw_w (gd_later n k i + gw_w ((if gd_cu ((i : Int) + 1) k * k ≤ n then gd_cu ((i : Int) + 1) k * k else n) - ((i : Int) + 1))) = gd_later n k (i + 1) := by
        have e3 : (if gd_cu ((i : Int) + 1) k * k ≤ n then gd_cu ((i : Int) + 1) k * k else n) = min (gd_cu ((i : Int) + 1) k * k) n := by
          rw [Int.min_def]
        rw [e3, gw_w_id (x := _ - _) (by omega), gw_w_id (by omega)]
        rfl
      rw [e2, gw_w_id (x := (i : Int) + 1 + 1) (by omega)]
      have h2 := ih (i + 1) (some (gI (gd_cu ((i : Int) + 1) k * k))) (by omega)
      have e4 : (((i + 1 : Nat) : Int) + 1) = (i : Int) + 1 + 1 := by omega
      rw [e4] at h2
      exact h2
  exact key N 0 _ (by omega)
theorem sp_X12_isCost (c e q : Int) (m : gw_Mem) : gw_SpecI M_X12_isCost 11 [gI c, gI e, gI q] m (fun r m' => r = gw_tf ((0 ≤ c ∧ c ≤ 9) ∧ (0 ≤ e ∧ e ≤ 30) ∧ 0 ≤ q ∧ q ≤ 99) ∧ m' = m) := by
  refine gw_intro pl_X12_isCost rfl (fun Γ => ?_)
  apply r_X12_isCost_0
  refine gw_CI.eq (sp_X12_in c 0 9 m) rfl (gw_b_tf (fun h => gw_rE ?_ rfl) (fun h1 => ?_))
  · rw [gw_tf, if_neg (fun z => h z.1)]
  refine gw_CI.eq (sp_X12_in e 0 30 m) rfl (gw_b_tf (fun h => gw_rE ?_ rfl) (fun h2 => ?_))
  · rw [gw_tf, if_neg (fun z => h z.2.1)]
  refine gw_CI.eq (sp_X12_in q 0 99 m) rfl (gw_rE ?_ rfl)
  unfold gw_tf
  simp only [h1, h2, true_and]
  split <;> rfl
def ga_counted (g : gw_Mem) (k c e q : Int) : Int := if (1 ≤ k ∧ k ≤ 8) ∧ (0 ≤ c ∧ c ≤ 9) ∧ (0 ≤ e ∧ e ≤ 30) ∧ 0 ≤ q ∧ q ≤ 99 then (if gd_stops g = 0 then -2 else gd_cost (gd_stops g) k c q e) else -1
theorem gd_stops_rng {g : gw_Mem} (hJ : gd_JP g) : 0 ≤ gd_stops g ∧ gd_stops g ≤ 8 := by
  have h1 := gd_met_rng g (g 118 0).toNat
  have h2 := hJ.2.1 0 (by omega)
  unfold gd_stops
  omega
theorem sp_X12_counted (k c e q : Int) (m : gw_Mem) (hJ : gd_JP m) : gw_SpecI M_X12_counted 13 [gR 117, gI k, gI c, gI e, gI q] m (fun r m' => r = ga_counted m k c e q ∧ m' = m) := by
  refine gw_intro pl_X12_counted rfl (fun Γ => ?_)
  apply r_X12_counted_0
  have hs := gd_stops_rng hJ
  refine gw_CI.eq (sp_X12_in k 1 8 m) rfl (gw_b_tf (fun h => ?_) (fun h1 => ?_))
  · exact gw_rE (by rw [ga_counted, if_neg (fun z => h z.1)]) rfl
  refine gw_CI.eq (sp_X12_isCost c e q m) rfl (gw_b_tf (fun h => ?_) (fun h2 => ?_))
  · exact gw_rE (by rw [ga_counted, if_neg (fun z => h z.2)]) rfl
  refine gw_CI.eq (sp_X12_stopsMet m hJ) rfl ⟨fun h => ?_, fun h => ?_⟩
  · exact gw_rE (by rw [ga_counted, if_pos ⟨h1, h2⟩, if_pos h]) rfl
  · exact gw_CI.eq (sp_X12_costOf _ k c e q m hs h1 h2.1 h2.2.1 h2.2.2) rfl (gw_rE (by rw [ga_counted, if_pos ⟨h1, h2⟩, if_neg h]) rfl)
/-- k with the least cost among 1 .. n + 1 -/
def gd_of (n c e q : Int) : Nat → Int
  | 0 => 1
  | i + 1 => if gd_cost n (i + 2) c q e < gd_cost n (gd_of n c e q i) c q e then i + 2 else gd_of n c e q i
theorem gd_of_rng (n c e q : Int) (i : Nat) : 1 ≤ gd_of n c e q i ∧ gd_of n c e q i ≤ i + 1 := by
  induction i with
  | zero => simp [gd_of]
  | succ i ih => rw [gd_of]; split <;> omega
def ga_often (g : gw_Mem) (c e q : Int) : Int := if (0 ≤ c ∧ c ≤ 9) ∧ (0 ≤ e ∧ e ≤ 30) ∧ 0 ≤ q ∧ q ≤ 99 then (if gd_stops g = 0 then -2 else gd_of (gd_stops g) c e q 7) else -1
theorem sp_X12_often (c e q : Int) (m : gw_Mem) (hJ : gd_JP m) : gw_SpecI M_X12_often 13 [gR 117, gI c, gI e, gI q] m (fun r m' => r = ga_often m c e q ∧ m' = m) := by
  refine gw_intro pl_X12_often rfl (fun Γ => ?_)
  apply r_X12_often_0
  have hs := gd_stops_rng hJ
  refine gw_CI.eq (sp_X12_isCost c e q m) rfl (gw_b_tf (fun h => ?_) (fun h2 => ?_))
  · exact gw_rE (by rw [ga_often, if_neg h]) rfl
  refine gw_CI.eq (sp_X12_stopsMet m hJ) rfl ?_
  have key : ∀ (j i : Nat), i + j = 7 → gw_G M_X12_often 13 (fun r m' => ∃ v, r = some (gI v) ∧ v = ga_often m c e q ∧ m' = m) Γ 23 [some (gR 117), some (gI c), some (gI e), some (gI q), some (gI (gd_stops m)), some (gI (gd_of (gd_stops m) c e q i)), some (gI ((i : Int) + 2))] [] m := by
    intro j
    induction j with
    | zero =>
      intro i hi
      apply r_X12_often_23
      refine ⟨fun _ => gw_rE ?_ rfl, fun h => absurd (by omega) h⟩
      rw [ga_often, if_pos h2, show i = 7 by omega]
    | succ j ih =>
      intro i hi
      apply r_X12_often_23
      refine ⟨fun h => absurd h (by omega), fun h => ?_⟩
      have ho := gd_of_rng (gd_stops m) c e q i
      refine gw_CI.eq (sp_X12_costOf _ ((i : Int) + 2) c e q m hs (by omega) h2.1 h2.2.1 h2.2.2) rfl ?_
      refine gw_CI.eq (sp_X12_costOf _ _ c e q m hs (by omega) h2.1 h2.2.1 h2.2.2) rfl ?_
      have e1 : (if gd_cost (gd_stops m) (gd_of (gd_stops m) c e q i) c q e ≤ gd_cost (gd_stops m) ((i : Int) + 2) c q e then gd_of (gd_stops m) c e q i else (i : Int) + 2) = gd_of (gd_stops m) c e q (i + 1) := by
        rw [gd_of]
        split
        · rw [if_neg (by omega)]
        · rw [if_pos (by omega)]
      rw [e1, gw_w_id (x := (i : Int) + 2 + 1) (by omega)]
      have h3 := ih (i + 1) (by omega)
      have e2 : (((i + 1 : Nat) : Int) + 2) = (i : Int) + 2 + 1 := by omega
      rw [e2] at h3
      exact h3
  exact key 7 0 (by omega)
def ga_square (g : gw_Mem) (p v : Int) : Int := if (0 ≤ p ∧ p ≤ 143) ∧ 0 ≤ v ∧ v ≤ 2 then g 126 p else -1
def gu_square (g : gw_Mem) (p v : Int) : gw_Mem := if (0 ≤ p ∧ p ≤ 143) ∧ 0 ≤ v ∧ v ≤ 2 then gw_up g 126 p v else g
theorem sp_X12_square (p v : Int) (m : gw_Mem) : gw_SpecI M_X12_square 12 [gR 117, gI p, gI v] m (fun r m' => r = ga_square m p v ∧ m' = gu_square m p v) := by
  refine gw_intro pl_X12_square rfl (fun Γ => ?_)
  apply r_X12_square_0
  refine gw_CI.eq (sp_X12_in p 0 143 m) rfl (gw_b_tf (fun h => ?_) (fun h1 => ?_))
  · exact gw_rE (by rw [ga_square, if_neg (fun z => h z.1)]) (by rw [gu_square, if_neg (fun z => h z.1)])
  refine gw_CI.eq (sp_X12_in v 0 2 m) rfl (gw_b_tf (fun h => ?_) (fun h2 => ?_))
  · exact gw_rE (by rw [ga_square, if_neg (fun z => h z.2)]) (by rw [gu_square, if_neg (fun z => h z.2)])
  exact ⟨gw_inm (by omega) (by omega), gw_inm (by omega) (by omega), gw_rE (by rw [ga_square, if_pos ⟨h1, h2⟩]) (by rw [gu_square, if_pos ⟨h1, h2⟩])⟩
/-! images -/
theorem sp_X12_lay (b n : Nat) (at_ : Int) (m : gw_Mem) (hs : gw_SH[b]? = some (1, n, [])) (hn : n ≤ 144) (ha : 0 ≤ at_ ∧ at_ + n ≤ 270) (hb : b ≠ 137) : gw_SpecI M_X12_lay 10 [gR 117, gR b, gI at_] m (fun r m' => r = at_ + n ∧ m' = gw_cp m b 0 137 at_ n) := by
  refine gw_intro pl_X12_lay rfl (fun Γ => ?_)
  have hrb : gw_rb (n : Int) = true := by
    show Nat.blt n 2147483648 = true
    rw [Nat.blt_eq]
    omega
  apply r_X12_lay_0 b n hs hrb
  have key : ∀ (j i : Nat), i + j = n → gw_G M_X12_lay 10 (fun r m' => ∃ v, r = some (gI v) ∧ v = at_ + n ∧ m' = gw_cp m b 0 137 at_ n) Γ 2 [some (gR 117), some (gR b), some (gI at_), some (gI (i : Int))] [] (gw_cp m b 0 137 at_ i) := by
    intro j
    induction j with
    | zero =>
      intro i hi
      apply r_X12_lay_2 b n hs hrb
      refine ⟨fun _ => gw_rE (gw_w_id (by omega)) ?_, fun h => absurd (by omega) h⟩
      rw [show i = n by omega]
    | succ j ih =>
      intro i hi
      apply r_X12_lay_2 b n hs hrb
      refine ⟨fun h => absurd h (by omega), fun h => ⟨gw_inm (by omega) (by omega), ?_⟩⟩
      rw [gw_w_id (x := at_ + i) (by omega), gw_w1 (by omega), gw_cp_src hb]
      refine ⟨gw_inm (by omega) (by omega), ?_⟩
      have h1 := gw_cp_step (m := m) (a := b) (b := 137) (s := 0) (t := at_) (i := i) hb (by omega)
      rw [Int.zero_add] at h1
      rw [h1]
      exact ih (i + 1) (by omega)
  have h0 := key n 0 (by omega)
  rw [show ((0 : Nat) : Int) = 0 from rfl, gw_cp_0] at h0
  exact h0
theorem sp_X12_gives (b n : Nat) (at_ : Int) (m : gw_Mem) (hs : gw_SH[b]? = some (1, n, [])) (hn : n ≤ 144) (ha : 0 ≤ at_ ∧ at_ + n ≤ 270) (hb : b ≠ 137) : gw_SpecI M_X12_gives 10 [gR 117, gI at_, gR b] m (fun r m' => r = at_ + n ∧ m' = gw_cp m 137 at_ b 0 n) := by
  refine gw_intro pl_X12_gives rfl (fun Γ => ?_)
  have hrb : gw_rb (n : Int) = true := by
    show Nat.blt n 2147483648 = true
    rw [Nat.blt_eq]
    omega
  apply r_X12_gives_0 _ b n hs hrb
  have key : ∀ (j i : Nat), i + j = n → gw_G M_X12_gives 10 (fun r m' => ∃ v, r = some (gI v) ∧ v = at_ + n ∧ m' = gw_cp m 137 at_ b 0 n) Γ 2 [some (gR 117), some (gI at_), some (gR b), some (gI (i : Int))] [] (gw_cp m 137 at_ b 0 i) := by
    intro j
    induction j with
    | zero =>
      intro i hi
      apply r_X12_gives_2 _ b n hs hrb
      refine ⟨fun _ => gw_rE (gw_w_id (by omega)) ?_, fun h => absurd (by omega) h⟩
      rw [show i = n by omega]
    | succ j ih =>
      intro i hi
      apply r_X12_gives_2 _ b n hs hrb
      refine ⟨fun h => absurd h (by omega), fun h => ?_⟩
      rw [gw_w_id (x := at_ + i) (by omega), gw_w1 (by omega), gw_cp_src (Ne.symm hb)]
      refine ⟨gw_inm (by omega) (by omega), gw_inm (by omega) (by omega), ?_⟩
      have h1 := gw_cp_step (m := m) (a := 137) (b := b) (s := at_) (t := 0) (i := i) (Ne.symm hb) (by omega)
      rw [Int.zero_add] at h1
      rw [h1]
      exact ih (i + 1) (by omega)
  have h0 := key n 0 (by omega)
  rw [show ((0 : Nat) : Int) = 0 from rfl, gw_cp_0] at h0
  exact h0
def gu_image0 (g : gw_Mem) : gw_Mem := gw_cp (gw_cp (gw_cp (gw_cp (gw_cp (gw_cp (gw_cp (gw_cp (gw_cp g 118 0 137 0 4) 119 0 137 4 32) 120 0 137 36 32) 121 0 137 68 8) 122 0 137 76 5) 123 0 137 81 10) 124 0 137 91 10) 125 0 137 101 10) 126 0 137 111 144
def gu_image (g : gw_Mem) : gw_Mem := gw_up (gw_up (gw_up (gu_image0 g) 137 255 (g 117 0)) 137 256 (g 117 6)) 117 34 1
theorem sp_X12_image (m : gw_Mem) : gw_SpecI M_X12_image 11 [gR 117] m (fun r m' => r = 1 ∧ m' = gu_image m) := by
  refine gw_intro pl_X12_image rfl (fun Γ => ?_)
  apply r_X12_image_0
  refine gw_CI.eq (sp_X12_lay 118 4 0 _ rfl (by decide) (by omega) (by decide)) rfl ?_
  refine gw_CI.eq (sp_X12_lay 119 32 _ _ rfl (by decide) (by omega) (by decide)) rfl ?_
  refine gw_CI.eq (sp_X12_lay 120 32 _ _ rfl (by decide) (by omega) (by decide)) rfl ?_
  refine gw_CI.eq (sp_X12_lay 121 8 _ _ rfl (by decide) (by omega) (by decide)) rfl ?_
  refine gw_CI.eq (sp_X12_lay 122 5 _ _ rfl (by decide) (by omega) (by decide)) rfl ?_
  refine gw_CI.eq (sp_X12_lay 123 10 _ _ rfl (by decide) (by omega) (by decide)) rfl ?_
  refine gw_CI.eq (sp_X12_lay 124 10 _ _ rfl (by decide) (by omega) (by decide)) rfl ?_
  refine gw_CI.eq (sp_X12_lay 125 10 _ _ rfl (by decide) (by omega) (by decide)) rfl ?_
  refine gw_CI.eq (sp_X12_lay 126 144 _ _ rfl (by decide) (by omega) (by decide)) rfl ?_
  refine ⟨gw_inm (by omega) (by omega), gw_inm (by rw [gw_w_id (by omega)]; omega) (by rw [gw_w_id (by omega)]; omega), gw_rE rfl ?_⟩
  rw [gw_w_id (by omega)]
  have e1 : ∀ (g : gw_Mem) (a : Nat) (s t n j : Int), gw_cp g a s 137 t n 117 j = g 117 j := fun g a s t n j => by rw [gw_cp_ne (by decide)]
  simp only [e1, gw_up_ne (show (117 : Nat) ≠ 137 by decide)]
  rfl
def gu_restore (g : gw_Mem) : gw_Mem := gw_up (gw_up (gw_cp (gw_cp (gw_cp (gw_cp (gw_cp (gw_cp (gw_cp (gw_cp (gw_cp g 137 0 118 0 4) 137 4 119 0 32) 137 36 120 0 32) 137 68 121 0 8) 137 76 122 0 5) 137 81 123 0 10) 137 91 124 0 10) 137 101 125 0 10) 137 111 126 0 144) 117 0 (g 137 255)) 117 6 (g 137 256)
theorem sp_X12_restore (m : gw_Mem) : gw_SpecI M_X12_restore 11 [gR 117] m (fun r m' => r = (if m 117 34 = 0 then -4 else 1) ∧ m' = if m 117 34 = 0 then m else gu_restore m) := by
  refine gw_intro pl_X12_restore rfl (fun Γ => ?_)
  apply r_X12_restore_0
  refine ⟨fun h => gw_rE (by rw [if_pos h]) (by rw [if_pos h]), fun h => ?_⟩
  rw [if_neg h, if_neg h]
  refine gw_CI.eq (sp_X12_gives 118 4 0 _ rfl (by decide) (by omega) (by decide)) rfl ?_
  refine gw_CI.eq (sp_X12_gives 119 32 _ _ rfl (by decide) (by omega) (by decide)) rfl ?_
  refine gw_CI.eq (sp_X12_gives 120 32 _ _ rfl (by decide) (by omega) (by decide)) rfl ?_
  refine gw_CI.eq (sp_X12_gives 121 8 _ _ rfl (by decide) (by omega) (by decide)) rfl ?_
  refine gw_CI.eq (sp_X12_gives 122 5 _ _ rfl (by decide) (by omega) (by decide)) rfl ?_
  refine gw_CI.eq (sp_X12_gives 123 10 _ _ rfl (by decide) (by omega) (by decide)) rfl ?_
  refine gw_CI.eq (sp_X12_gives 124 10 _ _ rfl (by decide) (by omega) (by decide)) rfl ?_
  refine gw_CI.eq (sp_X12_gives 125 10 _ _ rfl (by decide) (by omega) (by decide)) rfl ?_
  refine gw_CI.eq (sp_X12_gives 126 144 _ _ rfl (by decide) (by omega) (by decide)) rfl ?_
  refine ⟨gw_inm (by omega) (by omega), gw_inm (by rw [gw_w_id (by omega)]; omega) (by rw [gw_w_id (by omega)]; omega), gw_rE rfl ?_⟩
  rw [gw_w_id (by omega)]
  simp only [gw_up_ne (show (137 : Nat) ≠ 117 by decide), gw_cp_ne (show (137 : Nat) ≠ 118 by decide), gw_cp_ne (show (137 : Nat) ≠ 119 by decide), gw_cp_ne (show (137 : Nat) ≠ 120 by decide), gw_cp_ne (show (137 : Nat) ≠ 121 by decide), gw_cp_ne (show (137 : Nat) ≠ 122 by decide), gw_cp_ne (show (137 : Nat) ≠ 123 by decide), gw_cp_ne (show (137 : Nat) ≠ 124 by decide), gw_cp_ne (show (137 : Nat) ≠ 125 by decide), gw_cp_ne (show (137 : Nat) ≠ 126 by decide)]
  rfl
