/-! bytes of a long -/
theorem gd_bv (x : BitVec 64) (n : Nat) (hn : n ≤ 56) : x.sshiftRight n &&& 255#64 = x >>> n &&& 255#64 := by
  apply BitVec.eq_of_getLsbD_eq
  intro i hi
  rw [BitVec.getLsbD_and, BitVec.getLsbD_and]
  by_cases h : i < 8
  · rw [BitVec.getLsbD_sshiftRight, BitVec.getLsbD_ushiftRight]
    have h1 : n + i < 64 := by omega
    have h0 : decide (64 ≤ i) = false := decide_eq_false (by omega)
    rw [h0, if_pos h1, Bool.not_false, Bool.true_and]
  · have h2 : (255#64).getLsbD i = false := by
      have h3 : (255 : Nat).testBit i = false := by
        apply Nat.testBit_lt_two_pow
        calc (255 : Nat) < 2 ^ 8 := by decide
          _ ≤ 2 ^ i := Nat.pow_le_pow_right (by decide) (by omega)
      simp [BitVec.getLsbD, h3]
    rw [h2, Bool.and_false, Bool.and_false]
theorem gd_by_rng (w k : Int) : 0 ≤ gd_by w k ∧ gd_by w k ≤ 255 := by
  unfold gd_by gw_andL
  generalize Int64.ofInt (gw_shrL w (8 * k)) = a
  have h1 : (a &&& Int64.ofInt 255).toBitVec.toNat ≤ 255 := by
    have h2 : (a &&& Int64.ofInt 255).toBitVec = a.toBitVec &&& 255#64 := by
      rw [Int64.toBitVec_and]
      rfl
    rw [h2, BitVec.toNat_and]
    exact Nat.and_le_right
  have h3 : (a &&& Int64.ofInt 255).toInt = (a &&& Int64.ofInt 255).toBitVec.toInt := rfl
  rw [h3, BitVec.toInt_eq_toNat_cond]
  split <;> omega
theorem gd_by_u (w : Int) (k : Nat) (hk : k < 8) : gw_andL (gw_ushrL w (8 * (k : Int))) 255 = gd_by w k := by
  unfold gd_by gw_andL gw_ushrL gw_shrL
  rw [Int64.ofInt_toInt, Int64.ofInt_toInt]
  congr 1
  apply Int64.toBitVec_inj.mp
  rw [Int64.toBitVec_and, Int64.toBitVec_and]
  have e255 : (Int64.ofInt 255).toBitVec = 255#64 := rfl
  rw [e255]
  have hb := gd_bv (Int64.ofInt w).toBitVec (8 * k) (by omega)
  have hk2 : k = 0 ∨ k = 1 ∨ k = 2 ∨ k = 3 ∨ k = 4 ∨ k = 5 ∨ k = 6 ∨ k = 7 := by omega
  rcases hk2 with rfl | rfl | rfl | rfl | rfl | rfl | rfl | rfl <;> exact hb.symm

theorem gd_i2b {v : Int} (h : -128 ≤ v ∧ v ≤ 127) : gw_i2b v = v := by
  unfold gw_i2b
  rw [Int8.toInt_toInt32, Int32.toInt_toInt8, gw_toInt_id (by unfold gw_inR; omega)]
  rw [Int.bmod_def]
  simp only [show ((2 ^ 8 : Nat) : Int) = 256 from rfl]
  split <;> omega
/-! the tape -/
theorem sp_X9_holdsText (w : Int) (N : Nat) (m : gw_Mem) (hN : N ≤ 8) : gw_SpecI M_X9_holdsText 11 [gL w, gI (N : Int)] m (fun r m' => r = gw_tf (gd_tok w N = true) ∧ m' = m) := by
  refine gw_intro pl_X9_holdsText rfl (fun Γ => ?_)
  apply r_X9_holdsText_0
  have kl : ∀ (j i : Nat), i + j = N → gd_tok w i = true → gw_G M_X9_holdsText 11 (fun r m' => ∃ v, r = some (gI v) ∧ v = gw_tf (gd_tok w N = true) ∧ m' = m) Γ 2 [some (gL w), none, some (gI (N : Int)), some (gI (i : Int))] [] m := by
    intro j
    induction j with
    | zero =>
      intro i hi hk
      have hi : i = N := by omega
      subst hi
      apply r_X9_holdsText_2
      exact ⟨fun _ => gw_rE (by rw [gw_tf, if_pos hk]) rfl, fun h => absurd (by omega) h⟩
    | succ j ih =>
      intro i hi hk
      apply r_X9_holdsText_2
      refine ⟨fun h => absurd h (by omega), fun h => ?_⟩
      have hr := gd_by_rng w i
      have e1 : gw_w (gw_andL (gw_ushrL w (gw_w (8 * (i : Int)))) 255) = gd_by w i := by
        rw [gw_w_id (x := 8 * (i : Int)) (by omega), gd_by_u w i (by omega), gw_w_id (by omega)]
      rw [e1]
      refine gw_CI.eq (sp_X11_within (gd_by w i) 32 126 m) rfl (gw_b_tf (fun h2 => ?_) (fun h2 => ?_))
      · have hno := gd_tok_no (show i < N by omega) h2
        exact gw_rE (by rw [gw_tf, hno]; rfl) rfl
      · rw [gw_w1 (by omega)]
        exact ih (i + 1) (by omega) (by rw [gd_tok, hk, decide_eq_true h2]; rfl)
  exact kl N 0 (by omega) rfl
/-- the class's tape written -/
def gc_ty (w : Int) : Nat → gw_Mem → gw_Mem
  | 0, m => m
  | n + 1, m => gc_ty w n (gw_up (gw_up m 47 (m 46 1) (gd_by w n)) 46 1 (m 46 1 + 1))
theorem sp_X9_write (w : Int) (N : Nat) (m : gw_Mem) (hN : 1 ≤ N ∧ N ≤ 8) (hk : gd_tok w N = true) (hl : 0 ≤ m 46 1 ∧ m 46 1 ≤ 80) : gw_SpecI M_X9_write 10 [gR 46, gL w, gI (N : Int)] m (fun r m' => (r = if m 46 1 + N ≤ 80 then m 46 1 + N else -3) ∧ m' = if m 46 1 + N ≤ 80 then gc_ty w N m else m) := by
  refine gw_intro pl_X9_write rfl (fun Γ => ?_)
  apply r_X9_write_0
  rw [gw_w_id (x := m 46 1 + N) (by omega), gw_w_id (x := (N : Int) - 1) (by omega)]
  refine ⟨fun hf => ?_, fun hf => gw_rE (by rw [if_neg hf]) (by rw [if_neg hf])⟩
  have kw : ∀ (j : Nat) (g : gw_Mem), j ≤ N → g 46 1 + j = m 46 1 + N → gc_ty w j g = gc_ty w N m → gw_G M_X9_write 10 (fun r m' => ∃ v, r = some (gI v) ∧ (v = if m 46 1 + N ≤ 80 then m 46 1 + N else -3) ∧ m' = if m 46 1 + N ≤ 80 then gc_ty w N m else m) Γ 19 [some (gR 46), some (gL w), none, some (gI (N : Int)), some (gI ((j : Int) - 1))] [] g := by
    intro j
    induction j with
    | zero =>
      intro g hj he hg
      apply r_X9_write_19
      refine ⟨fun _ => gw_rE ?_ ?_, fun h => absurd (by omega) h⟩
      · rw [if_pos hf]
        omega
      · rw [if_pos hf, ← hg]
        rfl
    | succ j ih =>
      intro g hj he hg
      apply r_X9_write_19
      refine ⟨fun h => absurd h (by omega), fun h => ⟨gw_inm (by omega) (by omega), ?_⟩⟩
      have hb := gd_tok_all hk j (by omega)
      have hr := gd_by_rng w j
      have e1 : gw_w (8 * (((j + 1 : Nat) : Int) - 1)) = 8 * (j : Int) := by rw [gw_w_id (by omega)]; omega
      have e2 : gw_w ((((j + 1 : Nat) : Int) - 1) + (-1)) = (j : Int) - 1 := by rw [gw_w_id (by omega)]; omega
      have e3 : ∀ v : Int, gw_up g 47 (g 46 1) v 46 1 = g 46 1 := fun v => by rw [gw_up_ne (by decide)]
      rw [e1, e2, e3, gd_by_u w j (by omega), gw_w_id (x := gd_by w j) (by omega), gd_i2b (v := gd_by w j) (by omega), gd_i2b (v := gd_by w j) (by omega), gw_w_id (x := g 46 1 + 1) (by omega)]
      refine ih _ (by omega) ?_ ?_
      · rw [gw_up_at, if_pos rfl]
        omega
      · rw [← hg, gc_ty]
  exact kw N m (by omega) rfl rfl
def cu_type (g m : gw_Mem) (w n : Int) : gw_Mem := if 1 ≤ n ∧ n ≤ 8 then (if gd_tok w n.toNat = true then (if g 117 12 + n ≤ 80 then gc_ty w n.toNat m else m) else m) else m
theorem sp_X11_type (g m : gw_Mem) (hJ : gd_JT g) (hT : gc_T g m) (w n : Int) : gw_SpecI M_X11_type 12 [gR 0, gL w, gI n] m (fun r m' => r = ga_type g w n ∧ m' = cu_type g m w n) := by
  refine gw_intro pl_X11_type rfl (fun Γ => ?_)
  apply r_X11_type_0
  refine gw_CI.eq (sp_X11_within n 1 8 m) rfl (gw_b_tf (fun h => ?_) (fun h1 => ?_))
  · exact gw_rE (by rw [ga_type, if_neg h]) (by rw [cu_type, if_neg h])
  obtain ⟨N, hN⟩ := gw_nat (x := n) (by omega)
  subst hN
  have hz := hT.1
  have hj := hJ.1
  refine gw_CI.eq (sp_X9_holdsText w N m (by omega)) rfl (gw_b_tf (fun h2 => ?_) (fun h2 => ?_))
  · exact gw_rE (by rw [ga_type, if_pos h1, Int.toNat_natCast, if_neg h2]) (by rw [cu_type, if_pos h1, Int.toNat_natCast, if_neg h2])
  · refine gw_CI.eq (sp_X9_write w N m (by omega) h2 (by omega)) rfl ?_
    refine gw_rE ?_ ?_
    · rw [ga_type, if_pos h1, Int.toNat_natCast, if_pos h2, hz]
    · rw [cu_type, if_pos h1, Int.toNat_natCast, if_pos h2, hz]
theorem gc_T_ty (w : Int) (n : Nat) : ∀ g m : gw_Mem, gc_T g m → 0 ≤ g 117 12 → gc_T (gd_ty w n g) (gc_ty w n m) := by
  induction n with
  | zero => intro g m h _; exact h
  | succ n ih =>
    intro g m h h0
    rw [gd_ty, gc_ty]
    refine ih _ _ ?_ (by rw [gw_up_at, if_pos rfl]; omega)
    have e0 := h.1
    refine ⟨by rw [gw_up_at, if_pos rfl, gw_up_at, if_pos rfl, e0], fun j hj => ?_⟩
    rw [gw_up_at, if_pos rfl] at hj
    rw [gw_up_ne (show (47 : Nat) ≠ 46 by decide), gw_up_ne (show (127 : Nat) ≠ 117 by decide), gw_up_at, gw_up_at, e0]
    split
    · rfl
    · exact h.2 j (by omega)
theorem gd_JT_ty (w : Int) (n : Nat) : ∀ g : gw_Mem, gd_JT g → gd_tok w n = true → g 117 12 + n ≤ 80 → gd_JT (gd_ty w n g) := by
  induction n with
  | zero => intro g h _ _; exact h
  | succ n ih =>
    intro g h hk hf
    rw [gd_ty]
    have hk2 := hk
    rw [gd_tok, Bool.and_eq_true, decide_eq_true_eq] at hk2
    refine ih _ ?_ hk2.1 (by rw [gw_up_at, if_pos rfl]; omega)
    refine ⟨by rw [gw_up_at, if_pos rfl]; have := h.1; omega, fun j hj => ?_⟩
    rw [gw_up_at, if_pos rfl] at hj
    rw [gw_up_ne (by decide), gw_up_at]
    split
    · exact hk2.2
    · exact h.2 j (by omega)
theorem gd_ty_ne (w : Int) (n : Nat) : ∀ (g : gw_Mem) (o : Nat) (j : Int), (o ≠ 127 ∧ (o = 117 → j ≠ 12)) → gd_ty w n g o j = g o j := by
  induction n with
  | zero => intro g o j _; rfl
  | succ n ih =>
    intro g o j h
    rw [gd_ty, ih _ o j h]
    by_cases e : o = 117
    · subst e
      rw [gw_up_at, if_neg (h.2 rfl), gw_up_ne (by decide)]
    · rw [gw_up_ne e, gw_up_ne h.1]
theorem gc_ty_ne (w : Int) (n : Nat) : ∀ (m : gw_Mem) (o : Nat), o ≠ 46 → o ≠ 47 → gc_ty w n m o = m o := by
  induction n with
  | zero => intro g o _ _; rfl
  | succ n ih =>
    intro m o h1 h2
    rw [gc_ty, ih _ o h1 h2, gw_up_ne h1, gw_up_ne h2]
