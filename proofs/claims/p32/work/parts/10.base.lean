/-! what the rows by hand share -/
def gw_tf (p : Prop) [Decidable p] : Int := if p then 1 else 0
theorem gw_tf0 {p : Prop} [Decidable p] : gw_tf p = 0 ↔ ¬ p := by
  unfold gw_tf
  split <;> simp_all
theorem gw_tfb (p : Prop) [Decidable p] : gw_b (gw_tf p) := by
  unfold gw_tf gw_b
  split <;> simp
theorem gw_inm {i n : Int} (h0 : 0 ≤ i) (h1 : i < n) : gw_in i n := ⟨h0, h1⟩
theorem gw_cl {x y : Int} : gw_cmp x y < 0 ↔ x < y := by
  unfold gw_cmp
  split
  · omega
  · split <;> omega
theorem gw_cg {x y : Int} : 0 < gw_cmp x y ↔ y < x := by
  unfold gw_cmp
  split
  · omega
  · split <;> omega
theorem gw_cle {x y : Int} : gw_cmp x y ≤ 0 ↔ x ≤ y := by
  unfold gw_cmp
  split
  · omega
  · split <;> omega
theorem gw_cge {x y : Int} : 0 ≤ gw_cmp x y ↔ y ≤ x := by
  unfold gw_cmp
  split
  · omega
  · split <;> omega
theorem gw_ce {x y : Int} : gw_cmp x y = 0 ↔ x = y := by
  unfold gw_cmp
  split
  · omega
  · split <;> omega
theorem gw_b_tf {p : Prop} [Decidable p] {A B : Prop} (hf : ¬ p → A) (ht : p → B) : (gw_tf p = 0 → A) ∧ (¬ gw_tf p = 0 → B) := ⟨fun h => hf (gw_tf0.mp h), fun h => ht (Classical.byContradiction fun z => h (gw_tf0.mpr z))⟩
/-- a contract whose answer is told -/
theorem gw_rI {v : Int} {m : gw_Mem} {P : Int → gw_Mem → Prop} (h : P v m) : ∃ w, (some (gI v) : Option gw_SV) = some (gI w) ∧ P w m := ⟨v, rfl, h⟩
theorem gw_rE {v w : Int} {m m' : gw_Mem} (hv : v = w) (hm : m = m') : ∃ z, (some (gI v) : Option gw_SV) = some (gI z) ∧ z = w ∧ m = m' := ⟨v, rfl, hv, hm⟩
/-- sums and counts -/
def gw_sum (f : Int → Int) : Nat → Int
  | 0 => 0
  | n + 1 => gw_sum f n + f n
theorem gw_nat {x : Int} (h : 0 ≤ x) : ∃ n : Nat, x = n := ⟨x.toNat, by omega⟩
theorem gw_w_nat {n : Nat} (h : n < 2147483648) : gw_w (n : Int) = n := gw_w_id (by omega)
theorem gw_w1 {n : Nat} (h : n < 2147483647) : gw_w ((n : Int) + 1) = ((n + 1 : Nat) : Int) := by rw [gw_w_id (by omega)]; omega
/-! small ones -/
theorem sp_X11_within (v a b : Int) (m : gw_Mem) : gw_SpecI M_X11_within 10 [gI v, gI a, gI b] m (fun r m' => r = gw_tf (a ≤ v ∧ v ≤ b) ∧ m' = m) := by
  refine gw_intro pl_X11_within rfl (fun Γ => ?_)
  apply r_X11_within_0
  refine gw_rE ?_ rfl
  unfold gw_tf
  split
  · rw [if_neg (by omega)]
  · split
    · rw [if_neg (by omega)]
    · rw [if_pos (by omega)]
theorem sp_X11_forget (m : gw_Mem) : gw_SpecV M_X11_forget 10 [gR 0] m (fun m' => m' = gw_up (gw_up m 0 8 0) 0 12 (-1)) := by
  refine gw_intro pl_X11_forget rfl (fun Γ => ?_)
  apply r_X11_forget_0
  exact ⟨rfl, rfl⟩
