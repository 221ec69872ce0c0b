/-! the reference: the way, the people -/
def gm_X (m m' : gw_Mem) : Prop := ∀ o : Nat, o < 117 → m' o = m o
theorem gm_X_up {m : gw_Mem} {o : Nat} {j v : Int} (h : 117 ≤ o) : gm_X m (gw_up m o j v) := fun q hq => gw_up_ne (by omega)
theorem gm_X_tr {m m' m2 : gw_Mem} (h : gm_X m m') (h2 : gm_X m' m2) : gm_X m m2 := fun q hq => (h2 q hq).trans (h q hq)
/-- what a golden call answers (BAD etc.) is told in ga_, what it leaves in gu_ -/
def ga_end (g : gw_Mem) (v : Int) : Int := if 10 ≤ v ∧ v ≤ 99 then g 117 0 else -1
def gu_end (g : gw_Mem) (v : Int) : gw_Mem := if 10 ≤ v ∧ v ≤ 99 then gw_up g 117 0 v else g
def gd_comes (g : gw_Mem) (k p l : Int) : gw_Mem := gw_up (if k = 0 then gw_up (gw_up (gw_up g 119 (8 * k + g 118 k) p) 120 (8 * k + g 118 k) l) 121 (g 118 k) 10 else gw_up (gw_up g 119 (8 * k + g 118 k) p) 120 (8 * k + g 118 k) l) 118 k (g 118 k + 1)
def ga_mark (g : gw_Mem) (k p l : Int) : Int := if (0 ≤ k ∧ k ≤ 3) ∧ (0 ≤ p ∧ p ≤ 99) ∧ gd_lo k ≤ l ∧ l ≤ gd_hi k then (if 0 ≤ gd_ma g k p (g 118 k).toNat then -2 else if g 118 k = 8 then -3 else g 118 k) else -1
def gu_mark (g : gw_Mem) (k p l : Int) : gw_Mem := if (0 ≤ k ∧ k ≤ 3) ∧ (0 ≤ p ∧ p ≤ 99) ∧ gd_lo k ≤ l ∧ l ≤ gd_hi k then (if 0 ≤ gd_ma g k p (g 118 k).toNat then g else if g 118 k = 8 then g else gd_comes g k p l) else g
def ga_told (g : gw_Mem) (k j w : Int) : Int := if (0 ≤ k ∧ k ≤ 3) ∧ (0 ≤ j ∧ j ≤ g 118 k - 1) ∧ 0 ≤ w ∧ w ≤ (if k = 0 then 2 else 1) then (if w = 0 then g 119 (8 * k + j) else if w = 1 then g 120 (8 * k + j) else g 121 j) else -1
def ga_value (g : gw_Mem) (j v : Int) : Int := if (0 ≤ j ∧ j ≤ g 118 0 - 1) ∧ 0 ≤ v ∧ v ≤ 99 then g 121 j else -1
def gu_value (g : gw_Mem) (j v : Int) : gw_Mem := if (0 ≤ j ∧ j ≤ g 118 0 - 1) ∧ 0 ≤ v ∧ v ≤ 99 then gw_up g 121 j v else g
def gd_joins (g : gw_Mem) (k p e : Int) : gw_Mem := gw_up (gw_up (gw_up (gw_up g 123 (g 117 6) k) 124 (g 117 6) p) 125 (g 117 6) e) 117 6 (g 117 6 + 1)
def ga_person (g : gw_Mem) (k p : Int) : Int := if (0 ≤ k ∧ k ≤ 3) ∧ 1 ≤ p ∧ p ≤ 4 then (if k = 3 ∧ 0 ≤ gd_tl g (g 117 6).toNat then -2 else if g 117 6 = 10 then -3 else g 117 6) else -1
def gu_person (g : gw_Mem) (k p e : Int) : gw_Mem := if (0 ≤ k ∧ k ≤ 3) ∧ 1 ≤ p ∧ p ≤ 4 then (if k = 3 ∧ 0 ≤ gd_tl g (g 117 6).toNat then g else if g 117 6 = 10 then g else gd_joins g k p e) else g
def ga_of (g : gw_Mem) (p w : Int) : Int := if (0 ≤ p ∧ p ≤ g 117 6 - 1) ∧ 0 ≤ w ∧ w ≤ 2 then (if w = 0 then g 123 p else if w = 1 then g 124 p else g 125 p) else -1
def gd_rlo (w : Int) : Int := if w = 0 then 1 else if w = 4 then 1 else 0
def gd_rhi (w : Int) : Int := if w = 0 then 4 else if w = 1 then 10 else if w = 2 then 9 else if w = 3 then 30 else 20
def ga_rule (g : gw_Mem) (w v : Int) : Int := if (0 ≤ w ∧ w ≤ 4) ∧ gd_rlo w ≤ v ∧ v ≤ gd_rhi w then g 122 w else -1
def gu_rule (g : gw_Mem) (w v : Int) : gw_Mem := if (0 ≤ w ∧ w ≤ 4) ∧ gd_rlo w ≤ v ∧ v ≤ gd_rhi w then gw_up g 122 w v else g
/-- how many of the first n stops are met -/
def gd_met (g : gw_Mem) (n : Nat) : Int := gw_sum (fun j => if g 117 0 ≤ g 119 j then 0 else 1) n
theorem gd_met_rng (g : gw_Mem) (n : Nat) : 0 ≤ gd_met g n ∧ gd_met g n ≤ n := by
  unfold gd_met
  induction n with
  | zero => simp [gw_sum]
  | succ n ih => rw [gw_sum]; split <;> omega
def gd_stops (g : gw_Mem) : Int := gd_met g (g 118 0).toNat
def ga_count (g : gw_Mem) (w : Int) : Int := if 0 ≤ w ∧ w ≤ 3 then g 118 w else if w = 4 then g 117 6 else if w = 5 then gd_stops g else -1
