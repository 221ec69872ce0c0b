/-! what is chosen -/
theorem gd_shl0 : ∀ n : Fin 9, 1 ≤ gw_shl 1 (n.val : Int) ∧ gw_shl 1 (n.val : Int) ≤ 256 := by decide +kernel
theorem gd_shl {n : Int} (h : 0 ≤ n ∧ n ≤ 8) : 1 ≤ gw_shl 1 n ∧ gw_shl 1 n ≤ 256 := by
  have z := gd_shl0 ⟨n.toNat, by omega⟩
  rw [show (((⟨n.toNat, by omega⟩ : Fin 9).val : Nat) : Int) = n from by show ((n.toNat : Nat) : Int) = n; omega] at z
  exact z
/-- what a set takes, and what it is worth, of the first n stops -/
def gd_ct (g : gw_Mem) (s : Int) : Nat → Int := gw_sum (fun k => if gw_and (gw_shr s k) 1 = 1 then (if g 119 k < g 117 0 then g 120 k else 1000) else 0)
def gd_cw (g : gw_Mem) (s : Int) : Nat → Int := gw_sum (fun k => if gw_and (gw_shr s k) 1 = 1 then g 121 k else 0)
theorem gd_ct_s (g : gw_Mem) (s : Int) (n : Nat) : gd_ct g s (n + 1) = gd_ct g s n + (if gw_and (gw_shr s n) 1 = 1 then (if g 119 n < g 117 0 then g 120 n else 1000) else 0) := rfl
theorem gd_cw_s (g : gw_Mem) (s : Int) (n : Nat) : gd_cw g s (n + 1) = gd_cw g s n + (if gw_and (gw_shr s n) 1 = 1 then g 121 n else 0) := rfl
theorem gd_ct_rng {g : gw_Mem} (hJ : gd_JP g) (s : Int) (n : Nat) (hn : (n : Int) ≤ g 118 0) : (0 ≤ gd_ct g s n ∧ gd_ct g s n ≤ 1000 * n) ∧ 0 ≤ gd_cw g s n ∧ gd_cw g s n ≤ 99 * n := by
  induction n with
  | zero => exact ⟨⟨Int.le_refl _, Int.le_refl _⟩, Int.le_refl _, Int.le_refl _⟩
  | succ n ih =>
    have q := ih (by omega)
    have l := (hJ.2.2.1 0 n (by omega) (by omega)).2
    rw [show 8 * (0 : Int) + n = n by omega] at l
    have e : gd_lo 0 = 1 := rfl
    have e2 : gd_hi 0 = 20 := rfl
    have v := hJ.2.2.2.1 n (by omega)
    rw [gd_ct_s, gd_cw_s]
    repeat' split
    all_goals omega
theorem gd_ct_mono {g : gw_Mem} (hJ : gd_JP g) (s : Int) (i j : Nat) (hn : ((i + j : Nat) : Int) ≤ g 118 0) : gd_ct g s i ≤ gd_ct g s (i + j) := by
  induction j with
  | zero => exact Int.le_refl _
  | succ j ih =>
    have q := ih (by omega)
    have l := (hJ.2.2.1 0 ((i + j : Nat) : Int) (by omega) (by omega)).2.1
    rw [show 8 * (0 : Int) + ((i + j : Nat) : Int) = ((i + j : Nat) : Int) by omega] at l
    have e : gd_lo 0 = 1 := rfl
    rw [show i + (j + 1) = (i + j) + 1 by omega, gd_ct_s]
    repeat' split
    all_goals omega
def gd_way (g : gw_Mem) : Int := (g 117 0 + g 122 0 - 1).tdiv (g 122 0)
def gd_cs (g : gw_Mem) (t : Int) : Nat → Int × Int
  | 0 => (-4, -1)
  | s + 1 => if t < gd_way g + gd_ct g s (g 118 0).toNat then gd_cs g t s else if gd_cw g s (g 118 0).toNat ≤ (gd_cs g t s).2 then gd_cs g t s else ((s : Int), gd_cw g s (g 118 0).toNat)
def ga_chosen (g : gw_Mem) (t w : Int) : Int := if (0 ≤ t ∧ t ≤ 999) ∧ 0 ≤ w ∧ w ≤ 1 then (if (gd_cs g t (gw_shl 1 (g 118 0)).toNat).1 < 0 then (gd_cs g t (gw_shl 1 (g 118 0)).toNat).1 else if w = 0 then (gd_cs g t (gw_shl 1 (g 118 0)).toNat).1 else (gd_cs g t (gw_shl 1 (g 118 0)).toNat).2) else -1
theorem gd_way_rng {g : gw_Mem} (hJ : gd_JP g) : 0 ≤ gd_way g ∧ gd_way g ≤ 110 := by
  have hr := hJ.2.2.2.2.2.2.2.1.1
  have he := hJ.1
  unfold gd_way
  rw [Int.tdiv_eq_ediv_of_nonneg (by omega)]
  have hc : g 122 0 = 1 ∨ g 122 0 = 2 ∨ g 122 0 = 3 ∨ g 122 0 = 4 := by omega
  rcases hc with e | e | e | e <;> rw [e] <;> omega
