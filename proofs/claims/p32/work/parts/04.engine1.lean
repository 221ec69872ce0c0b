/-! numbers: the machine's ints and longs as mathematical integers -/
abbrev gw_Mem : Type := Nat → Int → Int
abbrev gw_SV : Type := Int ⊕ Int ⊕ Nat
abbrev gI (x : Int) : gw_SV := Sum.inl x
abbrev gL (x : Int) : gw_SV := Sum.inr (Sum.inl x)
abbrev gR (o : Nat) : gw_SV := Sum.inr (Sum.inr o)
abbrev gw_Shp : Type := Nat × Nat × List (Option Nat)
abbrev gw_Cx : Type := va_G × (Nat → ClassId) × (Nat → Nat) × Nat × (Nat → Int)
def gw_inR (x : Int) : Prop := -2147483648 ≤ x ∧ x < 2147483648
def gw_inL (x : Int) : Prop := -9223372036854775808 ≤ x ∧ x < 9223372036854775808
def gw_w (x : Int) : Int := (x + 2147483648) % 4294967296 - 2147483648
def gw_wl (x : Int) : Int := (x + 9223372036854775808) % 18446744073709551616 - 9223372036854775808
def gw_b (x : Int) : Prop := x = 0 ∨ x = 1
def gw_in (i n : Int) : Prop := 0 ≤ i ∧ i < n
def gw_up (m : gw_Mem) (o : Nat) (j v : Int) : gw_Mem := fun o' j' => if o' = o ∧ j' = j then v else m o' j'
/-- n cells from (o, a) on, taken as they are ahead, into (o', b) -/
def gw_cp (m : gw_Mem) (o : Nat) (a : Int) (o' : Nat) (b n : Int) : gw_Mem := fun q j => if q = o' ∧ b ≤ j ∧ j < b + n then m o (a + (j - b)) else m q j
def gw_cv (ad : Nat → Nat) : gw_SV → Value
  | .inl x => .int (Int32.ofInt x)
  | .inr (.inl x) => .long (Int64.ofInt x)
  | .inr (.inr o) => .ref (ad o)
def gw_okV : gw_SV → Prop
  | .inl x => gw_inR x
  | .inr (.inl x) => gw_inL x
  | .inr (.inr _) => True
theorem gw_w_id {x : Int} (h : -2147483648 ≤ x ∧ x < 2147483648) : gw_w x = x := by unfold gw_w; omega
theorem gw_w_in (x : Int) : gw_inR (gw_w x) := by unfold gw_w gw_inR; omega
theorem gw_wl_in (x : Int) : gw_inL (gw_wl x) := by unfold gw_wl gw_inL; omega
theorem gw_w_bmod (x : Int) : gw_w x = Int.bmod x (2 ^ 32) := by
  unfold gw_w
  rw [Int.bmod_def]
  simp only [show ((2 ^ 32 : Nat) : Int) = 4294967296 from rfl]
  split <;> omega
theorem gw_wl_bmod (x : Int) : gw_wl x = Int.bmod x (2 ^ 64) := by
  unfold gw_wl
  rw [Int.bmod_def]
  simp only [show ((2 ^ 64 : Nat) : Int) = 18446744073709551616 from rfl]
  split <;> omega
theorem gw_toInt (x : Int) : (Int32.ofInt x).toInt = gw_w x := by rw [Int32.toInt_ofInt, gw_w_bmod]
theorem gw_toIntL (x : Int) : (Int64.ofInt x).toInt = gw_wl x := by rw [Int64.toInt_ofInt, gw_wl_bmod]
theorem gw_toInt_id {x : Int} (h : gw_inR x) : (Int32.ofInt x).toInt = x := by rw [gw_toInt, gw_w_id h]
theorem gw_wl_id {x : Int} (h : gw_inL x) : gw_wl x = x := by unfold gw_wl; unfold gw_inL at h; omega
theorem gw_toIntL_id {x : Int} (h : gw_inL x) : (Int64.ofInt x).toInt = x := by rw [gw_toIntL, gw_wl_id h]
theorem gw_ofw (x : Int) : Int32.ofInt (gw_w x) = Int32.ofInt x := by
  apply Int32.toInt_inj.mp
  rw [gw_toInt, gw_toInt, gw_w_id (gw_w_in x)]
theorem gw_ofwl (x : Int) : Int64.ofInt (gw_wl x) = Int64.ofInt x := by
  apply Int64.toInt_inj.mp
  rw [gw_toIntL, gw_toIntL, gw_wl_id (gw_wl_in x)]
theorem gw_eqv {v : Int32} {x : Int} (h : v.toInt = x) : v = Int32.ofInt x := by
  rw [← h, Int32.ofInt_toInt]
theorem gw_eqvL {v : Int64} {x : Int} (h : v.toInt = x) : v = Int64.ofInt x := by
  rw [← h, Int64.ofInt_toInt]
theorem gw_rng (v : Int32) : gw_inR v.toInt := ⟨Int32.le_toInt v, Int32.toInt_lt v⟩
theorem gw_rngL (v : Int64) : gw_inL v.toInt := ⟨Int64.le_toInt v, Int64.toInt_lt v⟩
theorem gw_add (x y : Int) : Int32.ofInt x + Int32.ofInt y = Int32.ofInt (gw_w (x + y)) := by rw [gw_ofw, Int32.ofInt_add]
theorem gw_sub (x y : Int) : Int32.ofInt x - Int32.ofInt y = Int32.ofInt (gw_w (x - y)) := by rw [gw_ofw, Int32.ofInt_sub]
theorem gw_mul (x y : Int) : Int32.ofInt x * Int32.ofInt y = Int32.ofInt (gw_w (x * y)) := by rw [gw_ofw, Int32.ofInt_mul]
theorem gw_neg (x : Int) : -Int32.ofInt x = Int32.ofInt (gw_w (-x)) := by rw [gw_ofw, Int32.ofInt_neg]
theorem gw_addL (x y : Int) : Int64.ofInt x + Int64.ofInt y = Int64.ofInt (gw_wl (x + y)) := by rw [gw_ofwl, Int64.ofInt_add]
theorem gw_div {x y : Int} (hx : gw_inR x) (hy : gw_inR y) : Int32.ofInt x / Int32.ofInt y = Int32.ofInt (gw_w (x.tdiv y)) := by
  apply gw_eqv
  rw [Int32.toInt_div, gw_toInt_id hx, gw_toInt_id hy, gw_w_bmod]
theorem gw_rem {x y : Int} (hx : gw_inR x) (hy : gw_inR y) : Int32.ofInt x - Int32.ofInt x / Int32.ofInt y * Int32.ofInt y = Int32.ofInt (x.tmod y) := by
  apply gw_eqv
  rw [rem_toInt, gw_toInt_id hx, gw_toInt_id hy]
theorem gw_tmod_in {x y : Int} (hx : gw_inR x) : gw_inR (x.tmod y) := by
  have h1 : (x.tmod y).natAbs ≤ x.natAbs := by
    rw [Int.natAbs_tmod]
    exact Nat.mod_le _ _
  have h2 : 0 ≤ x → 0 ≤ x.tmod y := fun h => Int.tmod_nonneg y h
  have h3 : x < 0 → x.tmod y ≤ 0 := fun h => by
    have h4 := Int.tmod_nonneg y (show 0 ≤ -x by omega)
    rw [Int.neg_tmod] at h4
    omega
  unfold gw_inR at *
  omega
theorem gw_lt {x y : Int} (hx : gw_inR x) (hy : gw_inR y) : (Int32.ofInt x < Int32.ofInt y) ↔ x < y := by rw [Int32.lt_iff_toInt_lt, gw_toInt_id hx, gw_toInt_id hy]
theorem gw_le {x y : Int} (hx : gw_inR x) (hy : gw_inR y) : (Int32.ofInt x ≤ Int32.ofInt y) ↔ x ≤ y := by rw [Int32.le_iff_toInt_le, gw_toInt_id hx, gw_toInt_id hy]
theorem gw_eq {x y : Int} (hx : gw_inR x) (hy : gw_inR y) : (Int32.ofInt x = Int32.ofInt y) ↔ x = y := by rw [← Int32.toInt_inj, gw_toInt_id hx, gw_toInt_id hy]
theorem gw_zero : (0 : Int32) = Int32.ofInt 0 := by decide
theorem gw_in0 : gw_inR 0 := by unfold gw_inR; omega
theorem gw_eq0 {x : Int} (hx : gw_inR x) : (Int32.ofInt x = 0) ↔ x = 0 := by rw [gw_zero]; exact gw_eq hx gw_in0
theorem gw_lt0 {x : Int} (hx : gw_inR x) : (Int32.ofInt x < 0) ↔ x < 0 := by rw [gw_zero]; exact gw_lt hx gw_in0
theorem gw_0le {x : Int} (hx : gw_inR x) : (0 ≤ Int32.ofInt x) ↔ 0 ≤ x := by rw [gw_zero]; exact gw_le gw_in0 hx
theorem gw_0lt {x : Int} (hx : gw_inR x) : (0 < Int32.ofInt x) ↔ 0 < x := by rw [gw_zero]; exact gw_lt gw_in0 hx
theorem gw_le0 {x : Int} (hx : gw_inR x) : (Int32.ofInt x ≤ 0) ↔ x ≤ 0 := by rw [gw_zero]; exact gw_le hx gw_in0
def gw_shl (x y : Int) : Int := (Int32.ofInt x <<< (Int32.ofInt y &&& 31)).toInt
def gw_shr (x y : Int) : Int := (Int32.ofInt x >>> (Int32.ofInt y &&& 31)).toInt
def gw_and (x y : Int) : Int := (Int32.ofInt x &&& Int32.ofInt y).toInt
def gw_or (x y : Int) : Int := (Int32.ofInt x ||| Int32.ofInt y).toInt
def gw_i2b (x : Int) : Int := (Int32.ofInt x).toInt8.toInt32.toInt
def gw_i2s (x : Int) : Int := (Int32.ofInt x).toInt16.toInt32.toInt
def gw_andL (x y : Int) : Int := (Int64.ofInt x &&& Int64.ofInt y).toInt
def gw_orL (x y : Int) : Int := (Int64.ofInt x ||| Int64.ofInt y).toInt
def gw_shlL (x y : Int) : Int := (Int64.ofInt x <<< ((Int32.ofInt y).toInt64 &&& 63)).toInt
def gw_shrL (x y : Int) : Int := (Int64.ofInt x >>> ((Int32.ofInt y).toInt64 &&& 63)).toInt
def gw_ushrL (x y : Int) : Int := ((Int64.ofInt x).toUInt64 >>> ((Int32.ofInt y).toInt64.toUInt64 &&& Int64.toUInt64 63)).toInt64.toInt
def gw_cmp (x y : Int) : Int := if y < x then 1 else if x = y then 0 else -1
theorem gw_cmp_in (x y : Int) : gw_inR (gw_cmp x y) := by
  unfold gw_cmp gw_inR
  split
  · omega
  · split <;> omega
theorem gw_lcmp {x y : Int} (hx : gw_inL x) (hy : gw_inL y) : lg_cmp (Int64.ofInt x) (Int64.ofInt y) = Int32.ofInt (gw_cmp x y) := by
  unfold lg_cmp gw_cmp
  simp only [gt_iff_lt, Int64.lt_iff_toInt_lt, ← Int64.toInt_inj, gw_toIntL_id hx, gw_toIntL_id hy]
  split
  · decide
  · split <;> decide
theorem gw_i2l {x : Int} (hx : gw_inR x) : (Int32.ofInt x).toInt64 = Int64.ofInt x := by
  apply Int64.toInt_inj.mp
  rw [Int32.toInt_toInt64, gw_toInt_id hx, gw_toIntL_id]
  unfold gw_inR at hx
  unfold gw_inL
  omega
theorem gw_l2i (x : Int) : (Int64.ofInt x).toInt32 = Int32.ofInt (gw_w x) := by
  rw [gw_ofw]
  apply Int32.toInt_inj.mp
  rw [Int64.toInt_toInt32, gw_toIntL, gw_toInt, gw_w_bmod, gw_wl_bmod]
  exact Int.bmod_bmod_of_dvd (by decide)
theorem gw_clamp {i : Int} (h0 : 0 ≤ i) (h : gw_inR i) : (Int32.ofInt i).toNatClampNeg = i.toNat := by
  show (Int32.ofInt i).toInt.toNat = i.toNat
  rw [gw_toInt_id h]
theorem gw_vpin {i : Int} {n : Nat} (h : gw_in i n) (hr : gw_inR i) : vp_in (Int32.ofInt i) n := by
  rw [vp_in_iff, gw_toInt_id hr]
  exact h
theorem gw_bool {v : Int} (h : gw_b v) : narrow .boolean (.int (Int32.ofInt v)) = .int (Int32.ofInt v) ∧ fits .boolean (.int (Int32.ofInt v)) = true := by
  rcases h with rfl | rfl <;> decide
theorem gw_b_in {v : Int} (h : gw_b v) : gw_inR v := by
  unfold gw_b at h
  unfold gw_inR
  omega
def gw_SH : List gw_Shp := [
  (0, 11, [some 4, some 25, none, some 46, some 48, some 61, some 65, some 83, none, some 1, none, some 2, none, some 101, some 104, some 3]),
  (1, 3600, []),
  (1, 4, []),
  (5, 4, [some 109, some 111, some 113, some 115]),
  (0, 6, [none, some 5, some 18, some 22, some 23]),
  (0, 3, [some 6, some 7, some 8, some 9]),
  (1, 4, []),
  (4, 4, [some 10, some 11, some 12, some 13]),
  (4, 4, [some 14, some 15, some 16, some 17]),
  (1, 8, []),
  (1, 8, []),
  (1, 8, []),
  (1, 8, []),
  (1, 8, []),
  (1, 8, []),
  (1, 8, []),
  (1, 8, []),
  (1, 8, []),
  (0, 5, [none, some 19, some 20, some 21]),
  (1, 10, []),
  (1, 10, []),
  (3, 10, []),
  (1, 5, []),
  (0, 8, [some 24, none, none, none, none, none, none, none]),
  (1, 144, []),
  (0, 6, [none, some 26, some 39, some 43, some 44]),
  (0, 3, [some 27, some 28, some 29, some 30]),
  (1, 4, []),
  (4, 4, [some 31, some 32, some 33, some 34]),
  (4, 4, [some 35, some 36, some 37, some 38]),
  (1, 8, []),
  (1, 8, []),
  (1, 8, []),
  (1, 8, []),
  (1, 8, []),
  (1, 8, []),
  (1, 8, []),
  (1, 8, []),
  (1, 8, []),
  (0, 5, [none, some 40, some 41, some 42]),
  (1, 10, []),
  (1, 10, []),
  (3, 10, []),
  (1, 5, []),
  (0, 8, [some 45, none, none, none, none, none, none, none]),
  (1, 144, []),
  (0, 9, [some 47, none, none, none]),
  (2, 80, []),
  (0, 3, [some 49, some 50, some 51, some 52]),
  (1, 4, []),
  (4, 4, [some 53, some 54, some 55, some 56]),
  (4, 4, [some 57, some 58, some 59, some 60]),
  (1, 8, []),
  (1, 8, []),
  (1, 8, []),
  (1, 8, []),
  (1, 8, []),
  (1, 8, []),
  (1, 8, []),
  (1, 8, []),
  (1, 8, []),
  (0, 5, [none, some 62, some 63, some 64]),
  (1, 10, []),
  (1, 10, []),
  (3, 10, []),
  (0, 10, [some 66, some 71, some 75, some 76, none, none, none, none, none, none, some 77, some 78, some 79, some 80, some 81, some 82]),
  (0, 4, [none, some 67, some 68, some 69, some 70]),
  (1, 100, []),
  (1, 100, []),
  (1, 100, []),
  (1, 100, []),
  (0, 5, [none, some 72, some 73, some 74]),
  (1, 10, []),
  (1, 10, []),
  (3, 10, []),
  (1, 5, []),
  (0, 2, [none, none, none, none, none, none]),
  (1, 10, []),
  (1, 10, []),
  (1, 10, []),
  (1, 10, []),
  (1, 10, []),
  (1, 10, []),
  (0, 10, [some 84, some 89, some 93, some 94, none, none, none, none, none, none, some 95, some 96, some 97, some 98, some 99, some 100]),
  (0, 4, [none, some 85, some 86, some 87, some 88]),
  (1, 100, []),
  (1, 100, []),
  (1, 100, []),
  (1, 100, []),
  (0, 5, [none, some 90, some 91, some 92]),
  (1, 10, []),
  (1, 10, []),
  (3, 10, []),
  (1, 5, []),
  (0, 2, [none, none, none, none, none, none]),
  (1, 10, []),
  (1, 10, []),
  (1, 10, []),
  (1, 10, []),
  (1, 10, []),
  (1, 10, []),
  (0, 1, [none, some 102, some 103]),
  (1, 8, []),
  (1, 8, []),
  (0, 0, [none, some 105, some 106, some 107, some 108, none]),
  (1, 6, []),
  (1, 6, []),
  (1, 6, []),
  (1, 6, []),
  (0, 7, [none, none, some 110]),
  (1, 24, []),
  (0, 7, [none, none, some 112]),
  (1, 24, []),
  (0, 7, [none, none, some 114]),
  (1, 24, []),
  (0, 7, [none, none, some 116]),
  (1, 24, [])]

def gw_slot (ad : Nat → Nat) (f : Int → Int) (j : Nat) (r : Option Nat) : Value := match r with
  | none => .int (Int32.ofInt (f j))
  | some q => .ref (ad q)
def gw_slots (ad : Nat → Nat) (f : Int → Int) (sl : List (Option Nat)) : List Value := sl.mapIdx (gw_slot ad f)
def gw_cell (cx : gw_Cx) (m : gw_Mem) (o : Nat) (s : gw_Shp) : va_E := match s with
  | (0, ci, sl) => .inr (ci, gw_slots cx.2.2.1 (m o) sl)
  | (1, n, _) => .inl (cx.2.1 1, n, .inl (fun j => Int32.ofInt (m o (j : Nat))))
  | (2, n, _) => .inl (cx.2.1 2, n, .inl (fun j => Int32.ofInt (m o (j : Nat))))
  | (3, n, _) => .inl (cx.2.1 3, n, .inl (fun j => Int32.ofInt (m o (j : Nat))))
  | (k + 4, n, rs) => .inl (cx.2.1 (k + 4), n, .inr (.inr (.inr (.inr (fun j => (rs.getD j none).map cx.2.2.1)))))
def gw_W0 (cx : gw_Cx) (m : gw_Mem) : va_W := gw_SH.mapIdx (fun o s => (cx.2.2.1 o, gw_cell cx m o s))
/-- the law's own row of eight, once it is made -/
def gw_ex (cx : gw_Cx) : Nat := if cx.2.2.2.2 0 = 0 then 0 else 1
def gw_xt (cx : gw_Cx) (m : gw_Mem) : va_W := if cx.2.2.2.2 0 = 0 then [] else [(cx.2.2.1 117, .inl (cx.2.1 1, 8, .inl (fun j => Int32.ofInt (m 117 (j : Nat)))))]
def gw_Wd (cx : gw_Cx) (m : gw_Mem) : va_W := gw_W0 cx m ++ gw_xt cx m
def gw_A (cx : gw_Cx) : Nat → Prop := fun q => cx.2.2.2.1 ≤ q
def gw_ty (cx : gw_Cx) : List (ClassId × FieldType) := [(cx.2.1 1, .int), (cx.2.1 2, .byte), (cx.2.1 3, .boolean), (cx.2.1 4, .array .int), (cx.2.1 5, .object "FlagWalk$Sheet")]
def gw_ap (cx : gw_Cx) : Prop := (∀ i j : Nat, i < 117 + gw_ex cx → j < 117 + gw_ex cx → cx.2.2.1 i = cx.2.2.1 j → i = j) ∧ ∀ i : Nat, i < 117 + gw_ex cx → cx.2.2.2.1 ≤ cx.2.2.1 i
def gw_okM (m : gw_Mem) : Prop := (∀ (o : Nat) (j : Int), gw_inR (m o j)) ∧ ∀ (o n : Nat) (rs : List (Option Nat)), gw_SH[o]? = some (3, n, rs) → ∀ j : Int, gw_b (m o j)
theorem gw_SHlen : gw_SH.length = 117 := by decide +kernel
theorem gw_W0_len (cx : gw_Cx) (m : gw_Mem) : (gw_W0 cx m).length = 117 := by
  unfold gw_W0
  rw [List.length_mapIdx, gw_SHlen]
theorem gw_SH_lt {o : Nat} {s : gw_Shp} (h : gw_SH[o]? = some s) : o < 117 := by
  rw [← gw_SHlen]
  exact (List.getElem?_eq_some_iff.mp h).1
theorem gw_W0_get {cx : gw_Cx} {m : gw_Mem} {o : Nat} {s : gw_Shp} (h : gw_SH[o]? = some s) : (gw_W0 cx m)[o]? = some (cx.2.2.1 o, gw_cell cx m o s) := by
  unfold gw_W0
  rw [List.getElem?_mapIdx, h]
  rfl
theorem gw_Wd_get {cx : gw_Cx} {m : gw_Mem} {o : Nat} {s : gw_Shp} (h : gw_SH[o]? = some s) : (gw_Wd cx m)[o]? = some (cx.2.2.1 o, gw_cell cx m o s) := by
  unfold gw_Wd
  rw [List.getElem?_append_left (by rw [gw_W0_len]; exact gw_SH_lt h)]
  exact gw_W0_get h
theorem gw_W0_of {cx : gw_Cx} {m : gw_Mem} {o : Nat} {q : Nat × va_E} (h : (gw_W0 cx m)[o]? = some q) : o < 117 ∧ ∃ s, gw_SH[o]? = some s ∧ q = (cx.2.2.1 o, gw_cell cx m o s) := by
  have h1 : o < 117 := by
    have := (List.getElem?_eq_some_iff.mp h).1
    rwa [gw_W0_len] at this
  refine ⟨h1, ?_⟩
  have h2 : o < gw_SH.length := by rw [gw_SHlen]; exact h1
  refine ⟨gw_SH[o], List.getElem?_eq_getElem h2, ?_⟩
  have h3 := gw_W0_get (cx := cx) (m := m) (List.getElem?_eq_getElem h2)
  rw [h] at h3
  exact Option.some.inj h3
theorem gw_Wd_of {cx : gw_Cx} {m : gw_Mem} {o : Nat} {q : Nat × va_E} (h : (gw_Wd cx m)[o]? = some q) : o < 117 + gw_ex cx ∧ q.1 = cx.2.2.1 o := by
  unfold gw_Wd at h
  by_cases ho : o < 117
  · rw [List.getElem?_append_left (by rw [gw_W0_len]; exact ho)] at h
    obtain ⟨_, s, _, rfl⟩ := gw_W0_of h
    exact ⟨by omega, rfl⟩
  · rw [List.getElem?_append_right (by rw [gw_W0_len]; omega), gw_W0_len] at h
    unfold gw_xt at h
    unfold gw_ex
    by_cases e : cx.2.2.2.2 0 = 0
    · rw [if_pos e] at h
      cases h
    · rw [if_neg e] at h ⊢
      have h0 : o - 117 < 1 := (List.getElem?_eq_some_iff.mp h).1
      have h1 : o = 117 := by omega
      subst h1
      cases h
      exact ⟨by omega, rfl⟩
theorem gw_Wd_D {cx : gw_Cx} (h : gw_ap cx) (m : gw_Mem) : va_D (gw_A cx) (gw_Wd cx m) := by
  refine ⟨fun i j p q hp hq e => ?_, fun k q hq => ?_⟩
  · obtain ⟨h1, e1⟩ := gw_Wd_of hp
    obtain ⟨h2, e2⟩ := gw_Wd_of hq
    exact h.1 i j h1 h2 (by rw [← e1, ← e2]; exact e)
  · obtain ⟨h1, e1⟩ := gw_Wd_of hq
    have h2 := h.2 k h1
    rw [← e1] at h2
    exact h2
theorem gw_W0_set {cx : gw_Cx} {m m' : gw_Mem} {o : Nat} {s : gw_Shp} {e : va_E} (h : gw_SH[o]? = some s) (he : e = gw_cell cx m' o s) (hk : ∀ q : Nat, q ≠ o → m' q = m q) : (gw_W0 cx m).set o (cx.2.2.1 o, e) = gw_W0 cx m' := by
  subst he
  apply List.ext_getElem?
  intro i
  rw [List.getElem?_set]
  by_cases hi : o = i
  · subst hi
    have hl : o < (gw_W0 cx m).length := by
      rw [gw_W0_len]
      exact gw_SH_lt h
    rw [if_pos rfl, if_pos hl, gw_W0_get h]
  · rw [if_neg hi]
    unfold gw_W0
    rw [List.getElem?_mapIdx, List.getElem?_mapIdx]
    cases gw_SH[i]? with
    | none => rfl
    | some x =>
      have e1 : gw_cell cx m i x = gw_cell cx m' i x := by
        unfold gw_cell
        rw [hk i (fun z => hi z.symm)]
      show some (_, _) = some (_, _)
      rw [e1]
theorem gw_Wd_set {cx : gw_Cx} {m m' : gw_Mem} {o : Nat} {s : gw_Shp} {e : va_E} (h : gw_SH[o]? = some s) (he : e = gw_cell cx m' o s) (hk : ∀ q : Nat, q ≠ o → m' q = m q) : (gw_Wd cx m).set o (cx.2.2.1 o, e) = gw_Wd cx m' := by
  have hl := gw_SH_lt h
  have hx : gw_xt cx m = gw_xt cx m' := by
    unfold gw_xt
    rw [hk 117 (by omega)]
  unfold gw_Wd
  rw [List.set_append_left _ _ (by rw [gw_W0_len]; exact hl), gw_W0_set h he hk, hx]
theorem gw_Wd_getW {cx : gw_Cx} {m : gw_Mem} (h : cx.2.2.2.2 0 ≠ 0) : (gw_Wd cx m)[117]? = some (cx.2.2.1 117, .inl (cx.2.1 1, 8, .inl (fun j => Int32.ofInt (m 117 (j : Nat))))) := by
  unfold gw_Wd
  rw [List.getElem?_append_right (by rw [gw_W0_len]; exact Nat.le_refl _), gw_W0_len]
  unfold gw_xt
  rw [if_neg h]
  rfl
theorem gw_Wd_setW {cx : gw_Cx} {m m' : gw_Mem} {e : va_E} (h : cx.2.2.2.2 0 ≠ 0) (he : e = .inl (cx.2.1 1, 8, .inl (fun j => Int32.ofInt (m' 117 (j : Nat))))) (hk : ∀ q : Nat, q ≠ 117 → m' q = m q) : (gw_Wd cx m).set 117 (cx.2.2.1 117, e) = gw_Wd cx m' := by
  subst he
  have h0 : gw_W0 cx m = gw_W0 cx m' := by
    apply List.ext_getElem?
    intro i
    unfold gw_W0
    rw [List.getElem?_mapIdx, List.getElem?_mapIdx]
    cases hx : gw_SH[i]? with
    | none => rfl
    | some x =>
      have hl := gw_SH_lt hx
      have e1 : gw_cell cx m i x = gw_cell cx m' i x := by
        unfold gw_cell
        rw [hk i (by omega)]
      show some (_, _) = some (_, _)
      rw [e1]
  unfold gw_Wd
  have hx : (gw_xt cx m).set (117 - 117) (cx.2.2.1 117, .inl (cx.2.1 1, 8, .inl (fun j => Int32.ofInt (m' 117 (j : Nat))))) = gw_xt cx m' := by
    unfold gw_xt
    rw [if_neg h, if_neg h]
    rfl
  rw [List.set_append_right _ _ (by rw [gw_W0_len]; exact Nat.le_refl _), gw_W0_len, h0, hx]
theorem gw_up_ne {m : gw_Mem} {o q : Nat} {j v : Int} (h : q ≠ o) : gw_up m o j v q = m q := by
  funext j'
  unfold gw_up
  rw [if_neg (fun z => h z.1)]
theorem gw_up_at {m : gw_Mem} {o : Nat} {j j' v : Int} : gw_up m o j v o j' = if j' = j then v else m o j' := by
  unfold gw_up
  by_cases h : j' = j
  · rw [if_pos ⟨rfl, h⟩, if_pos h]
  · rw [if_neg (fun z => h z.2), if_neg h]
theorem gw_okM_up {m : gw_Mem} {o : Nat} {j v : Int} (h : gw_okM m) (hv : gw_inR v) (hb : ∀ n rs, gw_SH[o]? = some (3, n, rs) → gw_b v) : gw_okM (gw_up m o j v) := by
  refine ⟨fun q i => ?_, fun q n rs hq i => ?_⟩
  · unfold gw_up
    split
    · exact hv
    · exact h.1 q i
  · unfold gw_up
    split
    · rename_i hc
      rw [hc.1] at hq
      exact hb n rs hq
    · exact h.2 q n rs hq i
/-! the locals -/
def gw_ls (ad : Nat → Nat) (nL : Nat) (lsA : Array Slot) (ls : List (Option gw_SV)) : Prop := lsA.size = nL ∧ lv_wf lsA ∧ ls.length = nL ∧ ∀ (i : Nat) (v : gw_SV), ls[i]? = some (some v) → lsA[i]? = some (.val (gw_cv ad v))
def gw_nl (ls : List (Option gw_SV)) (i : Nat) : Bool := match i with
  | 0 => true
  | k + 1 => match ls[k]? with
    | some (some (.inr (.inl _))) => false
    | _ => true
theorem gw_cat (ad : Nat → Nat) (v : gw_SV) : (gw_cv ad v).category = 2 ↔ ∃ x, v = gL x := by
  rcases v with x | x | o
  · simp [gw_cv, Value.category]
  · simp [gw_cv, Value.category]
  · simp [gw_cv, Value.category]
theorem gw_ls_lv {ad : Nat → Nat} {nL : Nat} {lsA : Array Slot} {ls : List (Option gw_SV)} (h : gw_ls ad nL lsA ls) : lv_has lsA nL ((List.range nL).filterMap (fun i => match ls[i]? with | some (some v) => some (i, gw_cv ad v) | _ => none)) := by
  refine ⟨h.1, h.2.1, fun q hq => ?_⟩
  obtain ⟨i, -, hi⟩ := List.mem_filterMap.mp hq
  cases hv : ls[i]? with
  | none => rw [hv] at hi; cases hi
  | some o =>
    cases o with
    | none => rw [hv] at hi; cases hi
    | some v =>
      rw [hv] at hi
      cases hi
      exact h.2.2.2 i v hv
theorem gw_ls_store {ad : Nat → Nat} {nL : Nat} {lsA ls' : Array Slot} {ls : List (Option gw_SV)} {i : Nat} {v : gw_SV} (h : gw_ls ad nL lsA ls) (hn : gw_nl ls i = true)
    (h' : lv_has ls' nL ((i, gw_cv ad v) :: ((List.range nL).filterMap (fun i => match ls[i]? with | some (some v) => some (i, gw_cv ad v) | _ => none)).filter (fun q => !(q.1 == i) && !(q.1 + 1 == i && q.2.category == 2)))) : gw_ls ad nL ls' (ls.set i (some v)) := by
  refine ⟨h'.1, h'.2.1, by rw [List.length_set]; exact h.2.2.1, fun j w hj => ?_⟩
  rw [List.getElem?_set] at hj
  by_cases hij : i = j
  · subst hij
    rw [if_pos rfl] at hj
    split at hj
    · cases hj
      exact h'.2.2 _ List.mem_cons_self
    · cases hj
  · rw [if_neg hij] at hj
    have hlt : j < nL := by rw [← h.2.2.1]; exact (List.getElem?_eq_some_iff.mp hj).1
    refine h'.2.2 (j, gw_cv ad w) (List.mem_cons_of_mem _ (List.mem_filter.mpr ⟨List.mem_filterMap.mpr ⟨j, List.mem_range.mpr hlt, by rw [hj]⟩, ?_⟩))
    have e1 : (j == i) = false := by simpa using fun z : j = i => hij z.symm
    have e2 : (j + 1 == i && (gw_cv ad w).category == 2) = false := by
      by_cases hc : (gw_cv ad w).category = 2
      · obtain ⟨x, rfl⟩ := (gw_cat ad w).mp hc
        by_cases hk : j + 1 = i
        · subst hk
          simp [gw_nl, hj] at hn
        · simp [hk]
      · simp [hc]
    simp [e1, e2]
/-! what does not change: the static arrays, the texts -/
def gw_sn (i : Nat) : String := match i with
  | 0 => "SHORTEST"
  | 1 => "LONGEST"
  | 2 => "LEAST_RULES"
  | 3 => "MOST_RULES"
  | _ => "FIRST_RULES"
def gw_sv (i : Nat) : List Int := match i with
  | 0 => [1, 2, 1, 1]
  | 1 => [20, 20, 20, 50]
  | 2 => [1, 0, 0, 0, 1]
  | 3 => [4, 10, 9, 30, 20]
  | _ => [2, 5, 0, 10, 3]
/-- the script -/
def gw_Sc (cx : gw_Cx) (U : State) (H : Heap) : Prop := va_X (cx.2.2.1 900) (cx.2.2.2.2 1).toNat (fun j => Int32.ofInt (cx.2.2.2.2 (2 + j))) U H ∧ ¬ gw_A cx (cx.2.2.1 900) ∧ (0 ≤ cx.2.2.2.2 1 ∧ cx.2.2.2.2 1 ≤ 260) ∧ ∀ j : Nat, gw_inR (cx.2.2.2.2 (2 + j))
def gw_Stat (cx : gw_Cx) (U : State) (H : Heap) : Prop :=
  (∀ i : Nat, i < 5 → va_Z "FlagWalk" (gw_sn i) "[I" (.ref (cx.2.2.1 (1000 + i))) (gw_A cx) U H ∧ va_T .int (cx.2.2.1 (1000 + i)) (gw_sv i).length (fun j => .int (Int32.ofInt ((gw_sv i).getD j 0))) (gw_A cx) U H) ∧
  gw_Sc cx U H ∧
  (∀ q ∈ gw_nwM, va_Nw (.methodLinkNest q.1 q.2.1 q.2.2.1 q.2.2.2) U) ∧ (∀ q ∈ gw_nwF, va_Nw (.fieldLinkNest q.1 q.2.1 q.2.2.1 q.2.2.2.1 q.2.2.2.2.1 q.2.2.2.2.2) U)
theorem gw_Sc.kept {cx : gw_Cx} {U : State} {H H1 : Heap} (h : gw_Sc cx U H) (hq : ∀ a : Nat, a < H.size → ¬ gw_A cx a → H1[a]? = H[a]?) : gw_Sc cx U H1 := by
  obtain ⟨h1, h2, h3, h4⟩ := h
  have hl : cx.2.2.1 900 < H.size := by
    obtain ⟨scr, hc, _⟩ := h1
    exact (Array.getElem?_eq_some_iff.mp hc).1
  exact ⟨h1.kept (hq _ hl h2), h2, h3, h4⟩
theorem gw_Sc.moved {cx : gw_Cx} {u U : State} {H : Heap} (hvm : u.vm.Alike U.vm) (h : gw_Sc cx u H) : gw_Sc cx U H := ⟨va_X.moved hvm h.1, h.2⟩
theorem gw_Stat.kept {cx : gw_Cx} {U : State} {H H1 : Heap} (h : gw_Stat cx U H) (hq : ∀ a : Nat, a < H.size → ¬ gw_A cx a → H1[a]? = H[a]?) : gw_Stat cx U H1 :=
  ⟨fun i hi => ⟨(h.1 i hi).1.kept hq, (h.1 i hi).2.kept hq⟩, h.2.1.kept hq, h.2.2⟩
theorem gw_Stat.warm {cx : gw_Cx} {s U : State} {H : Heap} (hW : s.WarmedH U.vm) (h : gw_Stat cx s H) : gw_Stat cx U H :=
  ⟨fun i hi => ⟨va_Z.moved hW.alike (h.1 i hi).1, va_T.moved hW.alike (h.1 i hi).2⟩, gw_Sc.moved hW.alike h.2.1, fun q hq => va_Nw.warmM hW (h.2.2.1 q hq), fun q hq => va_Nw.warmF hW (h.2.2.2 q hq)⟩
theorem gw_Stat.same {cx : gw_Cx} {u U : State} {H : Heap} (hv : U.vm = u.vm) (h : gw_Stat cx u H) : gw_Stat cx U H :=
  have ha : u.vm.Alike U.vm := by rw [hv]; exact Vm.Alike.refl u.vm
  ⟨fun i hi => ⟨va_Z.moved ha (h.1 i hi).1, va_T.moved ha (h.1 i hi).2⟩, gw_Sc.moved ha h.2.1, fun q hq => va_Nw.same rfl hv.symm (h.2.2.1 q hq), fun q hq => va_Nw.same rfl hv.symm (h.2.2.2 q hq)⟩
/-! the judgement -/
abbrev gw_Ga : Type := gw_Cx × Program × Launch × Env × Room × State × MethodId × Array Value × List Frame × Method × Code × (Nat × Nat) × (State → Prop)
def gw_OK (mt : gw_MT) (d : Nat) (QR : Option gw_SV → gw_Mem → Prop) : gw_Ga → Prop
  | (cx, p, l, e, R, s, mm, args, below, meth, c, (c0, s0), Q) =>
    p.tables.exec = Jvm.exec ∧ c.code = gw_mC mt ∧ c.maxLocals = gw_mL mt ∧ s.vm.findClass (gw_mY mt).cls = some mm.cls ∧ (∀ w ∈ gw_tb, w.before args s = true) ∧
    va_K cx.1 vwCl (gw_ty cx) s ∧ gw_ap cx ∧ gw_Stat cx s s.heap ∧ cx.2.2.2.1 ≤ s.heap.size ∧ (d ≤ R.frames ∧ 64 * d ≤ R.locals ∧ c0 ≤ R.cells ∧ s0 ≤ R.slots) ∧
    (∀ (v : Int) (m : gw_Mem) (H : Heap) (locs : List Loc) (lsA : Array Slot) (pc : Nat), QR (some (gI v)) m → gw_inR v → (gw_mR mt = some .int ∨ gw_mR mt = some .boolean ∧ gw_b v) → decode (gw_mC mt) pc = .ok (.ireturn, 1) → va_P cx.1 vwCl (gw_Wd cx m) H → gw_okM m → va_S (gw_A cx) s.heap H locs → W p l e R s mm args below meth c H locs c0 s0 Q (F0 mm pc lsA [.int (Int32.ofInt v)])) ∧
    (∀ (m : gw_Mem) (H : Heap) (locs : List Loc) (lsA : Array Slot) (pc : Nat), QR none m → gw_mR mt = none → decode (gw_mC mt) pc = .ok (.return_, 1) → va_P cx.1 vwCl (gw_Wd cx m) H → gw_okM m → va_S (gw_A cx) s.heap H locs → W p l e R s mm args below meth c H locs c0 s0 Q (F0 mm pc lsA []))
def gw_G (mt : gw_MT) (d : Nat) (QR : Option gw_SV → gw_Mem → Prop) : gw_Ga → Nat → List (Option gw_SV) → List gw_SV → gw_Mem → Prop
  | (cx, p, l, e, R, s, mm, args, below, meth, c, (c0, s0), Q), pc, ls, stk, m =>
    gw_OK mt d QR (cx, p, l, e, R, s, mm, args, below, meth, c, (c0, s0), Q) → (∀ v, some v ∈ ls → gw_okV v) → (∀ v ∈ stk, gw_okV v) → gw_okM m →
    ∀ (H : Heap) (locs : List Loc) (lsA : Array Slot), va_P cx.1 vwCl (gw_Wd cx m) H → va_S (gw_A cx) s.heap H locs → gw_ls cx.2.2.1 (gw_mL mt) lsA ls → W p l e R s mm args below meth c H locs c0 s0 Q (F0 mm pc lsA (stk.map (gw_cv cx.2.2.1)))
theorem gw_ok {mt d QR Γ pc ls stk m} (h : gw_okM m → (∀ v, some v ∈ ls → gw_okV v) → (∀ v ∈ stk, gw_okV v) → gw_G mt d QR Γ pc ls stk m) : gw_G mt d QR Γ pc ls stk m := by
  obtain ⟨cx, p, l, e, R, s, mm, args, below, meth, c, ⟨c0, s0⟩, Q⟩ := Γ
  intro ok o1 o2 o3
  exact h o3 o1 o2 ok o1 o2 o3
/-- a row that touches the stack alone -/
theorem gw_stp {mt : gw_MT} {d QR Γ pc pc' ls} {stk stk' : List gw_SV} {m} (h : gw_G mt d QR Γ pc' ls stk' m)
    (hs : ∀ {p : Program} {l : Launch} {e : Env} {R : Room} {s : State} {mm : MethodId} {args : Array Value} {below : List Frame} {meth : Method} {c : Code} {H : Heap} {locs : List Loc} {cells slots : Nat} {Q : State → Prop} {lsA : Array Slot} (ad : Nat → Nat), p.tables.exec = Jvm.exec → c.code = gw_mC mt → s.vm.findClass (gw_mY mt).cls = some mm.cls → (∀ w ∈ gw_tb, w.before args s = true) → (∀ v ∈ stk, gw_okV v) → W p l e R s mm args below meth c H locs cells slots Q (F0 mm pc' lsA (stk'.map (gw_cv ad))) → W p l e R s mm args below meth c H locs cells slots Q (F0 mm pc lsA (stk.map (gw_cv ad))))
    (ho : (∀ v ∈ stk, gw_okV v) → ∀ v ∈ stk', gw_okV v) : gw_G mt d QR Γ pc ls stk m := by
  obtain ⟨cx, p, l, e, R, s, mm, args, below, meth, c, ⟨c0, s0⟩, Q⟩ := Γ
  intro ok o1 o2 o3 H locs lsA hP hS hl
  exact hs cx.2.2.1 ok.1 ok.2.1 ok.2.2.2.1 ok.2.2.2.2.1 o2 (h ok o1 (ho o2) o3 H locs lsA hP hS hl)
theorem gw_oc {v w : gw_SV} {rest : List gw_SV} (hv : gw_okV v) (h : ∀ x ∈ w :: rest, gw_okV x) : ∀ x ∈ v :: rest, gw_okV x := fun x hx => (List.mem_cons.mp hx).elim (fun e => e ▸ hv) (fun z => h x (List.mem_cons_of_mem _ z))
theorem gw_oc2 {v w w2 : gw_SV} {rest : List gw_SV} (hv : gw_okV v) (h : ∀ x ∈ w :: w2 :: rest, gw_okV x) : ∀ x ∈ v :: rest, gw_okV x := fun x hx => (List.mem_cons.mp hx).elim (fun e => e ▸ hv) (fun z => h x (List.mem_cons_of_mem _ (List.mem_cons_of_mem _ z)))
theorem gw_op {v : gw_SV} {rest : List gw_SV} (hv : gw_okV v) (h : ∀ x ∈ rest, gw_okV x) : ∀ x ∈ v :: rest, gw_okV x := fun x hx => (List.mem_cons.mp hx).elim (fun e => e ▸ hv) (fun z => h x z)
theorem gw_o0 {v : gw_SV} {rest : List gw_SV} (h : ∀ x ∈ v :: rest, gw_okV x) : gw_okV v := h v List.mem_cons_self
theorem gw_o1 {v w : gw_SV} {rest : List gw_SV} (h : ∀ x ∈ v :: w :: rest, gw_okV x) : gw_okV w := h w (List.mem_cons_of_mem _ List.mem_cons_self)
theorem gw_ot {v : gw_SV} {rest : List gw_SV} (h : ∀ x ∈ v :: rest, gw_okV x) : ∀ x ∈ rest, gw_okV x := fun x hx => h x (List.mem_cons_of_mem _ hx)
