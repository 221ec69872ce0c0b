/-! the world behind both constructors -/
def gl_pm : List Nat := [0, 98, 99, 108, 1, 2, 3, 4, 9, 14, 5, 6, 7, 8, 10, 11, 12, 13, 15, 16, 17, 18, 19, 20, 21, 22, 23, 24, 25, 30, 35, 26, 27, 28, 29, 31, 32, 33, 34, 36, 37, 38, 39, 40, 41, 42, 43, 44, 45, 46, 47, 52, 57, 48, 49, 50, 51, 53, 54, 55, 56, 58, 59, 60, 61, 62, 63, 64, 65, 66, 67, 68, 69, 70, 71, 72, 73, 74, 75, 76, 77, 78, 79, 80, 81, 82, 83, 84, 85, 86, 87, 88, 89, 90, 91, 92, 93, 94, 95, 96, 97, 100, 101, 102, 103, 104, 105, 106, 107, 109, 110, 111, 112, 113, 114, 115, 116]
def gl_m0 : gw_Mem := fun o j => if o = 0 then (if j = 12 then -1 else 0) else if o = 4 then (if j = 0 then 40 else 0) else if o = 25 then (if j = 0 then 40 else 0) else if o = 22 then ([2, 5, 0, 10, 3] : List Int).getD j.toNat 0 else if o = 43 then ([2, 5, 0, 10, 3] : List Int).getD j.toNat 0 else if o = 65 then (if j = 5 then -4 else if j = 6 then -4 else if j = 7 then -1 else if j = 9 then -1 else 0) else if o = 83 then (if j = 5 then -4 else if j = 6 then -4 else if j = 7 then -1 else if j = 9 then -1 else 0) else if o = 109 then (if j = 0 then -1 else 0) else if o = 111 then (if j = 0 then -1 else 0) else if o = 113 then (if j = 0 then -1 else 0) else if o = 115 then (if j = 0 then -1 else 0) else 0
def gl_ad (ad1 ad0 : Nat → Nat) (o : Nat) : Nat := if o < 117 then ad1 (gl_pm.getD o 0) else ad0 o
def gl_cx (cx : gw_Cx) (ad1 : Nat → Nat) : gw_Cx := (cx.1, cx.2.1, gl_ad ad1 cx.2.2.1, cx.2.2.2.1, cx.2.2.2.2)
def gl_cell (cA : Nat → ClassId) (ad : Nat → Nat) (m : gw_Mem) (o : Nat) (s : gw_Shp) : va_E := match s with
  | (0, ci, sl) => .inr (ci, gw_slots ad (m o) sl)
  | (1, n, _) => .inl (cA 1, n, .inl (fun j => Int32.ofInt (m o (j : Nat))))
  | (2, n, _) => .inl (cA 2, n, .inl (fun j => Int32.ofInt (m o (j : Nat))))
  | (3, n, _) => .inl (cA 3, n, .inl (fun j => Int32.ofInt (m o (j : Nat))))
  | (k + 4, n, rs) => .inl (cA (k + 4), n, .inr (.inr (.inr (.inr (gn_rs (rs.map (Option.map ad)))))))
theorem gl_cell_eq (cx : gw_Cx) (m : gw_Mem) (o : Nat) (s : gw_Shp) : gw_cell cx m o s = gl_cell cx.2.1 cx.2.2.1 m o s := by
  obtain ⟨k, n, rs⟩ := s
  match k with
  | 0 | 1 | 2 | 3 => rfl
  | k + 4 =>
    show (.inl (cx.2.1 (k + 4), n, .inr (.inr (.inr (.inr (fun j => (rs.getD j none).map cx.2.2.1))))) : va_E) = .inl (cx.2.1 (k + 4), n, .inr (.inr (.inr (.inr (gn_rs (rs.map (Option.map cx.2.2.1)))))))
    have e : (fun j => (rs.getD j none).map cx.2.2.1) = gn_rs (rs.map (Option.map cx.2.2.1)) := by
      funext j
      unfold gn_rs
      rw [List.getD_eq_getElem?_getD, List.getD_eq_getElem?_getD, List.getElem?_map]
      cases rs[j]? <;> rfl
    rw [e]
def gl_slots (ad : Nat → Nat) (f : Int → Int) : Nat → List (Option Nat) → List Value
  | _, [] => []
  | k, r :: t => gw_slot ad f k r :: gl_slots ad f (k + 1) t
theorem gl_slots_get (ad : Nat → Nat) (f : Int → Int) (l : List (Option Nat)) : ∀ (k i : Nat), (gl_slots ad f k l)[i]? = (l[i]?).map (gw_slot ad f (k + i)) := by
  induction l with
  | nil => intro k i; rfl
  | cons r t ih =>
    intro k i
    cases i with
    | zero => rfl
    | succ i =>
      show (gl_slots ad f (k + 1) t)[i]? = (t[i]?).map (gw_slot ad f (k + (i + 1)))
      rw [ih, show k + 1 + i = k + (i + 1) by omega]
theorem gl_slots_eq (ad : Nat → Nat) (f : Int → Int) (l : List (Option Nat)) : gw_slots ad f l = gl_slots ad f 0 l := by
  apply List.ext_getElem?
  intro i
  rw [gl_slots_get]
  unfold gw_slots
  rw [List.getElem?_mapIdx, Nat.zero_add]
def gl_cell2 (cA : Nat → ClassId) (ad : Nat → Nat) (m : gw_Mem) (o : Nat) (s : gw_Shp) : va_E := match s with
  | (0, ci, sl) => .inr (ci, gl_slots ad (m o) 0 sl)
  | (1, n, _) => .inl (cA 1, n, .inl (fun j => Int32.ofInt (m o (j : Nat))))
  | (2, n, _) => .inl (cA 2, n, .inl (fun j => Int32.ofInt (m o (j : Nat))))
  | (3, n, _) => .inl (cA 3, n, .inl (fun j => Int32.ofInt (m o (j : Nat))))
  | (k + 4, n, rs) => .inl (cA (k + 4), n, .inr (.inr (.inr (.inr (gn_rs (rs.map (Option.map ad)))))))
theorem gl_cell2_eq (cA : Nat → ClassId) (ad : Nat → Nat) (m : gw_Mem) (o : Nat) (s : gw_Shp) : gl_cell cA ad m o s = gl_cell2 cA ad m o s := by
  obtain ⟨k, n, rs⟩ := s
  match k with
  | 0 =>
    show (.inr (n, gw_slots ad (m o) rs) : va_E) = .inr (n, gl_slots ad (m o) 0 rs)
    rw [gl_slots_eq]
  | 1 | 2 | 3 => rfl
  | k + 4 => rfl
def gl_mk (f : Nat → gw_Shp → Nat × va_E) : Nat → List gw_Shp → va_W
  | _, [] => []
  | k, s :: t => f k s :: gl_mk f (k + 1) t
theorem gl_mk_get (f : Nat → gw_Shp → Nat × va_E) (l : List gw_Shp) : ∀ (k i : Nat), (gl_mk f k l)[i]? = (l[i]?).map (f (k + i)) := by
  induction l with
  | nil => intro k i; rfl
  | cons r t ih =>
    intro k i
    cases i with
    | zero => rfl
    | succ i =>
      show (gl_mk f (k + 1) t)[i]? = (t[i]?).map (f (k + (i + 1)))
      rw [ih, show k + 1 + i = k + (i + 1) by omega]
def gl_f (cA : Nat → ClassId) (ad : Nat → Nat) (o : Nat) (s : gw_Shp) : Nat × va_E := (ad o, gl_cell2 cA ad gl_m0 o s)
def gl_W (cA : Nat → ClassId) (ad1 : Nat → Nat) : va_W := gn_at ad1 (gb_11 cA ad1)
