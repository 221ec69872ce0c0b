/-! fields -/
def gw_FL (own : String) (idx ci k : Nat) : Prop := ∃ (C : String) (T : u_T) (N : Nat), vwCl[ci]? = some (C, T, N) ∧ k < N ∧ (∀ w ∈ u_ws C T N, w ∈ gw_tb) ∧ Cond.fieldLink own idx (T k).1 (T k).2.1 (T k).2.2.1 ∈ gw_tb
def gw_FP (own : String) (idx ci k : Nat) (ty : FieldType) : Prop := ∃ (C : String) (T : u_T) (N : Nat) (ty0 : Nat → FieldType), vwCl[ci]? = some (C, T, N) ∧ k < N ∧ (∀ w ∈ u_ws C T N, w ∈ gw_tb) ∧ Cond.fieldLink own idx (T k).1 (T k).2.1 (T k).2.2.1 ∈ gw_tb ∧ (∀ j, j < N → parseFieldDescriptor (T j).2.2.1 = some (ty0 j)) ∧ (∀ a, a < N → ∀ b, b < N → a ≠ b → (T a).2.1 ≠ (T b).2.1) ∧ (T k).2.2.2 = false ∧ ty0 k = ty
theorem gw_slots_get {ad : Nat → Nat} {f : Int → Int} {sl : List (Option Nat)} {k : Nat} {r : Option Nat} (h : sl[k]? = some r) : (gw_slots ad f sl)[k]? = some (gw_slot ad f k r) := by
  unfold gw_slots
  rw [List.getElem?_mapIdx, h]
  rfl
theorem gw_getI {mt d QR Γ pc ls stk m} {o ci k idx : Nat} {sl : List (Option Nat)} {kz : Int} (pc' : Nat) (hd : decode (gw_mC mt) pc = .ok (.getfield idx, 3)) (hp : pc + 3 = pc') (hf : gw_FL (gw_mY mt).cls idx ci k) (hs : gw_SH[o]? = some (0, ci, sl)) (hk : sl[k]? = some none) (hz : (k : Int) = kz) (h : gw_G mt d QR Γ pc' ls (gI (m o kz) :: stk) m) : gw_G mt d QR Γ pc ls (gR o :: stk) m := by
  subst hp; subst hz
  obtain ⟨C, T, N, hc, hkN, hin, hlk⟩ := hf
  obtain ⟨cx, p, l, e, R, s, mm, args, below, meth, cd, ⟨c0, s0⟩, Q⟩ := Γ
  intro ok o1 o2 o3 H locs lsA hP hS hL
  exact va_get (D := cx.1) (ci := ci) ok.1 ok.2.1 ok.2.2.2.2.1 hin ok.2.2.2.1 ok.2.2.2.2.2.1 hP o (gw_Wd_get hs) hc k hkN (ok.2.2.2.2.1 _ hlk) (fun _ h => h) (gw_slots_get hk) hd (h ok o1 (gw_oc (o3.1 o k) o2) o3 H locs lsA hP hS hL)
theorem gw_getR {mt d QR Γ pc ls stk m} {o ci k idx q : Nat} {sl : List (Option Nat)} (pc' : Nat) (hd : decode (gw_mC mt) pc = .ok (.getfield idx, 3)) (hp : pc + 3 = pc') (hf : gw_FL (gw_mY mt).cls idx ci k) (hs : gw_SH[o]? = some (0, ci, sl)) (hk : sl[k]? = some (some q)) (h : gw_G mt d QR Γ pc' ls (gR q :: stk) m) : gw_G mt d QR Γ pc ls (gR o :: stk) m := by
  subst hp
  obtain ⟨C, T, N, hc, hkN, hin, hlk⟩ := hf
  obtain ⟨cx, p, l, e, R, s, mm, args, below, meth, cd, ⟨c0, s0⟩, Q⟩ := Γ
  intro ok o1 o2 o3 H locs lsA hP hS hL
  exact va_get (D := cx.1) (ci := ci) ok.1 ok.2.1 ok.2.2.2.2.1 hin ok.2.2.2.1 ok.2.2.2.2.2.1 hP o (gw_Wd_get hs) hc k hkN (ok.2.2.2.2.1 _ hlk) (fun _ h => h) (gw_slots_get hk) hd (h ok o1 (gw_oc (v := gR q) trivial o2) o3 H locs lsA hP hS hL)
theorem gw_slots_set {ad : Nat → Nat} {m : gw_Mem} {o : Nat} {sl : List (Option Nat)} {k : Nat} {v : Int} (hk : sl[k]? = some none) : (gw_slots ad (m o) sl).set k (.int (Int32.ofInt v)) = gw_slots ad (gw_up m o k v o) sl := by
  apply List.ext_getElem?
  intro i
  rw [List.getElem?_set]
  unfold gw_slots
  by_cases hi : k = i
  · subst hi
    have hl : k < (sl.mapIdx (gw_slot ad (m o))).length := by
      rw [List.length_mapIdx]
      exact (List.getElem?_eq_some_iff.mp hk).1
    rw [if_pos rfl, if_pos hl, List.getElem?_mapIdx, hk]
    show some (Value.int (Int32.ofInt v)) = some (Value.int (Int32.ofInt (gw_up m o k v o k)))
    rw [gw_up_at, if_pos rfl]
  · rw [if_neg hi, List.getElem?_mapIdx, List.getElem?_mapIdx]
    cases sl[i]? with
    | none => rfl
    | some r =>
      cases r with
      | some q => rfl
      | none =>
        show some (Value.int (Int32.ofInt (m o i))) = some (Value.int (Int32.ofInt (gw_up m o k v o i)))
        rw [gw_up_at, if_neg (by omega)]
theorem gw_nob {o ci : Nat} {sl : List (Option Nat)} (hs : gw_SH[o]? = some (0, ci, sl)) {v : Int} : ∀ n rs, gw_SH[o]? = some (3, n, rs) → gw_b v := by
  intro n rs h
  rw [hs] at h
  cases h
theorem gw_putI {mt d QR Γ pc ls stk m} {o ci k idx : Nat} {sl : List (Option Nat)} {kz v : Int} {ty : FieldType} (pc' : Nat) (hd : decode (gw_mC mt) pc = .ok (.putfield idx, 3)) (hp : pc + 3 = pc') (hf : gw_FP (gw_mY mt).cls idx ci k ty) (hty : ty = .int ∨ ty = .boolean ∧ gw_b v) (hs : gw_SH[o]? = some (0, ci, sl)) (hk : sl[k]? = some none) (hz : (k : Int) = kz) (h : gw_G mt d QR Γ pc' ls stk (gw_up m o kz v)) : gw_G mt d QR Γ pc ls (gI v :: gR o :: stk) m := by
  subst hp; subst hz
  obtain ⟨C, T, N, ty0, hc, hkN, hin, hlk, hpf, hnm, hfin, ht0⟩ := hf
  obtain ⟨cx, p, l, e, R, s, mm, args, below, meth, cd, ⟨c0, s0⟩, Q⟩ := Γ
  intro ok o1 o2 o3 H locs lsA hP hS hL
  have hn : narrow ty (.int (Int32.ofInt v)) = .int (Int32.ofInt v) ∧ fits ty (.int (Int32.ofInt v)) = true := by
    rcases hty with rfl | ⟨rfl, hb⟩
    · exact ⟨rfl, rfl⟩
    · exact gw_bool hb
  have hl : k < (gw_slots cx.2.2.1 (m o) sl).length := by
    unfold gw_slots
    rw [List.length_mapIdx]
    exact (List.getElem?_eq_some_iff.mp hk).1
  refine va_put (D := cx.1) (ci := ci) ok.1 ok.2.1 ok.2.2.2.2.1 hin ty0 hpf hnm ok.2.2.2.1 ok.2.2.2.2.2.1 hP (gw_Wd_D ok.2.2.2.2.2.2.1 m) hS o (gw_Wd_get hs) hc k hkN (ok.2.2.2.2.1 _ hlk) (fun _ h => h) hfin (ty := ty) (by rw [hpf k hkN, ht0]) hn.1 hn.2 hl hd (fun H1 locs1 hP1 _ hS1 => ?_)
  have e0 := gw_slots_set (ad := cx.2.2.1) (m := m) (o := o) (v := v) hk
  have hP1 : va_P cx.1 vwCl (gw_Wd cx (gw_up m o k v)) H1 := by
    rw [← gw_Wd_set (m := m) (m' := gw_up m o k v) hs rfl (fun q hq => gw_up_ne hq)]
    show va_P _ _ (List.set _ o (_, .inr (ci, gw_slots cx.2.2.1 (gw_up m o k v o) sl))) H1
    rw [← e0]
    exact hP1
  exact h ok o1 (gw_ot (gw_ot o2)) (gw_okM_up o3 (gw_o0 o2) (gw_nob hs)) H1 locs1 lsA hP1 hS1 hL
/-! arrays -/
theorem gw_idx {i : Int} {n : Nat} (h : gw_in i n) (hr : gw_inR i) : ((Int32.ofInt i).toNatClampNeg : Int) = i := by
  rw [gw_clamp h.1 hr]
  exact Int.toNat_of_nonneg h.1
theorem gw_iaload {mt d QR Γ pc ls stk m} {o n : Nat} {rs : List (Option Nat)} {i : Int} (pc' : Nat) (hd : decode (gw_mC mt) pc = .ok (.iaload, 1)) (hp : pc + 1 = pc') (hs : gw_SH[o]? = some (1, n, rs)) (hi : gw_in i n) (h : gw_G mt d QR Γ pc' ls (gI (m o i) :: stk) m) : gw_G mt d QR Γ pc ls (gI i :: gR o :: stk) m := by
  subst hp
  obtain ⟨cx, p, l, e, R, s, mm, args, below, meth, cd, ⟨c0, s0⟩, Q⟩ := Γ
  intro ok o1 o2 o3 H locs lsA hP hS hL
  refine va_iald (D := cx.1) ok.1 ok.2.1 ok.2.2.2.2.2.1 hP o 0 (gw_Wd_get hs) rfl (gw_vpin hi (gw_o0 o2)) hd ?_
  rw [gw_idx hi (gw_o0 o2)]
  exact h ok o1 (gw_oc2 (o3.1 o i) o2) o3 H locs lsA hP hS hL
theorem gw_baload {mt d QR Γ pc ls stk m} {o n : Nat} {rs : List (Option Nat)} {i : Int} (pc' : Nat) (hd : decode (gw_mC mt) pc = .ok (.baload, 1)) (hp : pc + 1 = pc') (hs : gw_SH[o]? = some (2, n, rs)) (hi : gw_in i n) (h : gw_G mt d QR Γ pc' ls (gI (m o i) :: stk) m) : gw_G mt d QR Γ pc ls (gI i :: gR o :: stk) m := by
  subst hp
  obtain ⟨cx, p, l, e, R, s, mm, args, below, meth, cd, ⟨c0, s0⟩, Q⟩ := Γ
  intro ok o1 o2 o3 H locs lsA hP hS hL
  refine va_bald (D := cx.1) ok.1 ok.2.1 ok.2.2.2.2.2.1 hP o 1 (gw_Wd_get hs) rfl (gw_vpin hi (gw_o0 o2)) hd ?_
  rw [gw_idx hi (gw_o0 o2)]
  exact h ok o1 (gw_oc2 (o3.1 o i) o2) o3 H locs lsA hP hS hL
theorem gw_zaload {mt d QR Γ pc ls stk m} {o n : Nat} {rs : List (Option Nat)} {i : Int} (pc' : Nat) (hd : decode (gw_mC mt) pc = .ok (.baload, 1)) (hp : pc + 1 = pc') (hs : gw_SH[o]? = some (3, n, rs)) (hi : gw_in i n) (h : gw_G mt d QR Γ pc' ls (gI (m o i) :: stk) m) : gw_G mt d QR Γ pc ls (gI i :: gR o :: stk) m := by
  subst hp
  obtain ⟨cx, p, l, e, R, s, mm, args, below, meth, cd, ⟨c0, s0⟩, Q⟩ := Γ
  intro ok o1 o2 o3 H locs lsA hP hS hL
  refine va_zald (D := cx.1) ok.1 ok.2.1 ok.2.2.2.2.2.1 hP o 2 (gw_Wd_get hs) rfl (gw_vpin hi (gw_o0 o2)) hd ?_
  rw [gw_idx hi (gw_o0 o2)]
  exact h ok o1 (gw_oc2 (o3.1 o i) o2) o3 H locs lsA hP hS hL
theorem gw_arr_set {m : gw_Mem} {o : Nat} {i v : Int} {n : Nat} {x : Int32} (hi : gw_in i n) (hr : gw_inR i) (hx : x = Int32.ofInt v) : upd (fun j : Nat => Int32.ofInt (m o (j : Int))) (Int32.ofInt i).toNatClampNeg x = fun j : Nat => Int32.ofInt (gw_up m o i v o (j : Int)) := by
  subst hx
  funext j
  rw [gw_up_at]
  unfold upd
  have h1 := gw_idx hi hr
  by_cases hj : j = (Int32.ofInt i).toNatClampNeg
  · rw [if_pos hj, if_pos (by rw [hj]; exact h1)]
  · rw [if_neg hj, if_neg (fun z => hj (by omega))]
theorem gw_iastore {mt d QR Γ pc ls stk m} {o n : Nat} {rs : List (Option Nat)} {i v : Int} (pc' : Nat) (hd : decode (gw_mC mt) pc = .ok (.iastore, 1)) (hp : pc + 1 = pc') (hs : gw_SH[o]? = some (1, n, rs)) (hi : gw_in i n) (h : gw_G mt d QR Γ pc' ls stk (gw_up m o i v)) : gw_G mt d QR Γ pc ls (gI v :: gI i :: gR o :: stk) m := by
  subst hp
  obtain ⟨cx, p, l, e, R, s, mm, args, below, meth, cd, ⟨c0, s0⟩, Q⟩ := Γ
  intro ok o1 o2 o3 H locs lsA hP hS hL
  refine va_iast (D := cx.1) ok.1 ok.2.1 ok.2.2.2.2.2.1 hP (gw_Wd_D ok.2.2.2.2.2.2.1 m) hS o 0 (gw_Wd_get hs) rfl (gw_vpin hi (gw_o1 o2)) hd (fun H1 locs1 hP1 _ hS1 => ?_)
  rw [gw_arr_set (v := v) hi (gw_o1 o2) rfl] at hP1
  have hP1 : va_P cx.1 vwCl (gw_Wd cx (gw_up m o i v)) H1 := by
    rw [← gw_Wd_set (m := m) (m' := gw_up m o i v) hs rfl (fun q hq => gw_up_ne hq)]
    exact hP1
  exact h ok o1 (gw_ot (gw_ot (gw_ot o2))) (gw_okM_up o3 (gw_o0 o2) (fun n' rs' h' => by rw [hs] at h'; cases h')) H1 locs1 lsA hP1 hS1 hL
theorem gw_bastore {mt d QR Γ pc ls stk m} {o n : Nat} {rs : List (Option Nat)} {i v : Int} (pc' : Nat) (hd : decode (gw_mC mt) pc = .ok (.bastore, 1)) (hp : pc + 1 = pc') (hs : gw_SH[o]? = some (2, n, rs)) (hi : gw_in i n) (h : gw_G mt d QR Γ pc' ls stk (gw_up m o i (gw_i2b v))) : gw_G mt d QR Γ pc ls (gI v :: gI i :: gR o :: stk) m := by
  subst hp
  obtain ⟨cx, p, l, e, R, s, mm, args, below, meth, cd, ⟨c0, s0⟩, Q⟩ := Γ
  intro ok o1 o2 o3 H locs lsA hP hS hL
  refine va_bast (D := cx.1) ok.1 ok.2.1 ok.2.2.2.2.2.1 hP (gw_Wd_D ok.2.2.2.2.2.2.1 m) hS o 1 (gw_Wd_get hs) rfl (gw_vpin hi (gw_o1 o2)) hd (fun H1 locs1 hP1 _ hS1 => ?_)
  rw [gw_arr_set (v := gw_i2b v) hi (gw_o1 o2) (by rw [vp_nar_byte]; exact gw_eqv rfl)] at hP1
  have hP1 : va_P cx.1 vwCl (gw_Wd cx (gw_up m o i (gw_i2b v))) H1 := by
    rw [← gw_Wd_set (m := m) (m' := gw_up m o i (gw_i2b v)) hs rfl (fun q hq => gw_up_ne hq)]
    exact hP1
  exact h ok o1 (gw_ot (gw_ot (gw_ot o2))) (gw_okM_up o3 (gw_rng _) (fun n' rs' h' => by rw [hs] at h'; cases h')) H1 locs1 lsA hP1 hS1 hL
theorem gw_zastore {mt d QR Γ pc ls stk m} {o n : Nat} {rs : List (Option Nat)} {i v : Int} (pc' : Nat) (hd : decode (gw_mC mt) pc = .ok (.bastore, 1)) (hp : pc + 1 = pc') (hs : gw_SH[o]? = some (3, n, rs)) (hi : gw_in i n) (hb : gw_b v) (h : gw_G mt d QR Γ pc' ls stk (gw_up m o i v)) : gw_G mt d QR Γ pc ls (gI v :: gI i :: gR o :: stk) m := by
  subst hp
  obtain ⟨cx, p, l, e, R, s, mm, args, below, meth, cd, ⟨c0, s0⟩, Q⟩ := Γ
  intro ok o1 o2 o3 H locs lsA hP hS hL
  refine va_zast (D := cx.1) ok.1 ok.2.1 ok.2.2.2.2.2.1 hP (gw_Wd_D ok.2.2.2.2.2.2.1 m) hS o 2 (gw_Wd_get hs) rfl (gw_vpin hi (gw_o1 o2)) hd (fun H1 locs1 hP1 _ hS1 => ?_)
  rw [gw_arr_set (v := v) hi (gw_o1 o2) (by rcases hb with rfl | rfl <;> decide)] at hP1
  have hP1 : va_P cx.1 vwCl (gw_Wd cx (gw_up m o i v)) H1 := by
    rw [← gw_Wd_set (m := m) (m' := gw_up m o i v) hs rfl (fun q hq => gw_up_ne hq)]
    exact hP1
  exact h ok o1 (gw_ot (gw_ot (gw_ot o2))) (gw_okM_up o3 (gw_o0 o2) (fun _ _ _ => hb)) H1 locs1 lsA hP1 hS1 hL
theorem gw_aaload {mt d QR Γ pc ls stk m} {o n t q : Nat} {rs : List (Option Nat)} {i : Int} (pc' : Nat) (hd : decode (gw_mC mt) pc = .ok (.aaload, 1)) (hp : pc + 1 = pc') (hs : gw_SH[o]? = some (t, n, rs)) (ht : t = 4 ∨ t = 5) (hi : gw_in i n) (hq : rs[i.toNat]? = some (some q)) (h : gw_G mt d QR Γ pc' ls (gR q :: stk) m) : gw_G mt d QR Γ pc ls (gI i :: gR o :: stk) m := by
  subst hp
  obtain ⟨cx, p, l, e, R, s, mm, args, below, meth, cd, ⟨c0, s0⟩, Q⟩ := Γ
  intro ok o1 o2 o3 H locs lsA hP hS hL
  have hin := gw_vpin hi (gw_o0 o2)
  have hlt : (Int32.ofInt i).toNatClampNeg < n := Nat.not_le.mp fun q => hin (Or.inr q)
  have hv : va_rf ((rs.getD (Int32.ofInt i).toNatClampNeg none).map cx.2.2.1) = .ref (cx.2.2.1 q) := by
    rw [gw_clamp hi.1 (gw_o0 o2), List.getD_eq_getElem?_getD, hq]
    rfl
  have hk := h ok o1 (gw_oc2 (v := gR q) trivial o2) o3 H locs lsA hP hS hL
  rcases ht with rfl | rfl
  · have ha : (gw_Wd cx m)[o]? = some (cx.2.2.1 o, .inl (cx.2.1 4, n, .inr (.inr (.inr (.inr (fun j => (rs.getD j none).map cx.2.2.1)))))) := gw_Wd_get hs
    have hf := (ok.2.2.2.2.2.1.2 3 (cx.2.1 4, .array .int) rfl).1
    exact W.aald (v := .ref (cx.2.2.1 q)) (ty := .array .int) ok.1 ok.2.1 (hP o _ ha) (hf n (fun j => va_rf ((rs.getD j none).map cx.2.2.1))) rfl (fun q => by cases q) (by show ¬ (_ ∨ (arrV _ _ _).slots.size ≤ _); rw [arrV_size]; exact hin) (by show (arrV _ _ _).slots[_]? = _; rw [arrV_read _ _ hlt, hv]) rfl rfl hd hk
  · have ha : (gw_Wd cx m)[o]? = some (cx.2.2.1 o, .inl (cx.2.1 5, n, .inr (.inr (.inr (.inr (fun j => (rs.getD j none).map cx.2.2.1)))))) := gw_Wd_get hs
    have hf := (ok.2.2.2.2.2.1.2 4 (cx.2.1 5, .object "FlagWalk$Sheet") rfl).1
    exact W.aald (v := .ref (cx.2.2.1 q)) (ty := .object "FlagWalk$Sheet") ok.1 ok.2.1 (hP o _ ha) (hf n (fun j => va_rf ((rs.getD j none).map cx.2.2.1))) rfl (fun q => by cases q) (by show ¬ (_ ∨ (arrV _ _ _).slots.size ≤ _); rw [arrV_size]; exact hin) (by show (arrV _ _ _).slots[_]? = _; rw [arrV_read _ _ hlt, hv]) rfl rfl hd hk
theorem gw_alen {mt d QR Γ pc ls stk m} {o t n : Nat} {rs : List (Option Nat)} {z : Int} (pc' : Nat) (hd : decode (gw_mC mt) pc = .ok (.arraylength, 1)) (hp : pc + 1 = pc') (hs : gw_SH[o]? = some (t, n, rs)) (ht : t = 1) (hz : (n : Int) = z) (hr : gw_rb z = true) (h : gw_G mt d QR Γ pc' ls (gI z :: stk) m) : gw_G mt d QR Γ pc ls (gR o :: stk) m := by
  subst hp; subst ht; subst hz
  obtain ⟨cx, p, l, e, R, s, mm, args, below, meth, cd, ⟨c0, s0⟩, Q⟩ := Γ
  intro ok o1 o2 o3 H locs lsA hP hS hL
  exact va_alen (D := cx.1) ok.1 ok.2.1 ok.2.2.2.2.2.1 hP o 0 (gw_Wd_get hs) rfl (v := Int32.ofInt n) rfl hd (h ok o1 (gw_oc (v := gI n) (gw_rb_in hr) o2) o3 H locs lsA hP hS hL)
/-! static arrays -/
theorem gw_gets {mt d QR Γ pc ls stk m} {idx i : Nat} (pc' : Nat) (hd : decode (gw_mC mt) pc = .ok (.getstatic idx, 3)) (hp : pc + 3 = pc') (hi : i < 5) (hw : Cond.fieldLink (gw_mY mt).cls idx "FlagWalk" (gw_sn i) "[I" ∈ gw_tb) (h : gw_G mt d QR Γ pc' ls (gR (1000 + i) :: stk) m) : gw_G mt d QR Γ pc ls stk m := by
  subst hp
  obtain ⟨cx, p, l, e, R, s, mm, args, below, meth, cd, ⟨c0, s0⟩, Q⟩ := Γ
  intro ok o1 o2 o3 H locs lsA hP hS hL
  exact va_gets ok.1 ok.2.1 (ok.2.2.2.2.2.2.2.1.1 i hi).1 hS ok.2.2.2.1 (ok.2.2.2.2.1 _ hw) (fun _ h => h) hd (h ok o1 (gw_op (v := gR (1000 + i)) trivial o2) o3 H locs lsA hP hS hL)
theorem gw_getsN {mt d QR Γ pc ls stk m} {idx i : Nat} {host : String} (pc' : Nat) (hd : decode (gw_mC mt) pc = .ok (.getstatic idx, 3)) (hp : pc + 3 = pc') (hi : i < 5) (hw : ((gw_mY mt).cls, idx, "FlagWalk", gw_sn i, "[I", host) ∈ gw_nwF) (h : gw_G mt d QR Γ pc' ls (gR (1000 + i) :: stk) m) : gw_G mt d QR Γ pc ls stk m := by
  subst hp
  obtain ⟨cx, p, l, e, R, s, mm, args, below, meth, cd, ⟨c0, s0⟩, Q⟩ := Γ
  intro ok o1 o2 o3 H locs lsA hP hS hL
  exact va_getsN ok.1 ok.2.1 (ok.2.2.2.2.2.2.2.1.1 i hi).1 hS ok.2.2.2.1 (va_Nw.use rfl (ok.2.2.2.2.2.2.2.1.2.2.2 _ hw)) (fun _ h => h) hd (h ok o1 (gw_op (v := gR (1000 + i)) trivial o2) o3 H locs lsA hP hS hL)
theorem gw_sv_in (i : Nat) (j : Nat) : gw_inR ((gw_sv i).getD j 0) := by
  have h : ∀ l : List Int, (∀ x ∈ l, gw_inR x) → gw_inR (l.getD j 0) := by
    intro l hl
    rw [List.getD_eq_getElem?_getD]
    cases hx : l[j]? with
    | none => exact gw_in0
    | some x => exact hl x (List.mem_of_getElem? hx)
  apply h
  intro x hx
  unfold gw_inR
  unfold gw_sv at hx
  split at hx <;> simp at hx <;> omega
theorem gw_ialoadS {mt d QR Γ pc ls stk m} {i : Nat} {j v : Int} (pc' : Nat) (hd : decode (gw_mC mt) pc = .ok (.iaload, 1)) (hp : pc + 1 = pc') (hi : i < 5) (hj : gw_in j (gw_sv i).length) (hv : (gw_sv i).getD j.toNat 0 = v) (h : gw_G mt d QR Γ pc' ls (gI v :: stk) m) : gw_G mt d QR Γ pc ls (gI j :: gR (1000 + i) :: stk) m := by
  subst hp; subst hv
  obtain ⟨cx, p, l, e, R, s, mm, args, below, meth, cd, ⟨c0, s0⟩, Q⟩ := Γ
  intro ok o1 o2 o3 H locs lsA hP hS hL
  exact va_ti ok.1 ok.2.1 (ok.2.2.2.2.2.2.2.1.1 i hi).2 hS (gw_vpin hj (gw_o0 o2)) (v := .int (Int32.ofInt ((gw_sv i).getD j.toNat 0))) (by rw [gw_clamp hj.1 (gw_o0 o2)]) hd (h ok o1 (gw_oc2 (v := gI _) (gw_sv_in i _) o2) o3 H locs lsA hP hS hL)
/-! Math and arraycopy -/
theorem gw_max {mt d QR Γ pc ls stk m} {idx : Nat} {x y : Int} (pc' : Nat) (hd : decode (gw_mC mt) pc = .ok (.invokestatic idx, 3)) (hp : pc + 3 = pc') (hw : Cond.methodLink (gw_mY mt).cls idx Lib.Math.max.name ∈ gw_tb) (hc : Nat.ble 1 d = true) (hst : (stk.map (fun v => gw_nl [some v] 1)).all id = true) (hln : Nat.ble stk.length 8 = true) (h : gw_G mt d QR Γ pc' ls (gI (max x y) :: stk) m) : gw_G mt d QR Γ pc ls (gI y :: gI x :: stk) m := by
  subst hp
  obtain ⟨cx, p, l, e, R, s, mm, args, below, meth, cd, ⟨c0, s0⟩, Q⟩ := Γ
  intro ok o1 o2 o3 H locs lsA hP hS hL
  have hd1 : 1 ≤ d := Nat.le_of_ble_eq_true hc
  have hR := ok.2.2.2.2.2.2.2.2.2.1
  have hsum : ((stk.map (gw_cv cx.2.2.1)).map fun v => v.category).sum ≤ 8 := by
    have h1 : ∀ l : List gw_SV, (l.map (fun v => gw_nl [some v] 1)).all id = true → ((l.map (gw_cv cx.2.2.1)).map fun v => v.category).sum = l.length := by
      intro l
      induction l with
      | nil => intro _; rfl
      | cons a t ih =>
        intro hh
        simp only [List.map_cons, List.all_cons, Bool.and_eq_true, id] at hh
        simp only [List.map_cons, List.sum_cons, List.length_cons]
        rw [ih hh.2, gw_c1 hh.1]
        omega
    rw [h1 stk hst]
    exact Nat.le_of_ble_eq_true hln
  refine va_mmax ok.1 ok.2.1 (by rw [ok.2.2.1, hL.1]) ok.2.2.2.1 (ok.2.2.2.2.1 _ hw) (ok.2.2.2.2.1 _ jS_max) (ok.2.2.2.2.1 _ ini_java_lang_Math) (ok.2.2.2.2.1 _ jC_max) (by omega) (by omega) hR.2.2.1 hR.2.2.2 hd ?_
  have e1 : (if Int32.ofInt x < Int32.ofInt y then Int32.ofInt y else Int32.ofInt x) = Int32.ofInt (max x y) := by
    simp only [gw_lt (gw_o1 o2) (gw_o0 o2)]
    split
    · rw [Int.max_def]; congr 1; omega
    · rw [Int.max_def]; congr 1; split <;> omega
  rw [e1]
  exact h ok o1 (gw_oc2 (v := gI (max x y)) (by have a := gw_o0 o2; have b := gw_o1 o2; unfold gw_okV gw_inR at *; omega) o2) o3 H locs lsA hP hS hL
theorem gw_min {mt d QR Γ pc ls stk m} {idx : Nat} {x y : Int} (pc' : Nat) (hd : decode (gw_mC mt) pc = .ok (.invokestatic idx, 3)) (hp : pc + 3 = pc') (hw : Cond.methodLink (gw_mY mt).cls idx Lib.Math.min.name ∈ gw_tb) (hc : Nat.ble 1 d = true) (hst : (stk.map (fun v => gw_nl [some v] 1)).all id = true) (hln : Nat.ble stk.length 8 = true) (h : gw_G mt d QR Γ pc' ls (gI (min x y) :: stk) m) : gw_G mt d QR Γ pc ls (gI y :: gI x :: stk) m := by
  subst hp
  obtain ⟨cx, p, l, e, R, s, mm, args, below, meth, cd, ⟨c0, s0⟩, Q⟩ := Γ
  intro ok o1 o2 o3 H locs lsA hP hS hL
  have hd1 : 1 ≤ d := Nat.le_of_ble_eq_true hc
  have hR := ok.2.2.2.2.2.2.2.2.2.1
  have hsum : ((stk.map (gw_cv cx.2.2.1)).map fun v => v.category).sum ≤ 8 := by
    have h1 : ∀ l : List gw_SV, (l.map (fun v => gw_nl [some v] 1)).all id = true → ((l.map (gw_cv cx.2.2.1)).map fun v => v.category).sum = l.length := by
      intro l
      induction l with
      | nil => intro _; rfl
      | cons a t ih =>
        intro hh
        simp only [List.map_cons, List.all_cons, Bool.and_eq_true, id] at hh
        simp only [List.map_cons, List.sum_cons, List.length_cons]
        rw [ih hh.2, gw_c1 hh.1]
        omega
    rw [h1 stk hst]
    exact Nat.le_of_ble_eq_true hln
  refine va_mmin ok.1 ok.2.1 (by rw [ok.2.2.1, hL.1]) ok.2.2.2.1 (ok.2.2.2.2.1 _ hw) (ok.2.2.2.2.1 _ jS_min) (ok.2.2.2.2.1 _ ini_java_lang_Math) (ok.2.2.2.2.1 _ jC_min) (by omega) (by omega) hR.2.2.1 hR.2.2.2 hd ?_
  have e1 : (if Int32.ofInt y < Int32.ofInt x then Int32.ofInt y else Int32.ofInt x) = Int32.ofInt (min x y) := by
    simp only [gw_lt (gw_o0 o2) (gw_o1 o2)]
    split
    · rw [Int.min_def]; congr 1; split <;> omega
    · rw [Int.min_def]; congr 1; split <;> omega
  rw [e1]
  exact h ok o1 (gw_oc2 (v := gI (min x y)) (by have a := gw_o0 o2; have b := gw_o1 o2; unfold gw_okV gw_inR at *; omega) o2) o3 H locs lsA hP hS hL
theorem gw_cp_at {m : gw_Mem} {o o' : Nat} {a b n : Int} {j : Nat} (ha : 0 ≤ a) (hb : 0 ≤ b) (hn : 0 ≤ n) : va_cpy (fun j : Nat => Int32.ofInt (m o (j : Int))) (fun j : Nat => Int32.ofInt (m o' (j : Int))) a.toNat b.toNat n.toNat j = Int32.ofInt (gw_cp m o a o' b n o' (j : Int)) := by
  unfold va_cpy gw_cp
  by_cases h : b.toNat ≤ j ∧ j < b.toNat + n.toNat
  · rw [if_pos h, if_pos (by omega)]
    have e1 : ((a.toNat + (j - b.toNat) : Nat) : Int) = a + ((j : Int) - b) := by omega
    show Int32.ofInt (m o ((a.toNat + (j - b.toNat) : Nat) : Int)) = _
    rw [e1]
  · rw [if_neg h, if_neg (by omega)]
theorem gw_copy {mt d QR Γ pc ls m} {idx o o' t n n' : Nat} {rs rs' : List (Option Nat)} {a b z : Int} (pc' : Nat) (hd : decode (gw_mC mt) pc = .ok (.invokestatic idx, 3)) (hp : pc + 3 = pc') (hw : Cond.methodLink (gw_mY mt).cls idx arraycopyName ∈ gw_tb) (hc : Nat.ble 1 d = true) (hs : gw_SH[o]? = some (t, n, rs)) (hs' : gw_SH[o']? = some (t, n', rs')) (ht : t = 1 ∨ t = 3) (ha : 0 ≤ a ∧ 0 ≤ b ∧ 0 ≤ z ∧ a + z ≤ (n : Int) ∧ b + z ≤ (n' : Int)) (h : gw_G mt d QR Γ pc' ls [] (gw_cp m o a o' b z)) : gw_G mt d QR Γ pc ls [gI z, gI b, gR o', gI a, gR o] m := by
  subst hp
  obtain ⟨cx, p, l, e, R, s, mm, args, below, meth, cd, ⟨c0, s0⟩, Q⟩ := Γ
  intro ok o1 o2 o3 H locs lsA hP hS hL
  have hd1 : 1 ≤ d := Nat.le_of_ble_eq_true hc
  have hR := ok.2.2.2.2.2.2.2.2.2.1
  have rz : gw_inR z := o2 (gI z) (by simp)
  have rb : gw_inR b := o2 (gI b) (by simp)
  have ra : gw_inR a := o2 (gI a) (by simp)
  have cz := gw_clamp ha.2.2.1 rz
  have cb := gw_clamp ha.2.1 rb
  have ca := gw_clamp ha.1 ra
  have nz : ¬ Int32.ofInt z < 0 := by rw [gw_lt0 rz]; omega
  have nb : ¬ Int32.ofInt b < 0 := by rw [gw_lt0 rb]; omega
  have na : ¬ Int32.ofInt a < 0 := by rw [gw_lt0 ra]; omega
  have hw1 : nativeFrameWords "java/lang/System" "arraycopy" 5 + 11 ≤ 64 := by decide
  have hrl : (([] : List Value).map fun v => v.category).sum + (nativeFrameWords "java/lang/System" "arraycopy" 5 + 11) ≤ R.locals := by
    show 0 + _ ≤ _
    omega
  have okc : gw_okM (gw_cp m o a o' b z) := by
    refine ⟨fun q j => ?_, fun q n2 rs2 hq j => ?_⟩
    · unfold gw_cp
      split
      · exact o3.1 _ _
      · exact o3.1 _ _
    · unfold gw_cp
      split
      · rename_i hh
        rw [hh.1, hs'] at hq
        cases hq
        exact o3.2 _ _ _ hs _
      · exact o3.2 q n2 rs2 hq j
  have hkeep : ∀ q : Nat, q ≠ o' → gw_cp m o a o' b z q = m q := by
    intro q hq
    funext j
    unfold gw_cp
    rw [if_neg (fun hh => hq hh.1)]
  rcases ht with rfl | rfl
  · refine va_copyi (D := cx.1) ok.1 ok.2.1 (by rw [ok.2.2.1, hL.1]) ok.2.2.2.1 (ok.2.2.2.2.1 _ hw) (ok.2.2.2.2.1 _ jN_copy) (ok.2.2.2.2.1 _ jS_copy) (ok.2.2.2.2.1 _ ini_java_lang_System) ok.2.2.2.2.2.1 hP (gw_Wd_D ok.2.2.2.2.2.2.1 m) hS o o' 0 0 (gw_Wd_get hs) (gw_Wd_get hs') rfl rfl rfl na nb nz (by rw [ca, cz]; omega) (by rw [cb, cz]; omega) (fun i hi => rfl) (by omega) hrl hd (fun H1 locs1 hP1 _ hS1 => ?_)
    rw [ca, cb, cz, gw_Wd_set (m' := gw_cp m o a o' b z) hs' (by
      show Sum.inl _ = Sum.inl _
      congr 4
      funext j
      exact gw_cp_at ha.1 ha.2.1 ha.2.2.1) hkeep] at hP1
    exact h ok o1 (fun v hv => by cases hv) okc H1 locs1 lsA hP1 hS1 hL
  · refine va_copyi (D := cx.1) ok.1 ok.2.1 (by rw [ok.2.2.1, hL.1]) ok.2.2.2.1 (ok.2.2.2.2.1 _ hw) (ok.2.2.2.2.1 _ jN_copy) (ok.2.2.2.2.1 _ jS_copy) (ok.2.2.2.2.1 _ ini_java_lang_System) ok.2.2.2.2.2.1 hP (gw_Wd_D ok.2.2.2.2.2.2.1 m) hS o o' 2 2 (gw_Wd_get hs) (gw_Wd_get hs') rfl rfl rfl na nb nz (by rw [ca, cz]; omega) (by rw [cb, cz]; omega) (fun i hi => (gw_bool (o3.2 _ _ _ hs _)).2) (by omega) hrl hd (fun H1 locs1 hP1 _ hS1 => ?_)
    rw [ca, cb, cz, gw_Wd_set (m' := gw_cp m o a o' b z) hs' (by
      show Sum.inl _ = Sum.inl _
      congr 4
      funext j
      exact gw_cp_at ha.1 ha.2.1 ha.2.2.1) hkeep] at hP1
    exact h ok o1 (fun v hv => by cases hv) okc H1 locs1 lsA hP1 hS1 hL
/-! the script, the law's own row -/
def gp_L (cx : gw_Cx) : Int := cx.2.2.2.2 1
def gp_X (cx : gw_Cx) (j : Int) : Int := cx.2.2.2.2 (2 + j.toNat)
def gp_W (Γ : gw_Ga) (i : Int) : Prop := Γ.1.2.2.2.2 0 ≠ 0 ∧ gw_in i 8
theorem gw_alenS {mt d QR} {Γ : gw_Ga} {pc ls stk m} (pc' : Nat) (hd : decode (gw_mC mt) pc = .ok (.arraylength, 1)) (hp : pc + 1 = pc') (h : gw_G mt d QR Γ pc' ls (gI (gp_L Γ.1) :: stk) m) : gw_G mt d QR Γ pc ls (gR 900 :: stk) m := by
  subst hp
  obtain ⟨cx, p, l, e, R, s, mm, args, below, meth, cd, ⟨c0, s0⟩, Q⟩ := Γ
  intro ok o1 o2 o3 H locs lsA hP hS hL
  obtain ⟨hX, hA, hL2, _⟩ := ok.2.2.2.2.2.2.2.1.2.1
  have hbl : cx.2.2.1 900 < s.heap.size := by
    obtain ⟨scr, hc, _⟩ := hX
    exact (Array.getElem?_eq_some_iff.mp hc).1
  have hk := h ok o1 (gw_op (v := gI (gp_L cx)) (by show gw_inR (gp_L cx); unfold gw_inR gp_L; omega) (gw_ot o2)) o3 H locs lsA hP hS hL
  have e1 : Int32.ofNat (cx.2.2.2.2 1).toNat = Int32.ofInt (gp_L cx) := by
    have e2 : gp_L cx = (((cx.2.2.2.2 1).toNat : Nat) : Int) := by unfold gp_L; omega
    rw [e2]
    rfl
  refine va_slen ok.1 ok.2.1 hX hbl hA hS hd ?_
  rw [e1]
  exact hk
theorem gw_ialoadSc {mt d QR} {Γ : gw_Ga} {pc ls stk m} {j : Int} (pc' : Nat) (hd : decode (gw_mC mt) pc = .ok (.iaload, 1)) (hp : pc + 1 = pc') (hj : 0 ≤ j ∧ j < gp_L Γ.1) (h : gw_G mt d QR Γ pc' ls (gI (gp_X Γ.1 j) :: stk) m) : gw_G mt d QR Γ pc ls (gI j :: gR 900 :: stk) m := by
  subst hp
  obtain ⟨cx, p, l, e, R, s, mm, args, below, meth, cd, ⟨c0, s0⟩, Q⟩ := Γ
  intro ok o1 o2 o3 H locs lsA hP hS hL
  obtain ⟨hX, hA, hL2, hr⟩ := ok.2.2.2.2.2.2.2.1.2.1
  have hbl : cx.2.2.1 900 < s.heap.size := by
    obtain ⟨scr, hc, _⟩ := hX
    exact (Array.getElem?_eq_some_iff.mp hc).1
  have hj2 : 0 ≤ j ∧ j < cx.2.2.2.2 1 := hj
  have hk := h ok o1 (gw_op (v := gI (gp_X cx j)) (hr j.toNat) (gw_ot (gw_ot o2))) o3 H locs lsA hP hS hL
  have hi : gw_in j (cx.2.2.2.2 1).toNat := ⟨hj2.1, by omega⟩
  have e1 : (Int32.ofInt j).toNatClampNeg = j.toNat := gw_clamp hi.1 (gw_o0 o2)
  refine va_sld ok.1 ok.2.1 hX hbl hA hS (i := Int32.ofInt j) (gw_vpin hi (gw_o0 o2)) hd ?_
  rw [e1]
  exact hk
theorem gw_wload {mt d QR} {Γ : gw_Ga} {pc ls stk m} {i : Int} (pc' : Nat) (hd : decode (gw_mC mt) pc = .ok (.iaload, 1)) (hp : pc + 1 = pc') (hw : gp_W Γ i) (h : gw_G mt d QR Γ pc' ls (gI (m 117 i) :: stk) m) : gw_G mt d QR Γ pc ls (gI i :: gR 117 :: stk) m := by
  subst hp
  obtain ⟨cx, p, l, e, R, s, mm, args, below, meth, cd, ⟨c0, s0⟩, Q⟩ := Γ
  intro ok o1 o2 o3 H locs lsA hP hS hL
  obtain ⟨hw, hi⟩ := hw
  refine va_iald (D := cx.1) ok.1 ok.2.1 ok.2.2.2.2.2.1 hP 117 0 (gw_Wd_getW hw) rfl (gw_vpin hi (gw_o0 o2)) hd ?_
  rw [gw_idx hi (gw_o0 o2)]
  exact h ok o1 (gw_oc2 (o3.1 117 i) o2) o3 H locs lsA hP hS hL
theorem gw_wstore {mt d QR} {Γ : gw_Ga} {pc ls stk m} {i v : Int} (pc' : Nat) (hd : decode (gw_mC mt) pc = .ok (.iastore, 1)) (hp : pc + 1 = pc') (hw : gp_W Γ i) (h : gw_G mt d QR Γ pc' ls stk (gw_up m 117 i v)) : gw_G mt d QR Γ pc ls (gI v :: gI i :: gR 117 :: stk) m := by
  subst hp
  obtain ⟨cx, p, l, e, R, s, mm, args, below, meth, cd, ⟨c0, s0⟩, Q⟩ := Γ
  intro ok o1 o2 o3 H locs lsA hP hS hL
  obtain ⟨hw, hi⟩ := hw
  refine va_iast (D := cx.1) ok.1 ok.2.1 ok.2.2.2.2.2.1 hP (gw_Wd_D ok.2.2.2.2.2.2.1 m) hS 117 0 (gw_Wd_getW hw) rfl (gw_vpin hi (gw_o1 o2)) hd (fun H1 locs1 hP1 _ hS1 => ?_)
  rw [gw_arr_set (v := v) hi (gw_o1 o2) rfl] at hP1
  have hP1 : va_P cx.1 vwCl (gw_Wd cx (gw_up m 117 i v)) H1 := by
    rw [← gw_Wd_setW (m := m) (m' := gw_up m 117 i v) hw rfl (fun q hq => gw_up_ne hq)]
    exact hP1
  exact h ok o1 (gw_ot (gw_ot (gw_ot o2))) (gw_okM_up o3 (gw_o0 o2) (fun n' rs' h' => absurd (gw_SH_lt h') (by omega))) H1 locs1 lsA hP1 hS1 hL
