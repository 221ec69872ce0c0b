/-! the law's own row is made: the world has one cell more -/
def gl_c1 (cx : gw_Cx) (q : Nat) : gw_Cx := (cx.1, cx.2.1, (fun o => if o = 117 then q else cx.2.2.1 o), cx.2.2.2.1, fun k => if k = 0 then 1 else cx.2.2.2.2 k)
def gl_z1 (m : gw_Mem) : gw_Mem := fun o j => if o = 117 then 0 else m o j
theorem gl_refs : gw_SH.all (fun s => s.2.2.all (fun r => match r with | some q => Nat.blt q 117 | none => true)) = true := by decide +kernel
theorem gl_ref {o : Nat} {s : gw_Shp} (h : gw_SH[o]? = some s) {q : Nat} (hq : some q ∈ s.2.2) : q < 117 := by
  have h1 := List.all_eq_true.mp gl_refs s (List.mem_of_getElem? h)
  have h2 := List.all_eq_true.mp h1 (some q) hq
  simpa [Nat.blt_eq] using h2
theorem gl_cell1 {cx : gw_Cx} {m : gw_Mem} {q o : Nat} {s : gw_Shp} (h : gw_SH[o]? = some s) : gw_cell (gl_c1 cx q) (gl_z1 m) o s = gw_cell cx m o s := by
  have ho := gw_SH_lt h
  have em : gl_z1 m o = m o := by
    funext j
    unfold gl_z1
    rw [if_neg (by omega)]
  have had : ∀ x : Nat, x < 117 → (gl_c1 cx q).2.2.1 x = cx.2.2.1 x := fun x hx => by
    show (if x = 117 then q else cx.2.2.1 x) = _
    rw [if_neg (by omega)]
  obtain ⟨k, n, rs⟩ := s
  unfold gw_cell
  rw [em]
  match k with
  | 0 =>
    show (.inr (n, gw_slots (gl_c1 cx q).2.2.1 (m o) rs) : va_E) = .inr (n, gw_slots cx.2.2.1 (m o) rs)
    congr 2
    unfold gw_slots
    apply List.ext_getElem?
    intro i
    rw [List.getElem?_mapIdx, List.getElem?_mapIdx]
    cases hr : rs[i]? with
    | none => rfl
    | some r =>
      cases r with
      | none => rfl
      | some x =>
        have hx := gl_ref h (q := x) (List.mem_of_getElem? hr)
        show some (Value.ref ((gl_c1 cx q).2.2.1 x)) = some (Value.ref (cx.2.2.1 x))
        rw [had x hx]
  | 1 | 2 | 3 => rfl
  | k + 4 =>
    show (.inl (cx.2.1 (k + 4), n, .inr (.inr (.inr (.inr (fun j => (rs.getD j none).map (gl_c1 cx q).2.2.1))))) : va_E) = .inl (cx.2.1 (k + 4), n, .inr (.inr (.inr (.inr (fun j => (rs.getD j none).map cx.2.2.1)))))
    have e : (fun j => (rs.getD j none).map (gl_c1 cx q).2.2.1) = fun j => (rs.getD j none).map cx.2.2.1 := by
      funext j
      cases hr : rs[j]? with
      | none => rw [List.getD_eq_getElem?_getD, hr]; rfl
      | some r =>
        rw [List.getD_eq_getElem?_getD, hr]
        cases r with
        | none => rfl
        | some x =>
          have hx := gl_ref h (q := x) (List.mem_of_getElem? hr)
          show some ((gl_c1 cx q).2.2.1 x) = some (cx.2.2.1 x)
          rw [had x hx]
    rw [e]
theorem gl_Wd1 {cx : gw_Cx} (h0 : cx.2.2.2.2 0 = 0) (m : gw_Mem) (q : Nat) : gw_Wd (gl_c1 cx q) (gl_z1 m) = gw_Wd cx m ++ [(q, .inl (cx.2.1 1, 8, .inl (fun _ => Int32.ofInt 0)))] := by
  rw [gl_Wd0 h0]
  unfold gw_Wd
  have e0 : gw_W0 (gl_c1 cx q) (gl_z1 m) = gw_W0 cx m := by
    apply List.ext_getElem?
    intro i
    unfold gw_W0
    rw [List.getElem?_mapIdx, List.getElem?_mapIdx]
    cases hs : gw_SH[i]? with
    | none => rfl
    | some s =>
      have ho := gw_SH_lt hs
      show some ((gl_c1 cx q).2.2.1 i, gw_cell (gl_c1 cx q) (gl_z1 m) i s) = some (cx.2.2.1 i, gw_cell cx m i s)
      rw [gl_cell1 hs]
      show some ((if i = 117 then q else cx.2.2.1 i), gw_cell cx m i s) = _
      rw [if_neg (by omega)]
  rw [e0]
  rfl
theorem gl_ap1 {cx : gw_Cx} (h0 : cx.2.2.2.2 0 = 0) (m : gw_Mem) (q : Nat) (hD : va_D (gw_A cx) (gw_Wd cx m ++ [(q, .inl (cx.2.1 1, 8, .inl (fun _ => Int32.ofInt 0)))])) : gw_ap (gl_c1 cx q) := by
  rw [← gl_Wd1 h0 m q] at hD
  have he : gw_ex (gl_c1 cx q) = 1 := by
    unfold gw_ex
    exact if_neg (show ¬ (1 : Int) = 0 by omega)
  have h2 : ∀ i : Nat, i < 117 + 1 → ∃ e : va_E, (gw_Wd (gl_c1 cx q) (gl_z1 m))[i]? = some ((gl_c1 cx q).2.2.1 i, e) := fun i hi => by
    by_cases h : i < 117
    · obtain ⟨s, hs⟩ : ∃ s, gw_SH[i]? = some s := by
        rw [← gw_SHlen] at h
        exact ⟨_, List.getElem?_eq_getElem h⟩
      exact ⟨_, gw_Wd_get hs⟩
    · have e : i = 117 := by omega
      subst e
      exact ⟨_, gw_Wd_getW (show ¬ (1 : Int) = 0 by omega)⟩
  unfold gw_ap
  rw [he]
  refine ⟨fun i j hi hj hij => ?_, fun i hi => ?_⟩
  · obtain ⟨e1, h3⟩ := h2 i hi
    obtain ⟨e2, h4⟩ := h2 j hj
    exact hD.1 i j _ _ h3 h4 hij
  · obtain ⟨e1, h3⟩ := h2 i hi
    exact hD.2 i _ h3
theorem gl_ls1 {cx : gw_Cx} {q nL : Nat} {lsA : Array Slot} {ls : List (Option gw_SV)} (h : gw_ls cx.2.2.1 nL lsA ls) (hn : some (gR 117) ∉ ls) : gw_ls (gl_c1 cx q).2.2.1 nL lsA ls := by
  refine ⟨h.1, h.2.1, h.2.2.1, fun i v hv => ?_⟩
  rw [h.2.2.2 i v hv]
  congr 2
  rcases v with x | x | o
  · rfl
  · rfl
  · show Value.ref (cx.2.2.1 o) = Value.ref (if o = 117 then q else cx.2.2.1 o)
    rw [if_neg (show ¬ o = 117 from fun z => hn (by rw [← z]; exact List.mem_of_getElem? hv))]
theorem gl_okM1 {m : gw_Mem} (h : gw_okM m) : gw_okM (gl_z1 m) := by
  refine ⟨fun o j => ?_, fun o n rs ho j => ?_⟩
  · unfold gl_z1
    split
    · exact gw_in0
    · exact h.1 o j
  · unfold gl_z1
    have hl := gw_SH_lt ho
    rw [if_neg (by omega)]
    exact h.2 o n rs ho j
section GLR
variable {p : Program} {l : Launch} {e : Env} {s : State} {mm : MethodId} {args : Array Value} {below : List Frame} {meth : Method} {c : Code} {Q : State → Prop}
/-- new int[8] in the law -/
theorem gl_newrow {cx : gw_Cx} {d : Nat} {QR : Option gw_SV → gw_Mem → Prop} {ls : List (Option gw_SV)} {m : gw_Mem} (h0 : cx.2.2.2.2 0 = 0) (hn : some (gR 117) ∉ ls)
    (hr : ∀ (q : Nat) (v : Int) (m : gw_Mem) (H : Heap) (locs : List Loc) (lsA : Array Slot) (pc : Nat), QR (some (gI v)) m → gw_inR v → (gw_mR M_X13_law = some .int ∨ gw_mR M_X13_law = some .boolean ∧ gw_b v) → decode (gw_mC M_X13_law) pc = .ok (.ireturn, 1) → va_P cx.1 vwCl (gw_Wd (gl_c1 cx q) m) H → gw_okM m → va_S (gw_A cx) s.heap H locs → W p l e room_1 s mm args below meth c H locs 600000 7302250 Q (F0 mm pc lsA [.int (Int32.ofInt v)]))
    (h : ∀ q : Nat, gw_G M_X13_law d QR (gl_c1 cx q, p, l, e, room_1, s, mm, args, below, meth, c, (600000, 7302250), Q) 33 ls [gR 117] (gl_z1 m)) : gw_G M_X13_law d QR (cx, p, l, e, room_1, s, mm, args, below, meth, c, (117, 5607), Q) 31 ls [gI 8] m := by
  intro ok o1 o2 o3 H locs lsA hP hS hL
  have hR : room_1.frames = 2048 ∧ room_1.locals = 84000 ∧ room_1.cells = 600000 ∧ room_1.slots = 7302250 := ⟨rfl, rfl, rfl, rfl⟩
  have hbase := ok.2.2.2.2.2.2.2.2.1
  refine va_newa (D := cx.1) (cl := vwCl) (A := gw_A cx) (atype := .int) (ty := .int) (N' := 8) (a0 := (8, .inl (fun _ => Int32.ofInt 0))) ok.1 ok.2.1 (ok.2.2.2.2.1 _ arc_int) rfl ok.2.2.2.2.2.1 hP (gw_Wd_D ok.2.2.2.2.2.2.1 m) hS (fun q hq => Nat.le_trans hbase hq) (n := Int32.ofInt 8) (fun cA => rfl) (by decide) rfl (by decide) (by rw [hR.2.2.1]; decide) (by rw [hR.2.2.2]; decide) d_X13_law_31 (fun q cA H1 hK1 hP1 hD1 hS1 => ?_)
  have ec : cA = cx.2.1 1 := gn_cls hK1 0 rfl
  subst ec
  have hap := gl_ap1 h0 m q hD1
  rw [← gl_Wd1 h0 m q] at hP1
  refine W.widen (by decide) (by decide) (h q ⟨ok.1, ok.2.1, ok.2.2.1, ok.2.2.2.1, ok.2.2.2.2.1, ok.2.2.2.2.2.1, hap, ?_, hbase, ⟨ok.2.2.2.2.2.2.2.2.2.1.1, ok.2.2.2.2.2.2.2.2.2.1.2.1, Nat.le_refl _, Nat.le_refl _⟩, hr q, ?_⟩ o1 (fun v hv => ?_) (gl_okM1 o3) H1 locs lsA hP1 hS1 (gl_ls1 hL hn))
  · refine gl_Stat ok.2.2.2.2.2.2.2.1 rfl (fun o ho => ?_) (fun k hk => ?_)
    · show (if o = 117 then q else cx.2.2.1 o) = _
      rw [if_neg (by omega)]
    · show (if k = 0 then (1 : Int) else cx.2.2.2.2 k) = _
      rw [if_neg (by omega)]
  · intro m1 H1 locs1 lsB pc hq hret
    cases hret
  · rcases List.mem_cons.mp hv with rfl | hv
    · trivial
    · cases hv
end GLR
