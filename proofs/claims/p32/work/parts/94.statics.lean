/-! what the law's start gives: classes, static arrays, the script -/
theorem gs_arr (n : String) (l : List Int) {args : Array Value} {s : State} {A : Nat → Prop} (hlay : (Cond.laysStatic "FlagWalk" n "[I").before args s = true) (hini : (Cond.initialized "FlagWalk").before args s = true) (harr : (Cond.arrayOf (.static "FlagWalk" n "[I") .int).before args s = true) (hN : l.length < 2 ^ 31) (hlen : (Cond.eq (.length (.static "FlagWalk" n "[I")) (.int (Int32.ofNat l.length))).before args s = true)
    (hel : ∀ j : Nat, j < l.length → (Cond.eq (.elem (.static "FlagWalk" n "[I") (.int (Int32.ofNat j))) (.int (Int32.ofInt (l.getD j 0)))).before args s = true) (hA : ∀ a : Nat, a < s.heap.size → ¬ A a) : ∃ t : Nat, (Term.static "FlagWalk" n "[I").eval args s none [] s = some (.ref t) ∧ va_Z "FlagWalk" n "[I" (.ref t) A s s.heap ∧ va_T .int t l.length (fun j => .int (Int32.ofInt (l.getD j 0))) A s s.heap := by
  obtain ⟨t, ht, hT⟩ := va_Tof (f := fun j => .int (Int32.ofInt (l.getD j 0))) hN harr (va_eqt hlen) (fun j hj => va_eqt (hel j hj)) hA
  exact ⟨t, ht, va_Zof hlay hini ht hA, hT⟩
theorem gs_size {args : Array Value} {s : State} {tm : Term} {t : Nat} {cell : Cell} (h : (Term.length tm).eval args s none [] s = some (.int 5)) (ht : tm.eval args s none [] s = some (.ref t)) (hc : s.heap[t]? = some cell) : cell.slots.size = 5 := by
  simp only [Term.eval, Option.bind_eq_bind] at h
  rw [ht] at h
  simp only [Option.bind_some] at h
  obtain ⟨cell2, hcell, h⟩ := Option.bind_eq_some_iff.mp h
  obtain ⟨h1, -⟩ := State.arrayAt?_spec hcell
  cases hc.symm.trans h1
  by_cases hn : cell.slots.size < 2147483648
  · rw [if_pos hn] at h
    have h2 : cell.slots.size.toInt32 = 5 := by
      have h3 := Option.some.inj h
      exact Value.int.inj h3
    have h3 : (Int32.ofNat cell.slots.size).toInt = (5 : Int32).toInt := congrArg Int32.toInt h2
    rw [Int32.toInt_ofNat_of_lt (by omega)] at h3
    have h4 : (5 : Int32).toInt = 5 := by decide
    omega
  · rw [if_neg hn] at h
    cases h
theorem gs_Nw {args : Array Value} {s : State} {w : Cond} (ho : w.onTables = true) (h : w.before args s = true) : va_Nw w s := va_tabs ho rfl h
theorem gs_arrK {s : State} {c : ClassId} {k : Class} {comp : ClassId} {ty : FieldType} (hk : s.vm.classes[c]? = some k) (hkind : k.kind = .array comp ty) : ArrOfT s c ty := fun _ _ => ⟨(fun q hq => by cases hq), k, hk, comp, hkind⟩
def gs_D (c : List ClassId) (i : List (Nat → Nat)) : va_G := (fun k => c.getD k 0, fun k => i.getD k (fun _ => 0))
theorem gs_all {args : Array Value} {s : State} {b L : Nat} {xs : Nat → Int32} (hX : va_X b L xs s s.heap) (hbl : b < s.heap.size) (hL : L ≤ 260) (hts : ∀ w ∈ lw_tbl, w.before args s = true) (hg : (Cond.and given_1 narrow_1).before args s = true) : ∃ cx : gw_Cx, cx.2.2.2.1 = s.heap.size ∧ cx.2.2.1 900 = b ∧ cx.2.2.2.2 0 = 0 ∧ va_K cx.1 vwCl (gw_ty cx) s ∧ gn_St cx s s.heap := by
  have hf := flat_of_before _ hg
  have htb := gw_tb_hts hts
  obtain ⟨c0, i0, k0⟩ := u_known htb inX0 (htb _ inst_0)
  obtain ⟨c1, i1, k1⟩ := u_known htb inX1 (htb _ inst_1)
  obtain ⟨c2, i2, k2⟩ := u_known htb inX2 (htb _ inst_2)
  obtain ⟨c3, i3, k3⟩ := u_known htb inX3 (htb _ inst_3)
  obtain ⟨c4, i4, k4⟩ := u_known htb inX4 (htb _ inst_4)
  obtain ⟨c5, i5, k5⟩ := u_known htb inX5 (htb _ inst_5)
  obtain ⟨c6, i6, k6⟩ := u_known htb inX6 (htb _ inst_6)
  obtain ⟨c7, i7, k7⟩ := u_known htb inX7 (htb _ inst_7)
  obtain ⟨c8, i8, k8⟩ := u_known htb inX8 (htb _ inst_8)
  obtain ⟨c9, i9, k9⟩ := u_known htb inX9 (htb _ inst_9)
  obtain ⟨c10, i10, k10⟩ := u_known htb inX10 (htb _ inst_10)
  obtain ⟨c11, i11, k11⟩ := u_known htb inX11 (htb _ inst_11)
  obtain ⟨a1, ka1, m1, f1, g1, e1⟩ := Cond.arrayClass_spec (htb _ arc_int)
  obtain ⟨a2, ka2, m2, f2, g2, e2⟩ := Cond.arrayClass_spec (htb _ arc_byte)
  obtain ⟨a3, ka3, m3, f3, g3, e3⟩ := Cond.arrayClass_spec (htb _ arc_boolean)
  have w4 : (Cond.arrayOver (.array .int)).before args s = true := hts _ (by decide +kernel)
  have w5 : (Cond.arrayOver (.object "FlagWalk$Sheet")).before args s = true := hts _ (by decide +kernel)
  obtain ⟨m4, a4, ka4, f4, -, g4, e4, h4⟩ := Jvm.Stand.arrayOver_specB w4
  obtain ⟨m5, a5, ka5, f5, -, g5, e5, h5⟩ := Cond.arrayOver_spec w5
  have hA : ∀ a : Nat, a < s.heap.size → ¬ (s.heap.size ≤ a) := fun a h => by omega
  have hini : (Cond.initialized "FlagWalk").before args s = true := hts _ (by decide +kernel)
  obtain ⟨t0, -, z0, y0⟩ := gs_arr "SHORTEST" [1, 2, 1, 1] (hts _ (by decide +kernel)) hini (hf _ (by decide +kernel)) (by decide) (hf _ (by decide +kernel)) (fun j hj => match j, hj with | 0, _ => hf _ (by decide +kernel) | 1, _ => hf _ (by decide +kernel) | 2, _ => hf _ (by decide +kernel) | 3, _ => hf _ (by decide +kernel) | k + 4, h => absurd h (by show ¬ k + 4 < 4; omega)) hA
  obtain ⟨t1, -, z1, y1⟩ := gs_arr "LONGEST" [20, 20, 20, 50] (hts _ (by decide +kernel)) hini (hf _ (by decide +kernel)) (by decide) (hf _ (by decide +kernel)) (fun j hj => match j, hj with | 0, _ => hf _ (by decide +kernel) | 1, _ => hf _ (by decide +kernel) | 2, _ => hf _ (by decide +kernel) | 3, _ => hf _ (by decide +kernel) | k + 4, h => absurd h (by show ¬ k + 4 < 4; omega)) hA
  obtain ⟨t2, -, z2, y2⟩ := gs_arr "LEAST_RULES" [1, 0, 0, 0, 1] (hts _ (by decide +kernel)) hini (hf _ (by decide +kernel)) (by decide) (hf _ (by decide +kernel)) (fun j hj => match j, hj with | 0, _ => hf _ (by decide +kernel) | 1, _ => hf _ (by decide +kernel) | 2, _ => hf _ (by decide +kernel) | 3, _ => hf _ (by decide +kernel) | 4, _ => hf _ (by decide +kernel) | k + 5, h => absurd h (by show ¬ k + 5 < 5; omega)) hA
  obtain ⟨t3, -, z3, y3⟩ := gs_arr "MOST_RULES" [4, 10, 9, 30, 20] (hts _ (by decide +kernel)) hini (hf _ (by decide +kernel)) (by decide) (hf _ (by decide +kernel)) (fun j hj => match j, hj with | 0, _ => hf _ (by decide +kernel) | 1, _ => hf _ (by decide +kernel) | 2, _ => hf _ (by decide +kernel) | 3, _ => hf _ (by decide +kernel) | 4, _ => hf _ (by decide +kernel) | k + 5, h => absurd h (by show ¬ k + 5 < 5; omega)) hA
  obtain ⟨t4, v4, z4, y4⟩ := gs_arr "FIRST_RULES" [2, 5, 0, 10, 3] (hts _ (by decide +kernel)) hini (hf _ (by decide +kernel)) (by decide) (hf _ (by decide +kernel)) (fun j hj => match j, hj with | 0, _ => hf _ (by decide +kernel) | 1, _ => hf _ (by decide +kernel) | 2, _ => hf _ (by decide +kernel) | 3, _ => hf _ (by decide +kernel) | 4, _ => hf _ (by decide +kernel) | k + 5, h => absurd h (by show ¬ k + 5 < 5; omega)) hA
  have hex : (Cond.exactly (.static "FlagWalk" "FIRST_RULES" "[I") "[I").before args s = true := hf _ (by decide +kernel)
  obtain ⟨ax, cxx, cell, kx, ex1, ex2, ex3, ex4, ex5, ex6, -⟩ := Cond.exactly_spec hex
  cases Value.ref.inj (Option.some.inj (v4.symm.trans ex1))
  have hsz : cell.slots.size = 5 := gs_size (va_eqt (hf _ (by decide +kernel))) v4 ex3
  refine ⟨(gs_D [c0, c1, c2, c3, c4, c5, c6, c7, c8, c9, c10, c11] [i0, i1, i2, i3, i4, i5, i6, i7, i8, i9, i10, i11], (fun k => [0, a1, a2, a3, a4, a5].getD k 0), (fun o => if o = 900 then b else [t0, t1, t2, t3, t4].getD (o - 1000) 0), s.heap.size, (fun k => if k = 0 then 0 else if k = 1 then (L : Int) else (xs (k - 2)).toInt)), rfl, rfl, rfl, ⟨fun c q hq => ?_, fun k q hq => ?_⟩, ⟨fun i hi => ?_, ?_, ?_, ?_⟩, ?_, ?_, w5, ?_⟩
  · match c, hq with
    | 0, hq => cases hq; exact k0
    | 1, hq => cases hq; exact k1
    | 2, hq => cases hq; exact k2
    | 3, hq => cases hq; exact k3
    | 4, hq => cases hq; exact k4
    | 5, hq => cases hq; exact k5
    | 6, hq => cases hq; exact k6
    | 7, hq => cases hq; exact k7
    | 8, hq => cases hq; exact k8
    | 9, hq => cases hq; exact k9
    | 10, hq => cases hq; exact k10
    | 11, hq => cases hq; exact k11
    | n + 12, hq => cases hq
  · match k, hq with
    | 0, hq => cases hq; exact ⟨gs_arrK g1 e1, f1⟩
    | 1, hq => cases hq; exact ⟨gs_arrK g2 e2, f2⟩
    | 2, hq => cases hq; exact ⟨gs_arrK g3 e3, f3⟩
    | 3, hq => cases hq; exact ⟨gs_arrK g4 e4, h4⟩
    | 4, hq => cases hq; exact ⟨gs_arrK g5 e5, ka5, m5, g5, e5, f5, h5⟩
    | n + 5, hq => cases hq
  · match i, hi with
    | 0, _ => exact ⟨z0, y0⟩
    | 1, _ => exact ⟨z1, y1⟩
    | 2, _ => exact ⟨z2, y2⟩
    | 3, _ => exact ⟨z3, y3⟩
    | 4, _ => exact ⟨z4, y4⟩
    | n + 5, h => exact absurd h (by omega)
  · have e : (fun j : Nat => Int32.ofInt (if 2 + j = 0 then 0 else if 2 + j = 1 then (L : Int) else (xs (2 + j - 2)).toInt)) = xs := by
      funext j
      rw [if_neg (by omega), if_neg (by omega), show 2 + j - 2 = j by omega, Int32.ofInt_toInt]
    refine ⟨?_, (fun h => ?_), ⟨Int.natCast_nonneg L, by show (L : Int) ≤ 260; omega⟩, fun j => ?_⟩
    · show va_X b L (fun j : Nat => Int32.ofInt (if 2 + j = 0 then 0 else if 2 + j = 1 then (L : Int) else (xs (2 + j - 2)).toInt)) s s.heap
      rw [e]
      exact hX
    · have h2 : s.heap.size ≤ b := h
      omega
    · show gw_inR (if 2 + j = 0 then 0 else if 2 + j = 1 then (L : Int) else (xs (2 + j - 2)).toInt)
      rw [if_neg (by omega), if_neg (by omega)]
      exact gw_rng _
  · intro q hq
    exact gs_Nw rfl (hts _ (gw_nwM_in q hq))
  · intro q hq
    exact gs_Nw rfl (hts _ (gw_nwF_in q hq))
  · have hcls : cell.cls = a1 := by
      rw [ex6]
      exact Option.some.inj (ex2.symm.trans f1)
    obtain ⟨cell2, q1, q2, q3, q4, q5, q6, q7⟩ := y4
    cases ex3.symm.trans q1
    exact ⟨cell, ex3, hcls, (fun k hk => by rw [hk] at ex5; cases ex5), q3, hsz, fun j hj => q6 j hj, q7⟩
  · exact gs_Nw rfl (hts _ (by decide +kernel))
  · exact w4
