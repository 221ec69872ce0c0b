/-! constructors: arrays of arrays and of objects, clone, calls, the entry -/
/-- an array of these ints -/
def gn_ar (l : List Int) : Nat → Int32 := fun j => Int32.ofInt (l.getD j 0)
theorem gn_ar_z (n : Nat) : (fun _ => Int32.ofInt 0 : Nat → Int32) = gn_ar (List.replicate n 0) := by
  funext j
  unfold gn_ar
  congr 1
  rw [List.getD_eq_getElem?_getD, List.getElem?_replicate]
  split <;> rfl
theorem gn_ar_upd {l : List Int} {k : Nat} {v : Int} (h : k < l.length) : upd (gn_ar l) k (Int32.ofInt v) = gn_ar (l.set k v) := by
  funext j
  unfold gn_ar
  by_cases hj : j = k
  · subst hj
    rw [pk_us, List.getD_eq_getElem?_getD, List.getElem?_set_self h]
    rfl
  · rw [pk_un hj, List.getD_eq_getElem?_getD, List.getD_eq_getElem?_getD, List.getElem?_set_ne (fun z => hj z.symm)]
def gn_rs (l : List (Option Nat)) : Nat → Option Nat := fun j => l.getD j none
theorem gn_rs_upd {l : List (Option Nat)} {k : Nat} {v : Option Nat} (h : k < l.length) : va_up (gn_rs l) k v = gn_rs (l.set k v) := by
  funext j
  unfold gn_rs va_up
  by_cases hj : j = k
  · subst hj
    rw [if_pos rfl, List.getD_eq_getElem?_getD, List.getElem?_set_self h]
    rfl
  · rw [if_neg hj]
    show l.getD j none = (l.set k v).getD j none
    rw [List.getD_eq_getElem?_getD, List.getD_eq_getElem?_getD, List.getElem?_set_ne (fun z => hj z.symm)]
def gn_qa (cA : ClassId) (l : List (Option Nat)) : va_E := .inl (cA, l.length, .inr (.inr (.inr (.inr (gn_rs l)))))
def gn_ia (cA : ClassId) (l : List Int) : va_E := .inl (cA, l.length, .inl (gn_ar l))
theorem gn_outer (c : ClassId) (N h0 : Nat) : ∀ i : Nat, Jvm.Free.Multi.outerC c N h0 i = arrV c N (fun j => va_rf (if j < i then some (h0 + 1 + j) else none))
  | 0 => by
    show ({ cls := c, slots := Array.replicate N .null, vm := .none } : Cell) = _
    rw [arrV_new]
    refine congrArg (arrV c N) (funext fun j => ?_)
    simp [va_rf]
  | i + 1 => by
    show (Jvm.Free.Multi.outerC c N h0 i).setSlot i (.ref (h0 + 1 + i)) = _
    rw [gn_outer c N h0 i, arrV_store]
    refine congrArg (arrV c N) (funext fun j => ?_)
    by_cases e : j = i
    · subst e
      simp [updV, va_rf]
    · by_cases h : j < i
      · simp [updV, e, h, Nat.lt_succ_of_lt h]
      · simp [updV, e, h, show ¬ j < i + 1 by omega]
theorem gn_five {h : Nat} {e0 e1 e2 e3 e4 : va_E} {i : Nat} {p : Nat × va_E} (hp : [(h, e0), (h + 1 + 0, e1), (h + 1 + 1, e2), (h + 1 + 2, e3), (h + 1 + 3, e4)][i]? = some p) : i < 5 ∧ p.1 = h + i := by
  match i, hp with
  | 0, hp => cases hp; exact ⟨by omega, rfl⟩
  | 1, hp => cases hp; exact ⟨by omega, by show h + 1 + 0 = h + 1; omega⟩
  | 2, hp => cases hp; exact ⟨by omega, by show h + 1 + 1 = h + 2; omega⟩
  | 3, hp => cases hp; exact ⟨by omega, by show h + 1 + 2 = h + 3; omega⟩
  | 4, hp => cases hp; exact ⟨by omega, by show h + 1 + 3 = h + 4; omega⟩
  | k + 5, hp => cases hp
section GNR2
variable {cx : gw_Cx} {K : gn_K} {Γ : gn_Ga} {pc : Nat} {ls ls' : List (Option gw_SV)} {stk : List gw_SV} {V T0 ch ch' : va_W} {c0 s0 h0 ci : Nat} {fs fs' : List Value}
/-- an int put into an array -/
theorem gn_iast {i q n : Nat} {j x : Int} {f : Nat → Int32} {l l' : List Int} (pc' : Nat) (hd : decode (gw_mC K.1) pc = .ok (.iastore, 1)) (hp : pc + 1 = pc') (ha : ch[i]? = some (q, .inl (cx.2.1 1, n, .inl f))) (hf : f = gn_ar l) (hj : gw_in j n) (hl : l.length = n) (hj2 : j < 4000) (hn4 : n ≤ 4000) (hl' : l.set j.toNat x = l') (hch : ch.set i (q, .inl (cx.2.1 1, n, .inl (gn_ar l'))) = ch')
    (h : gn_G cx K Γ pc' ls stk (gn_V T0 h0 ci fs ch') c0 s0) : gn_G cx K Γ pc ls (gI x :: gI j :: gR q :: stk) (gn_V T0 h0 ci fs ch) c0 s0 := by
  subst hp; subst hf; subst hl'
  obtain ⟨p, l, e, R, s, mm, args, below, meth, c, Q⟩ := Γ
  intro ok H locs lsA hP hD hS hL
  have hr : gw_inR j := by unfold gw_inR; have := hj.1; omega
  have h1 := gw_clamp hj.1 hr
  have h2 : j.toNat < n := by have := hj.1; have := hj.2; omega
  refine va_iast (D := cx.1) ok.1 ok.2.1 ok.2.2.2.2.2.1 hP hD hS (T0.length + 1 + i) 0 (gn_V_ch ha) rfl (i := Int32.ofInt j) (x := Int32.ofInt x) (gw_vpin hj hr) hd (fun H1 locs1 hP1 hD1 hS1 => ?_)
  rw [h1, gn_ar_upd (by omega), gn_V_chset hch] at hP1 hD1
  exact h ok H1 locs1 lsA hP1 hD1 hS1 hL
/-- anewarray of sheets -/
theorem gn_newq {idx : Nat} (pc' : Nat) (hd : decode (gw_mC K.1) pc = .ok (.anewarray idx, 3)) (hp : pc + 3 = pc') (hcl : Cond.classLink (gw_mY K.1).cls idx "FlagWalk$Sheet" ∈ gw_tb) (hc : Nat.ble (c0 + 1) K.2.2.1 = true) (hs : Nat.ble (s0 + 4) K.2.2.2.1 = true)
    (h : ∀ (q : Nat) (C1 : va_W), C1 = ch → gn_G cx K Γ pc' ls (gR q :: stk) (gn_V T0 h0 ci fs (C1 ++ (q, gn_qa (cx.2.1 5) [none, none, none, none]) :: [])) (c0 + 1) (s0 + 4)) : gn_G cx K Γ pc ls (gI 4 :: stk) (gn_V T0 h0 ci fs ch) c0 s0 := by
  subst hp
  obtain ⟨p, l, e, R, s, mm, args, below, meth, c, Q⟩ := Γ
  intro ok H locs lsA hP hD hS hL
  have hR := ok.2.2.2.2.2.2.2.2.1
  have hbase := ok.2.2.2.2.2.2.2.1
  have h2 := Nat.le_of_ble_eq_true hc
  have h3 := Nat.le_of_ble_eq_true hs
  refine va_newq (D := cx.1) ok.1 ok.2.1 ok.2.2.2.1 (ok.2.2.2.2.1 _ hcl) ok.2.2.2.2.2.2.1.2.2.2.1 ok.2.2.2.2.2.1 hP hD hS (fun q hq => Nat.le_trans hbase hq) (n := Int32.ofInt 4) (N' := 4) (by decide) (by decide) (by omega) (by omega) (by omega) hd (fun q cB H1 hK1 hP1 hD1 hS1 => ?_)
  have e1 := gn_cls hK1 4 (c1 := cx.2.1 5) rfl
  subst e1
  have e3 : (fun _ => none : Nat → Option Nat) = gn_rs [none, none, none, none] := by
    funext j
    unfold gn_rs
    match j with
    | 0 | 1 | 2 | 3 => rfl
    | j + 4 => rfl
  have e2 := gn_V_app T0 h0 ci fs ch [(q, gn_qa (cx.2.1 5) [none, none, none, none])]
  refine h q ch rfl ok H1 locs lsA ?_ ?_ hS1 hL
  · rw [← e2]
    unfold gn_qa
    rw [← e3]
    exact hP1
  · rw [← e2]
    unfold gn_qa
    rw [← e3]
    exact hD1
/-- a sheet put into the array of sheets -/
theorem gn_aast {iv q v : Nat} {j : Int} {vs : List Value} {l l' : List (Option Nat)} {C1 : va_W} (C2 : va_W) (pc' : Nat) (hd : decode (gw_mC K.1) pc = .ok (.aastore, 1)) (hp : pc + 1 = pc') (hc : ch = C1 ++ (q, gn_qa (cx.2.1 5) l) :: C2) (hv : C2[iv]? = some (v, .inr (7, vs))) (hj : gw_in j 4) (hl : l.length = 4) (hl' : l.set j.toNat (some v) = l')
    (h : gn_G cx K Γ pc' ls stk (gn_V T0 h0 ci fs (C1 ++ (q, gn_qa (cx.2.1 5) l') :: C2)) c0 s0) : gn_G cx K Γ pc ls (gR v :: gI j :: gR q :: stk) (gn_V T0 h0 ci fs ch) c0 s0 := by
  subst hp; subst hl'; subst hc
  obtain ⟨p, l9, e, R, s, mm, args, below, meth, c, Q⟩ := Γ
  intro ok H locs lsA hP hD hS hL
  have hr : gw_inR j := by unfold gw_inR; have := hj.1; have := hj.2; omega
  have h1 := gw_clamp hj.1 hr
  have h2 : j.toNat < 4 := by have := hj.1; have := hj.2; omega
  have ha : (C1 ++ (q, gn_qa (cx.2.1 5) l) :: C2)[C1.length]? = some (q, gn_qa (cx.2.1 5) l) := by
    rw [List.getElem?_append_right (Nat.le_refl _), Nat.sub_self]
    rfl
  have hv1 : (C1 ++ (q, gn_qa (cx.2.1 5) l) :: C2)[C1.length + 1 + iv]? = some (v, .inr (7, vs)) := by
    rw [List.getElem?_append_right (by omega), show C1.length + 1 + iv - C1.length = iv + 1 by omega]
    exact hv
  have hch : ∀ y : Nat × va_E, (C1 ++ (q, gn_qa (cx.2.1 5) l) :: C2).set C1.length y = C1 ++ y :: C2 := fun y => by
    rw [List.set_append_right _ _ (Nat.le_refl _), Nat.sub_self]
    rfl
  have eqa : (q, gn_qa (cx.2.1 5) l) = ((q, .inl (cx.2.1 5, 4, .inr (.inr (.inr (.inr (gn_rs l)))))) : Nat × va_E) := by
    unfold gn_qa
    rw [hl]
  have ha2 := (gn_V_ch (T0 := T0) (h0 := h0) (ci := ci) (fs := fs) ha).trans (congrArg some eqa)
  obtain ⟨r7, hr7, hr8⟩ : ∃ r : vw_C, vwCl[7]? = some r ∧ r.1 = "FlagWalk$Sheet" := ⟨_, rfl, rfl⟩
  refine va_astq (D := cx.1) (r := r7) ok.1 ok.2.1 ok.2.2.2.2.2.1 hP hD hS (T0.length + 1 + C1.length) 4 (T0.length + 1 + (C1.length + 1 + iv)) 7 ha2 (by rw [hr8]; rfl) (gn_V_ch hv1) hr7 (i := Int32.ofInt j) (gw_vpin hj hr) hd (fun H1 locs1 hP1 hD1 hS1 => ?_)
  have e9 : (.inl (cx.2.1 5, 4, .inr (.inr (.inr (.inr (va_up (gn_rs l) (Int32.ofInt j).toNatClampNeg (some v)))))) : va_E) = gn_qa (cx.2.1 5) (l.set j.toNat (some v)) := by
    unfold gn_qa
    rw [h1, gn_rs_upd (by omega), List.length_set, hl]
  rw [e9, gn_V_chset (hch _)] at hP1 hD1
  exact h ok H1 locs1 lsA hP1 hD1 hS1 hL
/-- the same world, written otherwise -/
theorem gn_eq {ch' : va_W} (he : ch = ch') (h : gn_G cx K Γ pc ls stk (gn_V T0 h0 ci fs ch') c0 s0) : gn_G cx K Γ pc ls stk (gn_V T0 h0 ci fs ch) c0 s0 := by
  subst he
  exact h
/-- new int[4][8] -/
theorem gn_mna {idx : Nat} (pc' : Nat) (hd : decode (gw_mC K.1) pc = .ok (.multianewarray idx 2, 4)) (hp : pc + 4 = pc') (hcl : Cond.classLink (gw_mY K.1).cls idx "[[I" ∈ gw_tb) (hc : Nat.ble (c0 + 5) K.2.2.1 = true) (hs : Nat.ble (s0 + 36) K.2.2.2.1 = true)
    (h : ∀ q r0 r1 r2 r3 : Nat, gn_G cx K Γ pc' ls (gR q :: stk) (gn_V T0 h0 ci fs (ch ++ [(q, gn_qa (cx.2.1 4) [some r0, some r1, some r2, some r3]), (r0, gn_z (cx.2.1 1) 8), (r1, gn_z (cx.2.1 1) 8), (r2, gn_z (cx.2.1 1) 8), (r3, gn_z (cx.2.1 1) 8)])) (c0 + 5) (s0 + 36)) : gn_G cx K Γ pc ls (gI 8 :: gI 4 :: stk) (gn_V T0 h0 ci fs ch) c0 s0 := by
  subst hp
  obtain ⟨p, l, e, R, s, mm, args, below, meth, c, Q⟩ := Γ
  intro ok H locs lsA hP hD hS hL
  have hR := ok.2.2.2.2.2.2.2.2.1
  have hbase := ok.2.2.2.2.2.2.2.1
  have hSt := ok.2.2.2.2.2.2.1
  have h3 := Nat.le_of_ble_eq_true hc
  have h4 := Nat.le_of_ble_eq_true hs
  have g1 : s.vm.findClass (FieldType.array .int).toString = some (cx.2.1 1) := gn_RA (ok.2.2.2.2.2.1.2 0 (cx.2.1 1, .int) rfl).2
  have g4 := gn_RA (ok.2.2.2.2.2.1.2 3 (cx.2.1 4, .array .int) rfl).2
  have n4 : (Int32.ofInt 4).toNatClampNeg = 4 := by decide
  have n8 : (Int32.ofInt 8).toNatClampNeg = 8 := by decide
  intro T hT X
  obtain ⟨vm₁, cA, comp, -, fA, fC, hO, -, X', step⟩ := X.multianewarray2F ok.1 (own := (gw_mY K.1).cls) (index := idx) (ty := .int) ok.2.2.2.1 (by rw [show ("[" ++ (FieldType.array .int).toString) = "[[I" by decide]; exact ok.2.2.2.2.1 _ hcl) hSt.2.2.2.2 (ok.2.2.2.2.1 _ arc_int) (g := F0 mm pc lsA (.int (Int32.ofInt 8) :: .int (Int32.ofInt 4) :: stk.map (gw_cv gn_id))) rfl (by rw [ok.2.1]; exact hd) rfl (by decide) (by decide) (by rw [n4]; decide) (by rw [n8]; decide) (by rw [n8]; decide) rfl rfl (by rw [n4]; omega) (by rw [n4, n8]; omega)
  cases g1.symm.trans fC
  cases g4.symm.trans fA
  rw [n4, n8] at X' step
  generalize hF : Jvm.Free.Multi.fill (T.setVm vm₁) (cx.2.1 4) (cx.2.1 1) 4 8 (defaultValue .int) 4 = F at X' step
  have hTh : (T.setVm vm₁).heap = H := hT
  obtain ⟨f1, f2, -, -⟩ := Jvm.Free.Multi.fill_facts (T.setVm vm₁) (cx.2.1 4) (cx.2.1 1) 4 8 (defaultValue .int) 4
  rw [hF, hTh] at f1 f2
  have hold : ∀ x : Nat, x < H.size → F.heap[x]? = H[x]? := fun x hx => by
    have := Jvm.Free.Multi.fill_old (T.setVm vm₁) (cx.2.1 4) (cx.2.1 1) 4 8 (defaultValue .int) (a := x) (by rw [hTh]; exact hx) 4
    rw [hF, hTh] at this
    exact this
  have hz : Jvm.Free.Multi.innerC (cx.2.1 1) 8 (defaultValue .int) = vp_cell (cx.2.1 1) (8, .inl (fun _ => Int32.ofInt 0)) := by
    show ({ cls := _, slots := Array.replicate 8 (.int 0), vm := .none } : Cell) = arrV _ 8 (fun _ => .int (Int32.ofInt 0))
    rw [arrV_new]
    rfl
  have hrow : ∀ j : Nat, j < 4 → F.heap[H.size + 1 + j]? = some (vp_cell (cx.2.1 1) (8, .inl (fun _ => Int32.ofInt 0))) := fun j hj => by
    have := Jvm.Free.Multi.fill_inner (T.setVm vm₁) (cx.2.1 4) (cx.2.1 1) 4 8 (defaultValue .int) 4 j hj
    rw [hF, hTh, hz] at this
    exact this
  have hout : Jvm.Free.Multi.outerC (cx.2.1 4) 4 H.size 4 = vp_cell (cx.2.1 4) (4, .inr (.inr (.inr (.inr (gn_rs [some (H.size + 1 + 0), some (H.size + 1 + 1), some (H.size + 1 + 2), some (H.size + 1 + 3)]))))) := by
    rw [vp_cell_q, gn_outer]
    congr 1
    funext j
    match j with
    | 0 | 1 | 2 | 3 => rfl
    | j + 4 => rw [if_neg (by omega)]; rfl
  rw [hout] at f2
  generalize hb : H.size = b at f1 f2 hrow hold
  have hP1 : va_P cx.1 vwCl (gn_V T0 h0 ci fs ch ++ [(b, gn_qa (cx.2.1 4) [some (b + 1 + 0), some (b + 1 + 1), some (b + 1 + 2), some (b + 1 + 3)]), (b + 1 + 0, gn_z (cx.2.1 1) 8), (b + 1 + 1, gn_z (cx.2.1 1) 8), (b + 1 + 2, gn_z (cx.2.1 1) 8), (b + 1 + 3, gn_z (cx.2.1 1) 8)]) F.heap := (hP.kept (fun k y hy => hold y.1 (by rw [← hb]; exact (hP k y hy).lt))).app (fun k y hy => by
    match k, hy with
    | 0, hy => cases hy; exact f2
    | 1, hy => cases hy; exact hrow 0 (by omega)
    | 2, hy => cases hy; exact hrow 1 (by omega)
    | 3, hy => cases hy; exact hrow 2 (by omega)
    | 4, hy => cases hy; exact hrow 3 (by omega)
    | k + 5, hy => cases hy)
  have hS1 : va_S (gw_A cx) s.heap F.heap locs := ⟨by have := hS.1; omega, fun y h1 h2 => (hold y (by have := hS.1; omega)).trans (hS.2.1 y h1 h2), hS.2.2⟩
  have hAb : gw_A cx b := by
    show cx.2.2.2.1 ≤ b
    have := hS.1
    omega
  have hD1 : va_D (gw_A cx) (gn_V T0 h0 ci fs ch ++ [(b, gn_qa (cx.2.1 4) [some (b + 1 + 0), some (b + 1 + 1), some (b + 1 + 2), some (b + 1 + 3)]), (b + 1 + 0, gn_z (cx.2.1 1) 8), (b + 1 + 1, gn_z (cx.2.1 1) 8), (b + 1 + 2, gn_z (cx.2.1 1) 8), (b + 1 + 3, gn_z (cx.2.1 1) 8)]) := by
    refine va_D.app hD ⟨fun i j x y hx hy hxy => ?_, fun k x hx => ?_⟩ (fun i j x y hx hy hxy => ?_)
    · have := (gn_five hx).2
      have := (gn_five hy).2
      omega
    · show cx.2.2.2.1 ≤ x.1
      have h9 : cx.2.2.2.1 ≤ b := hAb
      have := (gn_five hx).2
      omega
    · have := (hP i x hx).lt
      have := (gn_five hy).2
      omega
  rw [gn_V_app] at hP1 hD1
  obtain ⟨t, a1, b1⟩ := h b (b + 1 + 0) (b + 1 + 1) (b + 1 + 2) (b + 1 + 3) ok F.heap locs lsA hP1 hD1 hS1 hL F rfl X'
  refine ⟨t, step t ?_, b1⟩
  have e : T.heap.size = b := by rw [hT, hb]
  rw [e]
  exact a1
/-- FIRST_RULES.clone() -/
theorem gn_clone {i1 i2 i3 : Nat} {p1 p2 : Nat} (pc' : Nat) (hd1 : decode (gw_mC K.1) pc = .ok (.getstatic i1, 3)) (hp1 : pc + 3 = p1) (hd2 : decode (gw_mC K.1) p1 = .ok (.invokevirtual i2, 3)) (hp2 : p1 + 3 = p2) (hd3 : decode (gw_mC K.1) p2 = .ok (.checkcast i3, 3)) (hp3 : p2 + 3 = pc') (hw : ((gw_mY K.1).cls, i1, "FlagWalk", "FIRST_RULES", "[I", "FlagWalk") ∈ gw_nwF)
    (hlk : Cond.methodLink (gw_mY K.1).cls i2 ⟨"[I", "clone", "()Ljava/lang/Object;"⟩ ∈ gw_tb) (hsame : Cond.sameMethod "[I" "java/lang/Object" "clone" "()Ljava/lang/Object;" ∈ gw_tb) (hnat : Cond.native ⟨"java/lang/Object", "clone", "()Ljava/lang/Object;"⟩ ∈ gw_tb) (hinst : Cond.instanceMethod ⟨"java/lang/Object", "clone", "()Ljava/lang/Object;"⟩ ∈ gw_tb) (hsel : Cond.selects "[I" ⟨"[I", "clone", "()Ljava/lang/Object;"⟩ ⟨"java/lang/Object", "clone", "()Ljava/lang/Object;"⟩ ∈ gw_tb) (hcl : Cond.classLink (gw_mY K.1).cls i3 "[I" ∈ gw_tb)
    (hln : Nat.ble (gw_wt stk) 8 = true) (hdd : Nat.ble 1 K.2.1 = true) (hc : Nat.ble (c0 + 1) K.2.2.1 = true) (hs : Nat.ble (s0 + 5) K.2.2.2.1 = true)
    (h : ∀ q : Nat, gn_G cx K Γ pc' ls (gR q :: stk) (gn_V T0 h0 ci fs (ch ++ [(q, gn_ia (cx.2.1 1) [2, 5, 0, 10, 3])])) (c0 + 1) (s0 + 5)) : gn_G cx K Γ pc ls stk (gn_V T0 h0 ci fs ch) c0 s0 := by
  subst hp1; subst hp2; subst hp3
  obtain ⟨p, l, e, R, s, mm, args, below, meth, c, Q⟩ := Γ
  intro ok H locs lsA hP hD hS hL
  have hR := ok.2.2.2.2.2.2.2.2.1
  have hbase := ok.2.2.2.2.2.2.2.1
  have hSt := ok.2.2.2.2.2.2.1
  have h1 := Nat.le_of_ble_eq_true hln
  have h2 := Nat.le_of_ble_eq_true hdd
  have h3 := Nat.le_of_ble_eq_true hc
  have h4 := Nat.le_of_ble_eq_true hs
  have hcat := gw_catsum gn_id stk
  refine va_getsN ok.1 ok.2.1 (hSt.1.1 4 (by omega)).1 hS ok.2.2.2.1 (va_Nw.use rfl (hSt.1.2.2.2 _ hw)) (fun _ h => h) hd1 ?_
  obtain ⟨cell, g1, g2, g3, g4, g5, g6, g7⟩ := hSt.2.1.kept hS.2.1
  have hKI := ok.2.2.2.2.2.1.2 0 (cx.2.1 1, .int) rfl
  have hnm : s.vm.findClass "[I" = some (cx.2.1 1) := gn_RA hKI.2
  obtain ⟨cC0, t0', f1, f2, f3⟩ := Cond.castable_spec (va_Nw.use (A := args) rfl hSt.2.2.1)
  cases hnm.symm.trans f1
  have hce : ({ cls := cell.cls, slots := cell.slots } : Cell) = vp_cell (cx.2.1 1) (5, .inl (gn_ar [2, 5, 0, 10, 3])) := by
    have e1 : cell.slots = (vp_cell (cx.2.1 1) (5, .inl (gn_ar [2, 5, 0, 10, 3]))).slots := by
      have e0 : (vp_cell (cx.2.1 1) (5, .inl (gn_ar [2, 5, 0, 10, 3]))).slots.size = 5 := arrV_size _ _ _
      apply Array.ext (by rw [g5, e0])
      intro j hj1 hj2
      have hj3 : j < 5 := by rw [g5] at hj1; exact hj1
      have e3 := g6 j hj3
      have e4 : (vp_cell (cx.2.1 1) (5, .inl (gn_ar [2, 5, 0, 10, 3]))).slots[j]? = some (.int (gn_ar [2, 5, 0, 10, 3] j)) := arrV_read _ _ hj3
      rw [Array.getElem?_eq_getElem hj1] at e3
      rw [Array.getElem?_eq_getElem hj2] at e4
      rw [Option.some.inj e3, Option.some.inj e4]
      rfl
    rw [g2, e1]
    rfl
  intro T hT X
  obtain ⟨-, kA, hkA, comp, hkind⟩ := State.isArrayOf_alike X.warmed.alike (hKI.1 0 (fun _ => .null))
  obtain ⟨-, kS, hkS, compS, hkindS⟩ := hKI.1 0 (fun _ => .null)
  obtain ⟨vm', X', st⟩ := X.cloneArray ok.1 ok.2.2.2.1 (ok.2.2.2.2.1 _ hlk) (ok.2.2.2.2.1 _ hsame) (ok.2.2.2.2.1 _ hnat) (ok.2.2.2.2.1 _ hinst) (ok.2.2.2.2.1 _ hsel) (a := cx.2.2.1 1004) (cell := cell) (by rw [hT]; exact g1) g3 g4 (by rw [g2]; exact hnm) f2 (by rw [g2]; exact f3)
    (fun i v hv => by
      rw [g2]
      have hk' : T.vm.classes[cx.2.1 1]? = some kA := hkA
      have hi5 : i < 5 := by rw [← g5]; exact (Array.getElem?_eq_some_iff.mp hv).1
      have e3 := g6 i hi5
      rw [hv] at e3
      rw [Option.some.inj e3]
      simp [State.fitsSlot, State.slotType?, hk', hkind, fits])
    (g := F0 mm (pc + 3) lsA (.ref (cx.2.2.1 1004) :: stk.map (gw_cv gn_id))) rfl (by rw [ok.2.2.1]; exact hL.1) rfl (by rw [ok.2.1]; exact hd2) (by omega) (by show 2 * 0 + _ + 14 ≤ _; omega) (by omega) (by rw [g5]; omega) (hloader := by rw [g2]; exact Vm.clonesLoader_of_array hkS hkindS)
  rw [hce, g5] at X'
  generalize hH1 : H.push (vp_cell (cx.2.1 1) (5, .inl (gn_ar [2, 5, 0, 10, 3]))) = H1
  have z1 : H1.size = H.size + 1 := by rw [← hH1, Array.size_push]
  have e1 : H1[H.size]? = some (vp_cell (cx.2.1 1) (5, .inl (gn_ar [2, 5, 0, 10, 3]))) := by rw [← hH1, Array.getElem?_push_size]
  have o1 : ∀ q : Nat, q < H.size → H1[q]? = H[q]? := fun q hq => by rw [← hH1, Array.getElem?_push, if_neg (Nat.ne_of_lt hq)]
  have hP1 : va_P cx.1 vwCl (gn_V T0 h0 ci fs ch ++ [(H.size, gn_ia (cx.2.1 1) [2, 5, 0, 10, 3])]) H1 := (hP.kept (fun k y hy => o1 y.1 ((hP k y hy).lt))).app (fun k y hy => by
    have hz : k < 1 := (List.getElem?_eq_some_iff.mp hy).1
    rw [show k = 0 by omega] at hy
    cases hy
    exact e1)
  have hD1 : va_D (gw_A cx) (gn_V T0 h0 ci fs ch ++ [(H.size, gn_ia (cx.2.1 1) [2, 5, 0, 10, 3])]) := hD.push hP rfl (Nat.le_trans hbase hS.1)
  have hS1 : va_S (gw_A cx) s.heap H1 locs := ⟨Nat.le_trans hS.1 (by omega), fun y h1 h2 => (o1 y (Nat.lt_of_lt_of_le h1 hS.1)).trans (hS.2.1 y h1 h2), hS.2.2⟩
  have hW : W p l e R s mm args below meth c H1 locs (c0 + 1) (s0 + 5) Q (F0 mm (pc + 3 + 3) lsA (.ref H.size :: stk.map (gw_cv gn_id))) := by
    refine va_castA (D := cx.1) ok.1 ok.2.1 ok.2.2.2.1 (ok.2.2.2.2.1 _ hcl) hP1 (gn_V T0 h0 ci fs ch).length (cA := cx.2.1 1) (x := (5, .inl (gn_ar [2, 5, 0, 10, 3]))) (by rw [List.getElem?_append_right (Nat.le_refl _), Nat.sub_self]; rfl) hnm hd3 ?_
    rw [gn_V_app] at hP1 hD1
    exact h H.size ok H1 locs lsA hP1 hD1 hS1 hL
  obtain ⟨t, b1, b2⟩ := hW ((T.setVm vm').pushCell (vp_cell (cx.2.1 1) (5, .inl (gn_ar [2, 5, 0, 10, 3])))) (by rw [← hH1, ← hT]; rfl) X'
  refine ⟨t, st t ?_, b2⟩
  rw [hce, hT]
  exact b1
end GNR2
/-! contracts of constructors -/
def gn_atk (ad : Nat → Nat) : Nat → List va_E → va_W
  | _, [] => []
  | k, e :: es => (ad k, e) :: gn_atk ad (k + 1) es
def gn_at (ad : Nat → Nat) (es : List va_E) : va_W := gn_atk ad 0 es
abbrev gn_Blk : Type := (Nat → ClassId) → (Nat → Nat) → List va_E
def gn_rm (d mc ms : Nat) : Room := { frames := d, cells := mc, slots := ms, locals := 64 * d }
def gn_Pc (cx : gw_Cx) (V : va_W) (U : State) : Prop := cx.2.2.2.1 ≤ U.heap.size ∧ va_P cx.1 vwCl V U.heap ∧ va_D (gw_A cx) V ∧ va_K cx.1 vwCl (gw_ty cx) U ∧ gn_St cx U U.heap
def gn_Qc (cx : gw_Cx) (QW : va_W → Prop) : Array Value → State → Outcome → State → Prop := fun _ st oc t => (∃ V' : va_W, oc = .returned none ∧ QW V' ∧ va_P cx.1 vwCl V' t.heap ∧ va_D (gw_A cx) V') ∧ va_F (gw_A cx) st t
def gn_post (cx : gw_Cx) (T0 : va_W) (h0 : Nat) (B : gn_Blk) (V : va_W) : Prop := ∃ ad : Nat → Nat, ad 0 = h0 ∧ V = T0 ++ gn_at ad (B cx.2.1 ad)
def gn_Spec (mt : gw_MT) (d mc ms ci : Nat) (fs0 : List Value) (B : gn_Blk) : Prop := ∀ (l : Launch) (cx : gw_Cx) (T0 : va_W) (h0 : Nat), Met l (gw_mY mt) (gw_mW mt) (gn_rm d mc ms) (va_Pc [.ref h0] (gn_Pc cx (gn_V T0 h0 ci fs0 []))) (gn_Qc cx (gn_post cx T0 h0 B)) mc ms (gw_A cx)
theorem gn_blind {cx : gw_Cx} {av : List Value} {V : va_W} : FrameBlind (va_Pc av (gn_Pc cx V)) := by
  intro a U g mk q
  obtain ⟨q0, q1, q2, q3, q4, q5⟩ := q
  exact ⟨q0, q1, q2, q3, va_K.moved (u := U) (U := U.calling g mk a) (Vm.Alike.refl U.vm) q4, gn_St.same (u := U) rfl q5⟩
theorem gn_intro {mt : gw_MT} {d mc ms ci : Nat} {fs0 : List Value} {B : gn_Blk} (hp : plainName (gw_mY mt).cls = true) (hl : Nat.ble 1 (gw_mL mt) = true) (hi : (gw_mY mt).name = "<init>") (hr : gw_mR mt = none)
    (hG : ∀ (cx : gw_Cx) (Γ : gn_Ga) (T0 : va_W) (h0 : Nat), gn_G cx (mt, d, mc, ms, gn_post cx T0 h0 B) Γ 0 (gw_ini (gw_mL mt) [gR h0]) [] (gn_V T0 h0 ci fs0 []) 0 0) : gn_Spec mt d mc ms ci fs0 B := by
  intro l cx T0 h0
  refine Met.ofW (cc := gw_mC mt) (maxL := gw_mL mt) (ret := gw_mR mt) hp rfl ?_
  intro p e s mm args below meth c s₁ Bd hml hv
  obtain ⟨rfl, hbase, hP, hD, hK, hSt⟩ := hv
  have hts := atoms_spec (ws := gw_mW mt) Bd.pre
  have hown : s.vm.findClass (gw_mY mt).cls = some mm.cls := findClass_of_methodNamed Bd.named
  have hin : meth.name = "<init>" := (name_of_methodNamed Bd.named Bd.method).1.trans hi
  have hS : va_S (gw_A cx) s.heap s.heap [] := va_S.rf
  have hls := gw_ini_ls gn_id (n := gw_mL mt) (a := [gR h0]) (Nat.le_of_ble_eq_true hl)
  rw [lg_entry_eq]
  refine hG cx (p, l, e, (headSpec (gw_mW mt) (gn_rm d mc ms)).room, s, mm, [Value.ref h0].toArray, below, meth, c, MQ below (gn_Qc cx (gn_post cx T0 h0 B)) [Value.ref h0].toArray s mc ms (gw_A cx)) T0 h0 ?_ s.heap [] _ hP hD hS hls
  refine ⟨Bd.exec, Bd.bytes, hml, hown, fun w hw => hts w (List.mem_cons_of_mem _ hw), hK, hSt, hbase, ⟨Nat.le_refl _, Nat.le_refl _, Nat.le_refl _, Nat.le_refl _⟩, hin, ?_⟩
  intro V H locs lsA pc hq hdg hP' hD' hS'
  exact W.vret Bd.exec Bd.bytes (by rw [Bd.returns, hr]) (fun t ht _ => ⟨⟨V, rfl, hq, by rw [ht]; exact hP', hD'⟩, hS'.F ht⟩) hS'.2.2 hdg Bd.notSynchronized
section GNC
variable {p : Program} {l : Launch} {e : Env} {R : Room} {s : State} {mm : MethodId} {args : Array Value} {below : List Frame} {meth : Method} {cd : Code} {H : Heap} {locs : List Loc} {c0 s0 mc ms : Nat} {Q : State → Prop} {lsA : Array Slot}
theorem gn_core {cx : gw_Cx} {QW : va_W → Prop} {pc : Nat} {st0 rest : List Value} {a' : Array Value} (hr : va_Run p l e R s mm args below meth cd H locs c0 s0 mc ms (F0 mm pc lsA st0) rest (gn_Qc cx QW a') (gw_A cx)) (hS : va_S (gw_A cx) s.heap H locs)
    (kk : ∀ (V : va_W) (H1 : Heap) (locs1 : List Loc), QW V → va_P cx.1 vwCl V H1 → va_D (gw_A cx) V → va_S (gw_A cx) s.heap H1 locs1 → W p l e R s mm args below meth cd H1 locs1 (c0 + mc) (s0 + ms) Q (F0 mm (pc + 3) lsA rest)) : W p l e R s mm args below meth cd H locs c0 s0 Q (F0 mm pc lsA st0) := by
  intro T hT X
  obtain ⟨v, st₀, t, T', L, h0, X', hL, e1, e2, ⟨⟨V, hv, hq, hp, hd⟩, hz, hk⟩, st⟩ := hr T hT X
  have hv : v = none := by injection hv
  subst hv
  rw [h0] at hz hk
  obtain ⟨t2, a1, b1⟩ := kk V T'.heap (locs ++ L) hq (by rw [e1]; exact hp) hd
    ⟨Nat.le_trans hS.1 (by rw [e1]; exact hz), fun q h1 h2 => by rw [e1, hk q (Nat.lt_of_lt_of_le h1 hS.1) h2]; exact hS.2.1 q h1 h2, fun q hq => by
      rcases List.mem_append.mp hq with h | h
      · exact hS.2.2 q h
      · exact hL q h⟩ T' rfl X'
  exact ⟨t2, st t2 a1, b1⟩
theorem gn_pcH {cx : gw_Cx} {V : va_W} {U : State} (hK : va_K cx.1 vwCl (gw_ty cx) s) (hSt : gn_St cx s s.heap) (hbase : cx.2.2.2.1 ≤ s.heap.size) (hP : va_P cx.1 vwCl V H) (hD : va_D (gw_A cx) V) (hS : va_S (gw_A cx) s.heap H locs) (hU : U.heap = H) (hW : s.WarmedH U.vm) : gn_Pc cx V U :=
  ⟨by rw [hU]; exact Nat.le_trans hbase hS.1, by rw [hU]; exact hP, hD, va_K.moved hW.alike hK, by rw [hU]; exact gn_St.warm hW (hSt.kept hS.2.1)⟩
end GNC
/-- a call of the constructor of the object made last, of a nest mate -/
theorem gn_call {cx : gw_Cx} {K : gn_K} {Γ : gn_Ga} {pc : Nat} {ls : List (Option gw_SV)} {stk : List gw_SV} {T0 ch : va_W} {c0 s0 h0 ci : Nat} {fs fs0 : List Value} {idx q ci' d' mc' ms' : Nat} {host : String} {mt' : gw_MT} {B : gn_Blk} (pc' : Nat) (hd : decode (gw_mC K.1) pc = .ok (.invokespecial idx, 3)) (hp : pc + 3 = pc') (hw : ((gw_mY K.1).cls, idx, gw_mY mt', host) ∈ gw_nwM) (hmb : gw_MB mt' 0) (hmi : Cond.instanceMethod (gw_mY mt') ∈ gw_tb) (hi : (gw_mY mt').name = "<init>") (hr : gw_mR mt' = none) (hln : Nat.ble (gw_wt stk) 8 = true) (hdd : Nat.blt d' K.2.1 = true) (hc : Nat.ble (c0 + mc') K.2.2.1 = true) (hs : Nat.ble (s0 + ms') K.2.2.2.1 = true) (hsp : gn_Spec mt' d' mc' ms' ci' fs0 B)
    (h : ∀ ad : Nat → Nat, ad 0 = q → gn_G cx K Γ pc' ls stk (gn_V T0 h0 ci fs (ch ++ gn_at ad (B cx.2.1 ad))) (c0 + mc') (s0 + ms')) : gn_G cx K Γ pc ls (gR q :: stk) (gn_V T0 h0 ci fs (ch ++ [(q, .inr (ci', fs0))])) c0 s0 := by
  subst hp
  obtain ⟨p, l, e, R, s, mm, args, below, meth, c, Q⟩ := Γ
  intro ok H locs lsA hP hD hS hL
  have hR := ok.2.2.2.2.2.2.2.2.1
  have h1 := Nat.le_of_ble_eq_true hln
  have h2 : d' < K.2.1 := by simpa [Nat.blt_eq] using hdd
  have h3 := Nat.le_of_ble_eq_true hc
  have h4 := Nat.le_of_ble_eq_true hs
  have hcat := gw_catsum gn_id stk
  have h40 := hmb.2.2.2.2.2
  have e1 : gn_V T0 h0 ci fs (ch ++ [(q, .inr (ci', fs0))]) = gn_V (gn_V T0 h0 ci fs ch) q ci' fs0 [] := (gn_V_app T0 h0 ci fs ch _).symm
  rw [e1] at hP hD
  have hM := hsp l cx (gn_V T0 h0 ci fs ch) q
  have hG := gw_mW_good hmb
  have hrun := va_runIN (R := R) (locs := locs) (cells := c0) (slots := s0) (below := below) (meth := meth) (e := e) (g := F0 mm pc lsA ((gR q :: stk).map (gw_cv gn_id))) (As := []) (rest := stk.map (gw_cv gn_id)) (b := q) (host := host) ⟨ok.1, ok.2.1, ok.2.2.1, ok.2.2.2.1, ok.2.2.2.2.1⟩ hM
    ⟨va_cnB (bytes := gw_mC mt') (maxL := gw_mL mt') (ret := none) 0 ok.2.2.2.2.1 hG (by unfold gw_mW; rw [hr]) rfl rfl (ok.2.2.2.2.2.2.1.1.2.2.1 _ hw) (ok.2.2.2.2.1 _ hmb.2.1) ⟨hmb.2.2.1, hmb.2.2.2.1, hmb.2.2.2.2.1⟩ ⟨by show d' + 1 ≤ _; omega, by show 8 + (gw_mL mt' + 11) + 64 * d' ≤ _; omega⟩, hi, ok.2.2.2.2.1 _ hmi⟩
    ⟨gn_blind, fun U hU hW => ⟨rfl, gn_pcH ok.2.2.2.2.2.1 ok.2.2.2.2.2.2.1 ok.2.2.2.2.2.2.2.1 hP hD hS hU hW⟩⟩ rfl rfl hL.1 rfl (lv_room (by omega)) hd ⟨by omega, by omega⟩
  refine gn_core hrun hS (fun V1 H1 locs1 hq hP1 hD1 hS1 => ?_)
  obtain ⟨ad, hq0, rfl⟩ := hq
  rw [gn_V_app] at hP1 hD1
  exact h ad hq0 ok H1 locs1 lsA hP1 hD1 hS1 hL
