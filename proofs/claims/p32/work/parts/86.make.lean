/-! constructors: the judgement, over a world that grows behind the object that is made -/
abbrev gn_Ga : Type := Program × Launch × Env × Room × State × MethodId × Array Value × List Frame × Method × Code × (State → Prop)
abbrev gn_K : Type := gw_MT × Nat × Nat × Nat × (va_W → Prop)
def gn_V (T0 : va_W) (h0 ci : Nat) (fs : List Value) (ch : va_W) : va_W := T0 ++ (h0, .inr (ci, fs)) :: ch
theorem gn_V_app (T0 : va_W) (h0 ci : Nat) (fs : List Value) (ch x : va_W) : gn_V T0 h0 ci fs ch ++ x = gn_V T0 h0 ci fs (ch ++ x) := by
  unfold gn_V
  rw [List.append_assoc, List.cons_append]
theorem gn_V_self (T0 : va_W) (h0 ci : Nat) (fs : List Value) (ch : va_W) : (gn_V T0 h0 ci fs ch)[T0.length]? = some (h0, .inr (ci, fs)) := by
  unfold gn_V
  rw [List.getElem?_append_right (Nat.le_refl _), Nat.sub_self]
  rfl
theorem gn_V_ch {T0 : va_W} {h0 ci : Nat} {fs : List Value} {ch : va_W} {i : Nat} {x : Nat × va_E} (h : ch[i]? = some x) : (gn_V T0 h0 ci fs ch)[T0.length + 1 + i]? = some x := by
  unfold gn_V
  rw [List.getElem?_append_right (by omega), show T0.length + 1 + i - T0.length = i + 1 by omega]
  exact h
theorem gn_V_set (T0 : va_W) (h0 ci : Nat) (fs fs' : List Value) (ch : va_W) : (gn_V T0 h0 ci fs ch).set T0.length (h0, .inr (ci, fs')) = gn_V T0 h0 ci fs' ch := by
  unfold gn_V
  rw [List.set_append_right _ _ (Nat.le_refl _), Nat.sub_self]
  rfl
theorem gn_V_chset {T0 : va_W} {h0 ci : Nat} {fs : List Value} {ch ch' : va_W} {i : Nat} {x : Nat × va_E} (h : ch.set i x = ch') : (gn_V T0 h0 ci fs ch).set (T0.length + 1 + i) x = gn_V T0 h0 ci fs ch' := by
  unfold gn_V
  rw [List.set_append_right _ _ (by omega), show T0.length + 1 + i - T0.length = i + 1 by omega, List.set_cons_succ, h]
def gn_OK (cx : gw_Cx) (K : gn_K) : gn_Ga → Prop
  | (p, l, e, R, s, mm, args, below, meth, c, Q) =>
    p.tables.exec = Jvm.exec ∧ c.code = gw_mC K.1 ∧ c.maxLocals = gw_mL K.1 ∧ s.vm.findClass (gw_mY K.1).cls = some mm.cls ∧ (∀ w ∈ gw_tb, w.before args s = true) ∧
    va_K cx.1 vwCl (gw_ty cx) s ∧ gn_St cx s s.heap ∧ cx.2.2.2.1 ≤ s.heap.size ∧ (K.2.1 ≤ R.frames ∧ 64 * K.2.1 ≤ R.locals ∧ K.2.2.1 ≤ R.cells ∧ K.2.2.2.1 ≤ R.slots) ∧ meth.name = "<init>" ∧
    (∀ (V : va_W) (H : Heap) (locs : List Loc) (lsA : Array Slot) (pc : Nat), K.2.2.2.2 V → decode (gw_mC K.1) pc = .ok (.return_, 1) → va_P cx.1 vwCl V H → va_D (gw_A cx) V → va_S (gw_A cx) s.heap H locs → W p l e R s mm args below meth c H locs K.2.2.1 K.2.2.2.1 Q (F0 mm pc lsA []))
def gn_id : Nat → Nat := fun x => x
def gn_G (cx : gw_Cx) (K : gn_K) : gn_Ga → Nat → List (Option gw_SV) → List gw_SV → va_W → Nat → Nat → Prop
  | (p, l, e, R, s, mm, args, below, meth, c, Q), pc, ls, stk, V, c0, s0 =>
    gn_OK cx K (p, l, e, R, s, mm, args, below, meth, c, Q) →
    ∀ (H : Heap) (locs : List Loc) (lsA : Array Slot), va_P cx.1 vwCl V H → va_D (gw_A cx) V → va_S (gw_A cx) s.heap H locs → gw_ls gn_id (gw_mL K.1) lsA ls → W p l e R s mm args below meth c H locs c0 s0 Q (F0 mm pc lsA (stk.map (gw_cv gn_id)))
/-- a row that touches the stack alone -/
theorem gn_stp {cx : gw_Cx} {K : gn_K} {Γ : gn_Ga} {pc pc' : Nat} {ls : List (Option gw_SV)} {stk stk' : List gw_SV} {V : va_W} {c0 s0 : Nat} (h : gn_G cx K Γ pc' ls stk' V c0 s0)
    (hs : ∀ {p : Program} {l : Launch} {e : Env} {R : Room} {s : State} {mm : MethodId} {args : Array Value} {below : List Frame} {meth : Method} {c : Code} {H : Heap} {locs : List Loc} {cells slots : Nat} {Q : State → Prop} {lsA : Array Slot}, p.tables.exec = Jvm.exec → c.code = gw_mC K.1 → W p l e R s mm args below meth c H locs cells slots Q (F0 mm pc' lsA (stk'.map (gw_cv gn_id))) → W p l e R s mm args below meth c H locs cells slots Q (F0 mm pc lsA (stk.map (gw_cv gn_id)))) : gn_G cx K Γ pc ls stk V c0 s0 := by
  obtain ⟨p, l, e, R, s, mm, args, below, meth, c, Q⟩ := Γ
  intro ok H locs lsA hP hD hS hl
  exact hs ok.1 ok.2.1 (h ok H locs lsA hP hD hS hl)
section GNR
variable {cx : gw_Cx} {K : gn_K} {Γ : gn_Ga} {pc : Nat} {ls ls' : List (Option gw_SV)} {stk : List gw_SV} {V T0 ch : va_W} {c0 s0 h0 ci : Nat} {fs fs' : List Value}
theorem gn_iconst {n : Int} (pc' : Nat) (hd : decode (gw_mC K.1) pc = .ok (.iconst n, 1)) (hp : pc + 1 = pc') (h : gn_G cx K Γ pc' ls (gI n :: stk) V c0 s0) : gn_G cx K Γ pc ls stk V c0 s0 := by
  subst hp
  exact gn_stp h (fun hx hb k => lv_iconst hx hb hd rfl k)
theorem gn_bipush {n : Int} (pc' : Nat) (hd : decode (gw_mC K.1) pc = .ok (.bipush n, 2)) (hp : pc + 2 = pc') (hv : (Int8.ofInt n).toInt32 = Int32.ofInt n) (h : gn_G cx K Γ pc' ls (gI n :: stk) V c0 s0) : gn_G cx K Γ pc ls stk V c0 s0 := by
  subst hp
  exact gn_stp h (fun hx hb k => lv_bipush hx hb hd hv k)
theorem gn_sipush {n : Int} (pc' : Nat) (hd : decode (gw_mC K.1) pc = .ok (.sipush n, 3)) (hp : pc + 3 = pc') (hv : (Int16.ofInt n).toInt32 = Int32.ofInt n) (h : gn_G cx K Γ pc' ls (gI n :: stk) V c0 s0) : gn_G cx K Γ pc ls stk V c0 s0 := by
  subst hp
  exact gn_stp h (fun hx hb k => lv_sipush hx hb hd hv k)
theorem gn_dup {x : Nat} (pc' : Nat) (hd : decode (gw_mC K.1) pc = .ok (.dup, 1)) (hp : pc + 1 = pc') (h : gn_G cx K Γ pc' ls (gR x :: gR x :: stk) V c0 s0) : gn_G cx K Γ pc ls (gR x :: stk) V c0 s0 := by
  subst hp
  exact gn_stp h (fun hx hb k => lv_dup hx hb hd rfl k)
theorem gn_goto {off : Int} (pc' : Nat) (hd : decode (gw_mC K.1) pc = .ok (.goto off, 3)) (hp : (pc : Int) + off = (pc' : Int)) (h : gn_G cx K Γ pc' ls stk V c0 s0) : gn_G cx K Γ pc ls stk V c0 s0 :=
  gn_stp h (fun hx hb k => lv_goto hx hb hd hp k)
theorem gn_geY {x y off : Int} (pc' : Nat) (hd : decode (gw_mC K.1) pc = .ok (.if_icmp .ge off, 3)) (hp : (pc : Int) + off = (pc' : Int)) (hxy : Int32.ofInt y ≤ Int32.ofInt x) (h : gn_G cx K Γ pc' ls stk V c0 s0) : gn_G cx K Γ pc ls (gI y :: gI x :: stk) V c0 s0 :=
  gn_stp h (fun hx hb k => lv_icmp_ge hx hb hd hp (fun _ => k) (fun z => absurd hxy z))
theorem gn_geN {x y off : Int} (tgt pc' : Nat) (hd : decode (gw_mC K.1) pc = .ok (.if_icmp .ge off, 3)) (ht : (pc : Int) + off = (tgt : Int)) (hp : pc + 3 = pc') (hxy : ¬ Int32.ofInt y ≤ Int32.ofInt x) (h : gn_G cx K Γ pc' ls stk V c0 s0) : gn_G cx K Γ pc ls (gI y :: gI x :: stk) V c0 s0 := by
  subst hp
  exact gn_stp h (fun hx hb k => lv_icmp_ge hx hb hd ht (fun z => absurd z hxy) (fun _ => k))
theorem gn_aload {k : Fin 4} {x : Nat} (pc' : Nat) (hd : decode (gw_mC K.1) pc = .ok (.aload_n k, 1)) (hp : pc + 1 = pc') (hl : ls[(k : Nat)]? = some (some (gR x))) (h : gn_G cx K Γ pc' ls (gR x :: stk) V c0 s0) : gn_G cx K Γ pc ls stk V c0 s0 := by
  subst hp
  obtain ⟨p, l, e, R, s, mm, args, below, meth, c, Q⟩ := Γ
  intro ok H locs lsA hP hD hS hL
  exact lv_aload_n ok.1 ok.2.1 hd rfl (hL.2.2.2 _ _ hl) (h ok H locs lsA hP hD hS hL)
theorem gn_iload {k : Fin 4} {x : Int} (pc' : Nat) (hd : decode (gw_mC K.1) pc = .ok (.iload_n k, 1)) (hp : pc + 1 = pc') (hl : ls[(k : Nat)]? = some (some (gI x))) (h : gn_G cx K Γ pc' ls (gI x :: stk) V c0 s0) : gn_G cx K Γ pc ls stk V c0 s0 := by
  subst hp
  obtain ⟨p, l, e, R, s, mm, args, below, meth, c, Q⟩ := Γ
  intro ok H locs lsA hP hD hS hL
  exact lv_iload_n ok.1 ok.2.1 hd rfl (hL.2.2.2 _ _ hl) (h ok H locs lsA hP hD hS hL)
theorem gn_istore {k : Fin 4} {x : Int} (pc' : Nat) (hd : decode (gw_mC K.1) pc = .ok (.istore_n k, 1)) (hp : pc + 1 = pc') (hn : gw_nl ls k = true) (hk : Nat.blt k (gw_mL K.1) = true) (hs : ls.set k (some (gI x)) = ls') (h : gn_G cx K Γ pc' ls' stk V c0 s0) : gn_G cx K Γ pc ls (gI x :: stk) V c0 s0 := by
  subst hp; subst hs
  obtain ⟨p, l, e, R, s, mm, args, below, meth, c, Q⟩ := Γ
  intro ok H locs lsA hP hD hS hL
  exact lv_istore_n ok.1 ok.2.1 hd rfl (gw_ls_lv hL) (by simpa [Nat.blt_eq] using hk) rfl (fun lsB hB => h ok H locs lsB hP hD hS (gw_ls_store hL hn hB))
theorem gn_iinc {i : Nat} {n x y : Int} (pc' : Nat) (hd : decode (gw_mC K.1) pc = .ok (.iinc i n, 3)) (hp : pc + 3 = pc') (hl : ls[i]? = some (some (gI x))) (hn : gw_nl ls i = true) (hk : Nat.blt i (gw_mL K.1) = true) (hy : gw_w (x + n) = y) (hs : ls.set i (some (gI y)) = ls') (h : gn_G cx K Γ pc' ls' stk V c0 s0) : gn_G cx K Γ pc ls stk V c0 s0 := by
  subst hp; subst hs; subst hy
  obtain ⟨p, l, e, R, s, mm, args, below, meth, c, Q⟩ := Γ
  intro ok H locs lsA hP hD hS hL
  have h0 := gw_ls_lv hL
  have h1 : lv_has lsA (gw_mL K.1) ((i, .int (Int32.ofInt x)) :: ((List.range (gw_mL K.1)).filterMap (fun i => match ls[i]? with | some (some v) => some (i, gw_cv gn_id v) | _ => none))) := by
    refine ⟨h0.1, h0.2.1, fun q hq => ?_⟩
    rcases List.mem_cons.mp hq with rfl | hq
    · exact hL.2.2.2 _ _ hl
    · exact h0.2.2 q hq
  refine lv_iinc ok.1 ok.2.1 hd h1 (k := 0) rfl (v := Int32.ofInt (gw_w (x + n))) (gw_add x n) (by simpa [Nat.blt_eq] using hk) rfl (fun lsB hB => ?_)
  rw [List.filter_cons_of_neg (by simp)] at hB
  exact h ok H locs lsB hP hD hS (gw_ls_store (v := gI (gw_w (x + n))) hL hn hB)
/-- Object.<init> -/
theorem gn_obj {idx x : Nat} (pc' : Nat) (hd : decode (gw_mC K.1) pc = .ok (.invokespecial idx, 3)) (hp : pc + 3 = pc') (hw : Cond.methodLink (gw_mY K.1).cls idx Lib.objectInit ∈ gw_tb) (hdd : Nat.ble 1 K.2.1 = true) (h : gn_G cx K Γ pc' ls [] V c0 s0) : gn_G cx K Γ pc ls [gR x] V c0 s0 := by
  subst hp
  obtain ⟨p, l, e, R, s, mm, args, below, meth, c, Q⟩ := Γ
  intro ok H locs lsA hP hD hS hL
  have hR := ok.2.2.2.2.2.2.2.2.1
  have h1 := Nat.le_of_ble_eq_true hdd
  exact W.objInit ok.1 ok.2.1 ok.2.2.2.1 (ok.2.2.2.2.1 _ hw) (ok.2.2.2.2.1 _ jI_obj) (ok.2.2.2.2.1 _ jC_obj) (g := F0 mm pc lsA [.ref x]) rfl (by rw [ok.2.2.1]; exact hL.1) rfl hd (by omega) (by show 2 * 0 + 0 + 12 ≤ _; omega) (W.eq (g2 := F0 mm (pc + 3) lsA []) rfl (h ok H locs lsA hP hD hS hL))
theorem gn_putI {k idx : Nat} {v : Int} {ty : FieldType} (pc' : Nat) (hd : decode (gw_mC K.1) pc = .ok (.putfield idx, 3)) (hp : pc + 3 = pc') (hf : gw_FP (gw_mY K.1).cls idx ci k ty) (hty : ty = .int ∨ ty = .boolean ∧ gw_b v) (hk : Nat.blt k fs.length = true) (hs : fs.set k (.int (Int32.ofInt v)) = fs') (h : gn_G cx K Γ pc' ls stk (gn_V T0 h0 ci fs' ch) c0 s0) : gn_G cx K Γ pc ls (gI v :: gR h0 :: stk) (gn_V T0 h0 ci fs ch) c0 s0 := by
  subst hp; subst hs
  obtain ⟨C, T, N, ty0, hc, hkN, hin, hlk, hpf, hnm, hfin, ht0⟩ := hf
  obtain ⟨p, l, e, R, s, mm, args, below, meth, c, Q⟩ := Γ
  intro ok H locs lsA hP hD hS hL
  have hn : narrow ty (.int (Int32.ofInt v)) = .int (Int32.ofInt v) ∧ fits ty (.int (Int32.ofInt v)) = true := by
    rcases hty with rfl | ⟨rfl, hb⟩
    · exact ⟨rfl, rfl⟩
    · exact gw_bool hb
  refine va_put (D := cx.1) (ci := ci) ok.1 ok.2.1 ok.2.2.2.2.1 hin ty0 hpf hnm ok.2.2.2.1 ok.2.2.2.2.2.1 hP hD hS T0.length (gn_V_self T0 h0 ci fs ch) hc k hkN (ok.2.2.2.2.1 _ hlk) (fun _ h => h) hfin (ty := ty) (by rw [hpf k hkN, ht0]) hn.1 hn.2 (by simpa [Nat.blt_eq] using hk) hd (fun H1 locs1 hP1 hD1 hS1 => ?_)
  rw [gn_V_set] at hP1 hD1
  exact h ok H1 locs1 lsA hP1 hD1 hS1 hL
/-- a final field that holds a reference -/
def gn_FF (own : String) (idx ci k : Nat) : Prop := ∃ (C : String) (T : u_T) (N : Nat) (ty0 : Nat → FieldType), vwCl[ci]? = some (C, T, N) ∧ k < N ∧ (∀ w ∈ u_ws C T N, w ∈ gw_tb) ∧ Cond.fieldLink own idx (T k).1 (T k).2.1 (T k).2.2.1 ∈ gw_tb ∧ (∀ j, j < N → parseFieldDescriptor (T j).2.2.1 = some (ty0 j)) ∧ (∀ a, a < N → ∀ b, b < N → a ≠ b → (T a).2.1 ≠ (T b).2.1) ∧ (T k).2.2.2 = true ∧ (T k).1 = own ∧ ∀ q : Nat, narrow (ty0 k) (.ref q) = .ref q ∧ fits (ty0 k) (.ref q) = true
theorem gn_putF {k idx q : Nat} (pc' : Nat) (hd : decode (gw_mC K.1) pc = .ok (.putfield idx, 3)) (hp : pc + 3 = pc') (hf : gn_FF (gw_mY K.1).cls idx ci k) (hk : Nat.blt k fs.length = true) (hs : fs.set k (.ref q) = fs') (h : gn_G cx K Γ pc' ls stk (gn_V T0 h0 ci fs' ch) c0 s0) : gn_G cx K Γ pc ls (gR q :: gR h0 :: stk) (gn_V T0 h0 ci fs ch) c0 s0 := by
  subst hp; subst hs
  obtain ⟨C, T, N, ty0, hc, hkN, hin, hlk, hpf, hnm, hfin, hdc, hnf⟩ := hf
  obtain ⟨p, l, e, R, s, mm, args, below, meth, c, Q⟩ := Γ
  intro ok H locs lsA hP hD hS hL
  refine va_putF (D := cx.1) (ci := ci) ok.1 ok.2.1 ok.2.2.2.2.1 hin ty0 hpf hnm ok.2.2.2.1 ok.2.2.2.2.2.1 hP hD hS T0.length (gn_V_self T0 h0 ci fs ch) hc k hkN (ok.2.2.2.2.1 _ hlk) (fun _ h => h) hfin ok.2.2.2.2.2.2.2.2.2.1 hdc (ty := ty0 k) (v := .ref q) (hpf k hkN) (hnf q).1 (hnf q).2 (by simpa [Nat.blt_eq] using hk) hd (fun H1 locs1 hP1 hD1 hS1 => ?_)
  rw [gn_V_set] at hP1 hD1
  exact h ok H1 locs1 lsA hP1 hD1 hS1 hL
theorem gn_get {k idx q : Nat} (pc' : Nat) (hd : decode (gw_mC K.1) pc = .ok (.getfield idx, 3)) (hp : pc + 3 = pc') (hf : gw_FL (gw_mY K.1).cls idx ci k) (hv : fs[k]? = some (.ref q)) (h : gn_G cx K Γ pc' ls (gR q :: stk) (gn_V T0 h0 ci fs ch) c0 s0) : gn_G cx K Γ pc ls (gR h0 :: stk) (gn_V T0 h0 ci fs ch) c0 s0 := by
  subst hp
  obtain ⟨C, T, N, hc, hkN, hin, hlk⟩ := hf
  obtain ⟨p, l, e, R, s, mm, args, below, meth, c, Q⟩ := Γ
  intro ok H locs lsA hP hD hS hL
  exact va_get (D := cx.1) (ci := ci) ok.1 ok.2.1 ok.2.2.2.2.1 hin ok.2.2.2.1 ok.2.2.2.2.2.1 hP T0.length (gn_V_self T0 h0 ci fs ch) hc k hkN (ok.2.2.2.2.1 _ hlk) (fun _ h => h) hv hd (h ok H locs lsA hP hD hS hL)
/-- an array of zeros -/
def gn_z (cA : ClassId) (n : Nat) : va_E := .inl (cA, n, .inl (fun _ => Int32.ofInt 0))
theorem gn_newi {n kd : Nat} {z : Int} {cA : ClassId} {atype : ArrayType} {ty : FieldType} (pc' : Nat) (hd : decode (gw_mC K.1) pc = .ok (.newarray atype, 2)) (hp : pc + 2 = pc') (hz : (n : Int) = z) (hty : newarray.typeOf atype = ty) (harr : Cond.arrayClass ty ∈ gw_tb) (hk : (gw_ty cx)[kd]? = some (cA, ty)) (hd0 : defaultValue ty = .int 0) (hcb : componentBytes ty ≤ 8) (hn : Nat.ble n 4000 = true) (hc : Nat.ble (c0 + 1) K.2.2.1 = true) (hs : Nat.ble (s0 + n) K.2.2.2.1 = true)
    (h : ∀ q : Nat, gn_G cx K Γ pc' ls (gR q :: stk) (gn_V T0 h0 ci fs (ch ++ [(q, gn_z cA n)])) (c0 + 1) (s0 + n)) : gn_G cx K Γ pc ls (gI z :: stk) (gn_V T0 h0 ci fs ch) c0 s0 := by
  subst hp; subst hz
  obtain ⟨p, l, e, R, s, mm, args, below, meth, c, Q⟩ := Γ
  intro ok H locs lsA hP hD hS hL
  have hR := ok.2.2.2.2.2.2.2.2.1
  have hbase := ok.2.2.2.2.2.2.2.1
  have h1 := Nat.le_of_ble_eq_true hn
  have h2 := Nat.le_of_ble_eq_true hc
  have h3 := Nat.le_of_ble_eq_true hs
  have hin : gw_inR (n : Int) := by unfold gw_inR; omega
  have h4 : (Int32.ofInt (n : Int)).toNatClampNeg = n := by rw [gw_clamp (by omega) hin]; rfl
  have h5 : ¬ Int32.ofInt (n : Int) < 0 := by
    intro hc0
    have := (gw_lt0 hin).mp hc0
    omega
  have h6 : n * componentBytes ty ≤ 4000 * 8 := Nat.mul_le_mul h1 hcb
  refine va_newa (D := cx.1) ok.1 ok.2.1 (by rw [hty]; exact ok.2.2.2.2.1 _ harr) hty ok.2.2.2.2.2.1 hP hD hS (fun q hq => Nat.le_trans hbase hq) (N' := n) (a0 := (n, .inl (fun _ => Int32.ofInt 0))) (fun cB => ?_) h5 h4 (by omega) (by omega) (by omega) hd (fun q cB H1 hK1 hP1 hD1 hS1 => ?_)
  · rw [hd0]
    rfl
  · have e1 := gn_cls hK1 kd hk
    subst e1
    have e2 := gn_V_app T0 h0 ci fs ch [(q, gn_z cB n)]
    refine h q ok H1 locs lsA ?_ ?_ hS1 hL
    · rw [← e2]; exact hP1
    · rw [← e2]; exact hD1
theorem gn_newo {C : String} {T : u_T} {N ci' idx : Nat} {fs0 : List Value} (ty : Nat → FieldType) (pc' : Nat) (hd : decode (gw_mC K.1) pc = .ok (.new idx, 3)) (hp : pc + 3 = pc') (hcl : Cond.classLink (gw_mY K.1).cls idx C ∈ gw_tb) (hinst : Cond.instantiable C N ∈ gw_tb) (hini : Cond.initialized C ∈ gw_tb) (hin : ∀ w ∈ u_ws C T N, w ∈ gw_tb) (hty : ∀ k, k < N → parseFieldDescriptor (T k).2.2.1 = some (ty k)) (hcc : vwCl[ci']? = some (C, T, N)) (hfs : ∀ j, j < N → defaultValue (ty j) = vp_V fs0 j) (hc : Nat.ble (c0 + 1) K.2.2.1 = true) (hs : Nat.ble (s0 + N) K.2.2.2.1 = true)
    (h : ∀ q : Nat, gn_G cx K Γ pc' ls (gR q :: stk) (gn_V T0 h0 ci fs (ch ++ [(q, .inr (ci', fs0))])) (c0 + 1) (s0 + N)) : gn_G cx K Γ pc ls stk (gn_V T0 h0 ci fs ch) c0 s0 := by
  subst hp
  obtain ⟨p, l, e, R, s, mm, args, below, meth, c, Q⟩ := Γ
  intro ok H locs lsA hP hD hS hL
  have hR := ok.2.2.2.2.2.2.2.2.1
  have hbase := ok.2.2.2.2.2.2.2.1
  have h2 := Nat.le_of_ble_eq_true hc
  have h3 := Nat.le_of_ble_eq_true hs
  refine va_new (D := cx.1) (ci := ci') ok.1 ok.2.1 ok.2.2.2.2.1 hin ty hty ok.2.2.2.1 (ok.2.2.2.2.1 _ hcl) (ok.2.2.2.2.1 _ hinst) (ok.2.2.2.2.1 _ hini) ok.2.2.2.2.2.1 hP hD hS (fun q hq => Nat.le_trans hbase hq) hcc hfs (by omega) (by omega) hd (fun q H1 hP1 hD1 hS1 => ?_)
  have e2 := gn_V_app T0 h0 ci fs ch [(q, .inr (ci', fs0))]
  rw [e2] at hP1 hD1
  exact h q ok H1 locs lsA hP1 hD1 hS1 hL
theorem gn_return (hd : decode (gw_mC K.1) pc = .ok (.return_, 1)) (hc : c0 = K.2.2.1) (hs : s0 = K.2.2.2.1) (h : K.2.2.2.2 V) : gn_G cx K Γ pc ls [] V c0 s0 := by
  subst hc; subst hs
  obtain ⟨p, l, e, R, s, mm, args, below, meth, c, Q⟩ := Γ
  intro ok H locs lsA hP hD hS hL
  exact ok.2.2.2.2.2.2.2.2.2.2 V H locs lsA pc h hd hP hD hS
end GNR
