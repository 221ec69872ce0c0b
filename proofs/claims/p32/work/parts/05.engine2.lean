/-! one row an instruction -/
def gw_rb (n : Int) : Bool := match n with
  | .ofNat k => Nat.blt k 2147483648
  | .negSucc k => Nat.blt k 2147483648
theorem gw_rb_in {n : Int} (h : gw_rb n = true) : gw_inR n := by
  unfold gw_inR
  cases n with
  | ofNat k =>
    have h1 : k < 2147483648 := by simpa [gw_rb, Nat.blt_eq] using h
    have h2 : (Int.ofNat k : Int) = (k : Int) := rfl
    exact ⟨by omega, by omega⟩
  | negSucc k =>
    have h1 : k < 2147483648 := by simpa [gw_rb, Nat.blt_eq] using h
    exact ⟨by omega, by omega⟩
theorem gw_iconst {mt d QR Γ pc ls stk m} {n : Int} (pc' : Nat) (hd : decode (gw_mC mt) pc = .ok (.iconst n, 1)) (hp : pc + 1 = pc') (hr : gw_rb n = true) (h : gw_G mt d QR Γ pc' ls (gI n :: stk) m) : gw_G mt d QR Γ pc ls stk m := by
  subst hp
  exact gw_stp h (fun ad hx hb _ _ _ k => lv_iconst hx hb hd rfl k) (fun o => gw_op (gw_rb_in hr) o)
theorem gw_bipush {mt d QR Γ pc ls stk m} {n : Int} (pc' : Nat) (hd : decode (gw_mC mt) pc = .ok (.bipush n, 2)) (hp : pc + 2 = pc') (hr : gw_rb n = true) (hv : (Int8.ofInt n).toInt32 = Int32.ofInt n) (h : gw_G mt d QR Γ pc' ls (gI n :: stk) m) : gw_G mt d QR Γ pc ls stk m := by
  subst hp
  exact gw_stp h (fun ad hx hb _ _ _ k => lv_bipush hx hb hd hv k) (fun o => gw_op (gw_rb_in hr) o)
theorem gw_sipush {mt d QR Γ pc ls stk m} {n : Int} (pc' : Nat) (hd : decode (gw_mC mt) pc = .ok (.sipush n, 3)) (hp : pc + 3 = pc') (hr : gw_rb n = true) (hv : (Int16.ofInt n).toInt32 = Int32.ofInt n) (h : gw_G mt d QR Γ pc' ls (gI n :: stk) m) : gw_G mt d QR Γ pc ls stk m := by
  subst hp
  exact gw_stp h (fun ad hx hb _ _ _ k => lv_sipush hx hb hd hv k) (fun o => gw_op (gw_rb_in hr) o)
theorem gw_ldc {mt d QR Γ pc ls stk m} {i : Nat} {v : Int32} {n : Int} (pc' : Nat) (hd : decode (gw_mC mt) pc = .ok (.ldc i, 2)) (hp : pc + 2 = pc') (hw : Cond.constant (gw_mY mt).cls i v ∈ gw_tb) (hr : gw_rb n = true) (hv : v = Int32.ofInt n) (h : gw_G mt d QR Γ pc' ls (gI n :: stk) m) : gw_G mt d QR Γ pc ls stk m := by
  subst hp; subst hv
  exact gw_stp h (fun ad hx hb ho ht _ k => lv_ldc hx hb ho (ht _ hw) hd k) (fun o => gw_op (gw_rb_in hr) o)
theorem gw_ldcw {mt d QR Γ pc ls stk m} {i : Nat} {v : Int32} {n : Int} (pc' : Nat) (hd : decode (gw_mC mt) pc = .ok (.ldc_w i, 3)) (hp : pc + 3 = pc') (hw : Cond.constant (gw_mY mt).cls i v ∈ gw_tb) (hr : gw_rb n = true) (hv : v = Int32.ofInt n) (h : gw_G mt d QR Γ pc' ls (gI n :: stk) m) : gw_G mt d QR Γ pc ls stk m := by
  subst hp; subst hv
  exact gw_stp h (fun ad hx hb ho ht _ k => lv_ldcw hx hb ho (ht _ hw) hd k) (fun o => gw_op (gw_rb_in hr) o)
theorem gw_rb_inL {n : Int} (h : gw_inR n) : gw_inL n := by
  unfold gw_inR at h
  unfold gw_inL
  omega
theorem gw_ldc2 {mt d QR Γ pc ls stk m} {i : Nat} {v : Int64} {n : Int} (pc' : Nat) (hd : decode (gw_mC mt) pc = .ok (.ldc2_w i, 3)) (hp : pc + 3 = pc') (hw : Cond.constantLong (gw_mY mt).cls i v ∈ gw_tb) (hr : gw_inL n) (hv : v = Int64.ofInt n) (h : gw_G mt d QR Γ pc' ls (gL n :: stk) m) : gw_G mt d QR Γ pc ls stk m := by
  subst hp; subst hv
  exact gw_stp h (fun ad hx hb ho ht _ k => lv_ldc2 hx hb ho (ht _ hw) hd k) (fun o => gw_op hr o)
theorem gw_lconst {mt d QR Γ pc ls stk m} {i : Fin 2} {n : Int} (pc' : Nat) (hd : decode (gw_mC mt) pc = .ok (.lconst i, 1)) (hp : pc + 1 = pc') (hr : gw_rb n = true) (hv : Int64.ofNat (i : Nat) = Int64.ofInt n) (h : gw_G mt d QR Γ pc' ls (gL n :: stk) m) : gw_G mt d QR Γ pc ls stk m := by
  subst hp
  exact gw_stp h (fun ad hx hb _ _ _ k => lv_lconst hx hb hd hv k) (fun o => gw_op (gw_rb_inL (gw_rb_in hr)) o)
theorem gw_iadd {mt d QR Γ pc ls stk m} {x y : Int} (pc' : Nat) (hd : decode (gw_mC mt) pc = .ok (.iadd, 1)) (hp : pc + 1 = pc') (h : gw_G mt d QR Γ pc' ls (gI (gw_w (x + y)) :: stk) m) : gw_G mt d QR Γ pc ls (gI y :: gI x :: stk) m := by
  subst hp
  exact gw_stp h (fun ad hx hb _ _ _ k => lv_iadd hx hb hd (by rw [gw_add]; exact k)) (fun o => gw_oc2 (gw_w_in _) o)
theorem gw_isub {mt d QR Γ pc ls stk m} {x y : Int} (pc' : Nat) (hd : decode (gw_mC mt) pc = .ok (.isub, 1)) (hp : pc + 1 = pc') (h : gw_G mt d QR Γ pc' ls (gI (gw_w (x - y)) :: stk) m) : gw_G mt d QR Γ pc ls (gI y :: gI x :: stk) m := by
  subst hp
  exact gw_stp h (fun ad hx hb _ _ _ k => lv_isub hx hb hd (by rw [gw_sub]; exact k)) (fun o => gw_oc2 (gw_w_in _) o)
theorem gw_imul {mt d QR Γ pc ls stk m} {x y : Int} (pc' : Nat) (hd : decode (gw_mC mt) pc = .ok (.imul, 1)) (hp : pc + 1 = pc') (h : gw_G mt d QR Γ pc' ls (gI (gw_w (x * y)) :: stk) m) : gw_G mt d QR Γ pc ls (gI y :: gI x :: stk) m := by
  subst hp
  exact gw_stp h (fun ad hx hb _ _ _ k => lv_imul hx hb hd (by rw [gw_mul]; exact k)) (fun o => gw_oc2 (gw_w_in _) o)
theorem gw_ineg {mt d QR Γ pc ls stk m} {x : Int} (pc' : Nat) (hd : decode (gw_mC mt) pc = .ok (.ineg, 1)) (hp : pc + 1 = pc') (h : gw_G mt d QR Γ pc' ls (gI (gw_w (-x)) :: stk) m) : gw_G mt d QR Γ pc ls (gI x :: stk) m := by
  subst hp
  exact gw_stp h (fun ad hx hb _ _ _ k => lv_ineg hx hb hd (by rw [gw_neg]; exact k)) (fun o => gw_oc (gw_w_in _) o)
theorem gw_nz {y : Int} (hy : gw_inR y) (h : y ≠ 0) : ¬ Int32.ofInt y = 0 := by
  rw [gw_zero, gw_eq hy gw_in0]
  exact h
theorem gw_idiv {mt d QR Γ pc ls stk m} {x y : Int} (pc' : Nat) (hd : decode (gw_mC mt) pc = .ok (.idiv, 1)) (hp : pc + 1 = pc') (hz : y ≠ 0) (h : gw_G mt d QR Γ pc' ls (gI (gw_w (x.tdiv y)) :: stk) m) : gw_G mt d QR Γ pc ls (gI y :: gI x :: stk) m := by
  subst hp
  exact gw_stp h (fun ad hx hb _ _ o k => lv_idiv hx hb hd (gw_nz (gw_o0 o) hz) (by rw [gw_div (gw_o1 o) (gw_o0 o)]; exact k)) (fun o => gw_oc2 (gw_w_in _) o)
theorem gw_irem {mt d QR Γ pc ls stk m} {x y : Int} (pc' : Nat) (hd : decode (gw_mC mt) pc = .ok (.irem, 1)) (hp : pc + 1 = pc') (hz : y ≠ 0) (h : gw_G mt d QR Γ pc' ls (gI (x.tmod y) :: stk) m) : gw_G mt d QR Γ pc ls (gI y :: gI x :: stk) m := by
  subst hp
  exact gw_stp h (fun ad hx hb _ _ o k => lv_irem hx hb hd (gw_nz (gw_o0 o) hz) (by rw [gw_rem (gw_o1 o) (gw_o0 o)]; exact k)) (fun o => gw_oc2 (gw_tmod_in (gw_o1 o)) o)
theorem gw_ishl {mt d QR Γ pc ls stk m} {x y : Int} (pc' : Nat) (hd : decode (gw_mC mt) pc = .ok (.ishl, 1)) (hp : pc + 1 = pc') (h : gw_G mt d QR Γ pc' ls (gI (gw_shl x y) :: stk) m) : gw_G mt d QR Γ pc ls (gI y :: gI x :: stk) m := by
  subst hp
  exact gw_stp h (fun ad hx hb _ _ _ k => lv_ishl hx hb hd (by rw [gw_eqv (v := Int32.ofInt x <<< (Int32.ofInt y &&& 31)) (x := gw_shl x y) rfl]; exact k)) (fun o => gw_oc2 (gw_rng _) o)
theorem gw_ishr {mt d QR Γ pc ls stk m} {x y : Int} (pc' : Nat) (hd : decode (gw_mC mt) pc = .ok (.ishr, 1)) (hp : pc + 1 = pc') (h : gw_G mt d QR Γ pc' ls (gI (gw_shr x y) :: stk) m) : gw_G mt d QR Γ pc ls (gI y :: gI x :: stk) m := by
  subst hp
  exact gw_stp h (fun ad hx hb _ _ _ k => lv_ishr hx hb hd (by rw [gw_eqv (v := Int32.ofInt x >>> (Int32.ofInt y &&& 31)) (x := gw_shr x y) rfl]; exact k)) (fun o => gw_oc2 (gw_rng _) o)
theorem gw_iand {mt d QR Γ pc ls stk m} {x y : Int} (pc' : Nat) (hd : decode (gw_mC mt) pc = .ok (.iand, 1)) (hp : pc + 1 = pc') (h : gw_G mt d QR Γ pc' ls (gI (gw_and x y) :: stk) m) : gw_G mt d QR Γ pc ls (gI y :: gI x :: stk) m := by
  subst hp
  exact gw_stp h (fun ad hx hb _ _ _ k => lv_iand hx hb hd (by rw [gw_eqv (v := Int32.ofInt x &&& Int32.ofInt y) (x := gw_and x y) rfl]; exact k)) (fun o => gw_oc2 (gw_rng _) o)
theorem gw_ior {mt d QR Γ pc ls stk m} {x y : Int} (pc' : Nat) (hd : decode (gw_mC mt) pc = .ok (.ior, 1)) (hp : pc + 1 = pc') (h : gw_G mt d QR Γ pc' ls (gI (gw_or x y) :: stk) m) : gw_G mt d QR Γ pc ls (gI y :: gI x :: stk) m := by
  subst hp
  exact gw_stp h (fun ad hx hb _ _ _ k => lv_ior hx hb hd (by rw [gw_eqv (v := Int32.ofInt x ||| Int32.ofInt y) (x := gw_or x y) rfl]; exact k)) (fun o => gw_oc2 (gw_rng _) o)
theorem gw_i2bR {mt d QR Γ pc ls stk m} {x : Int} (pc' : Nat) (hd : decode (gw_mC mt) pc = .ok (.i2b, 1)) (hp : pc + 1 = pc') (h : gw_G mt d QR Γ pc' ls (gI (gw_i2b x) :: stk) m) : gw_G mt d QR Γ pc ls (gI x :: stk) m := by
  subst hp
  exact gw_stp h (fun ad hx hb _ _ _ k => lv_i2b hx hb hd (v := Int32.ofInt (gw_i2b x)) (gw_eqv rfl) k) (fun o => gw_oc (gw_rng _) o)
theorem gw_i2sR {mt d QR Γ pc ls stk m} {x : Int} (pc' : Nat) (hd : decode (gw_mC mt) pc = .ok (.i2s, 1)) (hp : pc + 1 = pc') (h : gw_G mt d QR Γ pc' ls (gI (gw_i2s x) :: stk) m) : gw_G mt d QR Γ pc ls (gI x :: stk) m := by
  subst hp
  exact gw_stp h (fun ad hx hb _ _ _ k => lv_i2s hx hb hd (v := Int32.ofInt (gw_i2s x)) (gw_eqv rfl) k) (fun o => gw_oc (gw_rng _) o)
theorem gw_i2lR {mt d QR Γ pc ls stk m} {x : Int} (pc' : Nat) (hd : decode (gw_mC mt) pc = .ok (.i2l, 1)) (hp : pc + 1 = pc') (h : gw_G mt d QR Γ pc' ls (gL x :: stk) m) : gw_G mt d QR Γ pc ls (gI x :: stk) m := by
  subst hp
  exact gw_stp h (fun ad hx hb _ _ o k => lv_i2l hx hb hd (gw_i2l (gw_o0 o)) k) (fun o => gw_oc (gw_rb_inL (gw_o0 o)) o)
theorem gw_l2iR {mt d QR Γ pc ls stk m} {x : Int} (pc' : Nat) (hd : decode (gw_mC mt) pc = .ok (.l2i, 1)) (hp : pc + 1 = pc') (h : gw_G mt d QR Γ pc' ls (gI (gw_w x) :: stk) m) : gw_G mt d QR Γ pc ls (gL x :: stk) m := by
  subst hp
  exact gw_stp h (fun ad hx hb _ _ _ k => lv_l2i hx hb hd (gw_l2i x) k) (fun o => gw_oc (gw_w_in _) o)
theorem gw_ladd {mt d QR Γ pc ls stk m} {x y : Int} (pc' : Nat) (hd : decode (gw_mC mt) pc = .ok (.ladd, 1)) (hp : pc + 1 = pc') (h : gw_G mt d QR Γ pc' ls (gL (gw_wl (x + y)) :: stk) m) : gw_G mt d QR Γ pc ls (gL y :: gL x :: stk) m := by
  subst hp
  exact gw_stp h (fun ad hx hb _ _ _ k => lv_ladd hx hb hd (by rw [gw_addL]; exact k)) (fun o => gw_oc2 (gw_wl_in _) o)
theorem gw_land {mt d QR Γ pc ls stk m} {x y : Int} (pc' : Nat) (hd : decode (gw_mC mt) pc = .ok (.land, 1)) (hp : pc + 1 = pc') (h : gw_G mt d QR Γ pc' ls (gL (gw_andL x y) :: stk) m) : gw_G mt d QR Γ pc ls (gL y :: gL x :: stk) m := by
  subst hp
  exact gw_stp h (fun ad hx hb _ _ _ k => lv_land hx hb hd (by rw [gw_eqvL (v := Int64.ofInt x &&& Int64.ofInt y) (x := gw_andL x y) rfl]; exact k)) (fun o => gw_oc2 (gw_rngL _) o)
theorem gw_lor {mt d QR Γ pc ls stk m} {x y : Int} (pc' : Nat) (hd : decode (gw_mC mt) pc = .ok (.lor, 1)) (hp : pc + 1 = pc') (h : gw_G mt d QR Γ pc' ls (gL (gw_orL x y) :: stk) m) : gw_G mt d QR Γ pc ls (gL y :: gL x :: stk) m := by
  subst hp
  exact gw_stp h (fun ad hx hb _ _ _ k => lv_lor hx hb hd (by rw [gw_eqvL (v := Int64.ofInt x ||| Int64.ofInt y) (x := gw_orL x y) rfl]; exact k)) (fun o => gw_oc2 (gw_rngL _) o)
theorem gw_lshl {mt d QR Γ pc ls stk m} {x y : Int} (pc' : Nat) (hd : decode (gw_mC mt) pc = .ok (.lshl, 1)) (hp : pc + 1 = pc') (h : gw_G mt d QR Γ pc' ls (gL (gw_shlL x y) :: stk) m) : gw_G mt d QR Γ pc ls (gI y :: gL x :: stk) m := by
  subst hp
  exact gw_stp h (fun ad hx hb _ _ _ k => lv_lshl hx hb hd (v := Int64.ofInt (gw_shlL x y)) (gw_eqvL rfl) k) (fun o => gw_oc2 (gw_rngL _) o)
theorem gw_lshr {mt d QR Γ pc ls stk m} {x y : Int} (pc' : Nat) (hd : decode (gw_mC mt) pc = .ok (.lshr, 1)) (hp : pc + 1 = pc') (h : gw_G mt d QR Γ pc' ls (gL (gw_shrL x y) :: stk) m) : gw_G mt d QR Γ pc ls (gI y :: gL x :: stk) m := by
  subst hp
  exact gw_stp h (fun ad hx hb _ _ _ k => lv_lshr hx hb hd (v := Int64.ofInt (gw_shrL x y)) (gw_eqvL rfl) k) (fun o => gw_oc2 (gw_rngL _) o)
theorem gw_lushr {mt d QR Γ pc ls stk m} {x y : Int} (pc' : Nat) (hd : decode (gw_mC mt) pc = .ok (.lushr, 1)) (hp : pc + 1 = pc') (h : gw_G mt d QR Γ pc' ls (gL (gw_ushrL x y) :: stk) m) : gw_G mt d QR Γ pc ls (gI y :: gL x :: stk) m := by
  subst hp
  exact gw_stp h (fun ad hx hb _ _ _ k => lv_lushr hx hb hd (v := Int64.ofInt (gw_ushrL x y)) (gw_eqvL rfl) k) (fun o => gw_oc2 (gw_rngL _) o)
theorem gw_lcmpR {mt d QR Γ pc ls stk m} {x y : Int} (pc' : Nat) (hd : decode (gw_mC mt) pc = .ok (.lcmp, 1)) (hp : pc + 1 = pc') (h : gw_G mt d QR Γ pc' ls (gI (gw_cmp x y) :: stk) m) : gw_G mt d QR Γ pc ls (gL y :: gL x :: stk) m := by
  subst hp
  exact gw_stp h (fun ad hx hb _ _ o k => W.lcmp hx hb hd (by rw [gw_lcmp (gw_o1 o) (gw_o0 o)]; exact k)) (fun o => gw_oc2 (gw_cmp_in _ _) o)
theorem gw_c1 {ad : Nat → Nat} {v : gw_SV} (h : gw_nl [some v] 1 = true) : (gw_cv ad v).category = 1 := by
  rcases v with x | x | o
  · rfl
  · cases h
  · rfl
theorem gw_dup {mt d QR Γ pc ls stk m} {v : gw_SV} (pc' : Nat) (hd : decode (gw_mC mt) pc = .ok (.dup, 1)) (hp : pc + 1 = pc') (hv : gw_nl [some v] 1 = true) (h : gw_G mt d QR Γ pc' ls (v :: v :: stk) m) : gw_G mt d QR Γ pc ls (v :: stk) m := by
  subst hp
  exact gw_stp h (fun ad hx hb _ _ _ k => lv_dup hx hb hd (gw_c1 hv) k) (fun o => gw_op (gw_o0 o) o)
theorem gw_pop {mt d QR Γ pc ls stk m} {v : gw_SV} (pc' : Nat) (hd : decode (gw_mC mt) pc = .ok (.pop, 1)) (hp : pc + 1 = pc') (hv : gw_nl [some v] 1 = true) (h : gw_G mt d QR Γ pc' ls stk m) : gw_G mt d QR Γ pc ls (v :: stk) m := by
  subst hp
  exact gw_stp h (fun ad hx hb _ _ _ k => lv_pop hx hb hd (gw_c1 hv) k) (fun o => gw_ot o)
theorem gw_dup2 {mt d QR Γ pc ls stk m} {v w : gw_SV} (pc' : Nat) (hd : decode (gw_mC mt) pc = .ok (.dup2, 1)) (hp : pc + 1 = pc') (hv : gw_nl [some v] 1 = true) (hw : gw_nl [some w] 1 = true) (h : gw_G mt d QR Γ pc' ls (v :: w :: v :: w :: stk) m) : gw_G mt d QR Γ pc ls (v :: w :: stk) m := by
  subst hp
  exact gw_stp h (fun ad hx hb _ _ _ k => lv_dup2_11 hx hb hd (gw_c1 hv) (gw_c1 hw) k) (fun o => gw_op (gw_o0 o) (gw_op (gw_o1 o) o))
theorem gw_goto {mt d QR Γ pc ls stk m} {off : Int} (pc' : Nat) (hd : decode (gw_mC mt) pc = .ok (.goto off, 3)) (hp : (pc : Int) + off = (pc' : Int)) (h : gw_G mt d QR Γ pc' ls stk m) : gw_G mt d QR Γ pc ls stk m :=
  gw_stp h (fun ad hx hb _ _ _ k => lv_goto hx hb hd hp k) (fun o => o)
/-! branches -/
theorem gw_br {mt : gw_MT} {d QR Γ pc p1 p2 ls} {stk stk' : List gw_SV} {m} {c : Prop} (ht : c → gw_G mt d QR Γ p1 ls stk' m) (hf : ¬ c → gw_G mt d QR Γ p2 ls stk' m)
    (hs : ∀ {p : Program} {l : Launch} {e : Env} {R : Room} {s : State} {mm : MethodId} {args : Array Value} {below : List Frame} {meth : Method} {cd : Code} {H : Heap} {locs : List Loc} {cells slots : Nat} {Q : State → Prop} {lsA : Array Slot} (ad : Nat → Nat), p.tables.exec = Jvm.exec → cd.code = gw_mC mt → (∀ v ∈ stk, gw_okV v) → (c → W p l e R s mm args below meth cd H locs cells slots Q (F0 mm p1 lsA (stk'.map (gw_cv ad)))) → (¬ c → W p l e R s mm args below meth cd H locs cells slots Q (F0 mm p2 lsA (stk'.map (gw_cv ad)))) → W p l e R s mm args below meth cd H locs cells slots Q (F0 mm pc lsA (stk.map (gw_cv ad))))
    (ho : (∀ v ∈ stk, gw_okV v) → ∀ v ∈ stk', gw_okV v) : gw_G mt d QR Γ pc ls stk m := by
  obtain ⟨cx, p, l, e, R, s, mm, args, below, meth, cd, ⟨c0, s0⟩, Q⟩ := Γ
  intro ok o1 o2 o3 H locs lsA hP hS hl
  exact hs cx.2.2.1 ok.1 ok.2.1 o2 (fun hc => ht hc ok o1 (ho o2) o3 H locs lsA hP hS hl) (fun hc => hf hc ok o1 (ho o2) o3 H locs lsA hP hS hl)
theorem gw_if_eq {mt d QR Γ pc ls stk m} {x : Int} {off : Int} (tgt pc' : Nat) (hd : decode (gw_mC mt) pc = .ok (.ifCond .eq off, 3)) (ht : (pc : Int) + off = (tgt : Int)) (hp : pc + 3 = pc') (kt : x = 0 → gw_G mt d QR Γ tgt ls stk m) (kf : ¬ x = 0 → gw_G mt d QR Γ pc' ls stk m) : gw_G mt d QR Γ pc ls (gI x :: stk) m := by
  subst hp
  exact gw_br (c := x = 0) kt kf (fun ad hx hb o kt kf => lv_if_eq hx hb hd ht (fun hc => kt ((gw_eq0 (gw_o0 o)).mp hc)) (fun hc => kf (fun z => hc ((gw_eq0 (gw_o0 o)).mpr z)))) (fun o => gw_ot o)
theorem gw_icmp_eq {mt d QR Γ pc ls stk m} {x y : Int} {off : Int} (tgt pc' : Nat) (hd : decode (gw_mC mt) pc = .ok (.if_icmp .eq off, 3)) (ht : (pc : Int) + off = (tgt : Int)) (hp : pc + 3 = pc') (kt : x = y → gw_G mt d QR Γ tgt ls stk m) (kf : ¬ x = y → gw_G mt d QR Γ pc' ls stk m) : gw_G mt d QR Γ pc ls (gI y :: gI x :: stk) m := by
  subst hp
  exact gw_br (c := x = y) kt kf (fun ad hx hb o kt kf => lv_icmp_eq hx hb hd ht (fun hc => kt ((gw_eq (gw_o1 o) (gw_o0 o)).mp hc)) (fun hc => kf (fun z => hc ((gw_eq (gw_o1 o) (gw_o0 o)).mpr z)))) (fun o => gw_ot (gw_ot o))
theorem gw_if_ne {mt d QR Γ pc ls stk m} {x : Int} {off : Int} (tgt pc' : Nat) (hd : decode (gw_mC mt) pc = .ok (.ifCond .ne off, 3)) (ht : (pc : Int) + off = (tgt : Int)) (hp : pc + 3 = pc') (kt : x = 0 → gw_G mt d QR Γ pc' ls stk m) (kf : ¬ x = 0 → gw_G mt d QR Γ tgt ls stk m) : gw_G mt d QR Γ pc ls (gI x :: stk) m := by
  subst hp
  exact gw_br (c := x = 0) kt kf (fun ad hx hb o kt kf => lv_if_ne hx hb hd ht (fun hc => kf (fun z => hc ((gw_eq0 (gw_o0 o)).mpr z))) (fun hc => kt ((gw_eq0 (gw_o0 o)).mp hc))) (fun o => gw_ot o)
theorem gw_icmp_ne {mt d QR Γ pc ls stk m} {x y : Int} {off : Int} (tgt pc' : Nat) (hd : decode (gw_mC mt) pc = .ok (.if_icmp .ne off, 3)) (ht : (pc : Int) + off = (tgt : Int)) (hp : pc + 3 = pc') (kt : x = y → gw_G mt d QR Γ pc' ls stk m) (kf : ¬ x = y → gw_G mt d QR Γ tgt ls stk m) : gw_G mt d QR Γ pc ls (gI y :: gI x :: stk) m := by
  subst hp
  exact gw_br (c := x = y) kt kf (fun ad hx hb o kt kf => lv_icmp_ne hx hb hd ht (fun hc => kf (fun z => hc ((gw_eq (gw_o1 o) (gw_o0 o)).mpr z))) (fun hc => kt ((gw_eq (gw_o1 o) (gw_o0 o)).mp hc))) (fun o => gw_ot (gw_ot o))
theorem gw_if_lt {mt d QR Γ pc ls stk m} {x : Int} {off : Int} (tgt pc' : Nat) (hd : decode (gw_mC mt) pc = .ok (.ifCond .lt off, 3)) (ht : (pc : Int) + off = (tgt : Int)) (hp : pc + 3 = pc') (kt : x < 0 → gw_G mt d QR Γ tgt ls stk m) (kf : ¬ x < 0 → gw_G mt d QR Γ pc' ls stk m) : gw_G mt d QR Γ pc ls (gI x :: stk) m := by
  subst hp
  exact gw_br (c := x < 0) kt kf (fun ad hx hb o kt kf => lv_if_lt hx hb hd ht (fun hc => kt ((gw_lt0 (gw_o0 o)).mp hc)) (fun hc => kf (fun z => hc ((gw_lt0 (gw_o0 o)).mpr z)))) (fun o => gw_ot o)
theorem gw_icmp_lt {mt d QR Γ pc ls stk m} {x y : Int} {off : Int} (tgt pc' : Nat) (hd : decode (gw_mC mt) pc = .ok (.if_icmp .lt off, 3)) (ht : (pc : Int) + off = (tgt : Int)) (hp : pc + 3 = pc') (kt : x < y → gw_G mt d QR Γ tgt ls stk m) (kf : ¬ x < y → gw_G mt d QR Γ pc' ls stk m) : gw_G mt d QR Γ pc ls (gI y :: gI x :: stk) m := by
  subst hp
  exact gw_br (c := x < y) kt kf (fun ad hx hb o kt kf => lv_icmp_lt hx hb hd ht (fun hc => kt ((gw_lt (gw_o1 o) (gw_o0 o)).mp hc)) (fun hc => kf (fun z => hc ((gw_lt (gw_o1 o) (gw_o0 o)).mpr z)))) (fun o => gw_ot (gw_ot o))
theorem gw_if_ge {mt d QR Γ pc ls stk m} {x : Int} {off : Int} (tgt pc' : Nat) (hd : decode (gw_mC mt) pc = .ok (.ifCond .ge off, 3)) (ht : (pc : Int) + off = (tgt : Int)) (hp : pc + 3 = pc') (kt : 0 ≤ x → gw_G mt d QR Γ tgt ls stk m) (kf : ¬ 0 ≤ x → gw_G mt d QR Γ pc' ls stk m) : gw_G mt d QR Γ pc ls (gI x :: stk) m := by
  subst hp
  exact gw_br (c := 0 ≤ x) kt kf (fun ad hx hb o kt kf => lv_if_ge hx hb hd ht (fun hc => kt ((gw_0le (gw_o0 o)).mp hc)) (fun hc => kf (fun z => hc ((gw_0le (gw_o0 o)).mpr z)))) (fun o => gw_ot o)
theorem gw_icmp_ge {mt d QR Γ pc ls stk m} {x y : Int} {off : Int} (tgt pc' : Nat) (hd : decode (gw_mC mt) pc = .ok (.if_icmp .ge off, 3)) (ht : (pc : Int) + off = (tgt : Int)) (hp : pc + 3 = pc') (kt : y ≤ x → gw_G mt d QR Γ tgt ls stk m) (kf : ¬ y ≤ x → gw_G mt d QR Γ pc' ls stk m) : gw_G mt d QR Γ pc ls (gI y :: gI x :: stk) m := by
  subst hp
  exact gw_br (c := y ≤ x) kt kf (fun ad hx hb o kt kf => lv_icmp_ge hx hb hd ht (fun hc => kt ((gw_le (gw_o0 o) (gw_o1 o)).mp hc)) (fun hc => kf (fun z => hc ((gw_le (gw_o0 o) (gw_o1 o)).mpr z)))) (fun o => gw_ot (gw_ot o))
theorem gw_if_gt {mt d QR Γ pc ls stk m} {x : Int} {off : Int} (tgt pc' : Nat) (hd : decode (gw_mC mt) pc = .ok (.ifCond .gt off, 3)) (ht : (pc : Int) + off = (tgt : Int)) (hp : pc + 3 = pc') (kt : 0 < x → gw_G mt d QR Γ tgt ls stk m) (kf : ¬ 0 < x → gw_G mt d QR Γ pc' ls stk m) : gw_G mt d QR Γ pc ls (gI x :: stk) m := by
  subst hp
  exact gw_br (c := 0 < x) kt kf (fun ad hx hb o kt kf => lv_if_gt hx hb hd ht (fun hc => kt ((gw_0lt (gw_o0 o)).mp hc)) (fun hc => kf (fun z => hc ((gw_0lt (gw_o0 o)).mpr z)))) (fun o => gw_ot o)
theorem gw_icmp_gt {mt d QR Γ pc ls stk m} {x y : Int} {off : Int} (tgt pc' : Nat) (hd : decode (gw_mC mt) pc = .ok (.if_icmp .gt off, 3)) (ht : (pc : Int) + off = (tgt : Int)) (hp : pc + 3 = pc') (kt : y < x → gw_G mt d QR Γ tgt ls stk m) (kf : ¬ y < x → gw_G mt d QR Γ pc' ls stk m) : gw_G mt d QR Γ pc ls (gI y :: gI x :: stk) m := by
  subst hp
  exact gw_br (c := y < x) kt kf (fun ad hx hb o kt kf => lv_icmp_gt hx hb hd ht (fun hc => kt ((gw_lt (gw_o0 o) (gw_o1 o)).mp hc)) (fun hc => kf (fun z => hc ((gw_lt (gw_o0 o) (gw_o1 o)).mpr z)))) (fun o => gw_ot (gw_ot o))
theorem gw_if_le {mt d QR Γ pc ls stk m} {x : Int} {off : Int} (tgt pc' : Nat) (hd : decode (gw_mC mt) pc = .ok (.ifCond .le off, 3)) (ht : (pc : Int) + off = (tgt : Int)) (hp : pc + 3 = pc') (kt : x ≤ 0 → gw_G mt d QR Γ tgt ls stk m) (kf : ¬ x ≤ 0 → gw_G mt d QR Γ pc' ls stk m) : gw_G mt d QR Γ pc ls (gI x :: stk) m := by
  subst hp
  exact gw_br (c := x ≤ 0) kt kf (fun ad hx hb o kt kf => lv_if_le hx hb hd ht (fun hc => kt ((gw_le0 (gw_o0 o)).mp hc)) (fun hc => kf (fun z => hc ((gw_le0 (gw_o0 o)).mpr z)))) (fun o => gw_ot o)
theorem gw_icmp_le {mt d QR Γ pc ls stk m} {x y : Int} {off : Int} (tgt pc' : Nat) (hd : decode (gw_mC mt) pc = .ok (.if_icmp .le off, 3)) (ht : (pc : Int) + off = (tgt : Int)) (hp : pc + 3 = pc') (kt : x ≤ y → gw_G mt d QR Γ tgt ls stk m) (kf : ¬ x ≤ y → gw_G mt d QR Γ pc' ls stk m) : gw_G mt d QR Γ pc ls (gI y :: gI x :: stk) m := by
  subst hp
  exact gw_br (c := x ≤ y) kt kf (fun ad hx hb o kt kf => lv_icmp_le hx hb hd ht (fun hc => kt ((gw_le (gw_o1 o) (gw_o0 o)).mp hc)) (fun hc => kf (fun z => hc ((gw_le (gw_o1 o) (gw_o0 o)).mpr z)))) (fun o => gw_ot (gw_ot o))
/-! locals -/
theorem gw_iload_n {mt d QR Γ pc ls stk m} {k : Fin 4} {x : Int} (pc' : Nat) (hd : decode (gw_mC mt) pc = .ok (.iload_n k, 1)) (hp : pc + 1 = pc') (hl : ls[(k : Nat)]? = some (some (gI x))) (h : gw_G mt d QR Γ pc' ls (gI x :: stk) m) : gw_G mt d QR Γ pc ls stk m := by
  subst hp
  obtain ⟨cx, p, l, e, R, s, mm, args, below, meth, cd, ⟨c0, s0⟩, Q⟩ := Γ
  intro ok o1 o2 o3 H locs lsA hP hS hL
  exact lv_iload_n ok.1 ok.2.1 hd rfl (hL.2.2.2 _ _ hl) (h ok o1 (gw_op (o1 _ (List.mem_of_getElem? hl)) o2) o3 H locs lsA hP hS hL)
theorem gw_iload {mt d QR Γ pc ls stk m} {k : Nat} {x : Int} (pc' : Nat) (hd : decode (gw_mC mt) pc = .ok (.iload k, 2)) (hp : pc + 2 = pc') (hl : ls[k]? = some (some (gI x))) (h : gw_G mt d QR Γ pc' ls (gI x :: stk) m) : gw_G mt d QR Γ pc ls stk m := by
  subst hp
  obtain ⟨cx, p, l, e, R, s, mm, args, below, meth, cd, ⟨c0, s0⟩, Q⟩ := Γ
  intro ok o1 o2 o3 H locs lsA hP hS hL
  exact lv_iload ok.1 ok.2.1 hd (hL.2.2.2 _ _ hl) (h ok o1 (gw_op (o1 _ (List.mem_of_getElem? hl)) o2) o3 H locs lsA hP hS hL)
theorem gw_lload_n {mt d QR Γ pc ls stk m} {k : Fin 4} {x : Int} (pc' : Nat) (hd : decode (gw_mC mt) pc = .ok (.lload_n k, 1)) (hp : pc + 1 = pc') (hl : ls[(k : Nat)]? = some (some (gL x))) (h : gw_G mt d QR Γ pc' ls (gL x :: stk) m) : gw_G mt d QR Γ pc ls stk m := by
  subst hp
  obtain ⟨cx, p, l, e, R, s, mm, args, below, meth, cd, ⟨c0, s0⟩, Q⟩ := Γ
  intro ok o1 o2 o3 H locs lsA hP hS hL
  exact lv_lload_n ok.1 ok.2.1 hd rfl (hL.2.2.2 _ _ hl) (h ok o1 (gw_op (o1 _ (List.mem_of_getElem? hl)) o2) o3 H locs lsA hP hS hL)
theorem gw_lload {mt d QR Γ pc ls stk m} {k : Nat} {x : Int} (pc' : Nat) (hd : decode (gw_mC mt) pc = .ok (.lload k, 2)) (hp : pc + 2 = pc') (hl : ls[k]? = some (some (gL x))) (h : gw_G mt d QR Γ pc' ls (gL x :: stk) m) : gw_G mt d QR Γ pc ls stk m := by
  subst hp
  obtain ⟨cx, p, l, e, R, s, mm, args, below, meth, cd, ⟨c0, s0⟩, Q⟩ := Γ
  intro ok o1 o2 o3 H locs lsA hP hS hL
  exact lv_lload ok.1 ok.2.1 hd (hL.2.2.2 _ _ hl) (h ok o1 (gw_op (o1 _ (List.mem_of_getElem? hl)) o2) o3 H locs lsA hP hS hL)
theorem gw_aload_n {mt d QR Γ pc ls stk m} {k : Fin 4} {x : Nat} (pc' : Nat) (hd : decode (gw_mC mt) pc = .ok (.aload_n k, 1)) (hp : pc + 1 = pc') (hl : ls[(k : Nat)]? = some (some (gR x))) (h : gw_G mt d QR Γ pc' ls (gR x :: stk) m) : gw_G mt d QR Γ pc ls stk m := by
  subst hp
  obtain ⟨cx, p, l, e, R, s, mm, args, below, meth, cd, ⟨c0, s0⟩, Q⟩ := Γ
  intro ok o1 o2 o3 H locs lsA hP hS hL
  exact lv_aload_n ok.1 ok.2.1 hd rfl (hL.2.2.2 _ _ hl) (h ok o1 (gw_op (o1 _ (List.mem_of_getElem? hl)) o2) o3 H locs lsA hP hS hL)
theorem gw_aload {mt d QR Γ pc ls stk m} {k : Nat} {x : Nat} (pc' : Nat) (hd : decode (gw_mC mt) pc = .ok (.aload k, 2)) (hp : pc + 2 = pc') (hl : ls[k]? = some (some (gR x))) (h : gw_G mt d QR Γ pc' ls (gR x :: stk) m) : gw_G mt d QR Γ pc ls stk m := by
  subst hp
  obtain ⟨cx, p, l, e, R, s, mm, args, below, meth, cd, ⟨c0, s0⟩, Q⟩ := Γ
  intro ok o1 o2 o3 H locs lsA hP hS hL
  exact lv_aload ok.1 ok.2.1 hd (hL.2.2.2 _ _ hl) (h ok o1 (gw_op (o1 _ (List.mem_of_getElem? hl)) o2) o3 H locs lsA hP hS hL)
theorem gw_setok {ls : List (Option gw_SV)} {i : Nat} {v : gw_SV} (h : ∀ w, some w ∈ ls → gw_okV w) (hv : gw_okV v) : ∀ w, some w ∈ ls.set i (some v) → gw_okV w := by
  intro w hw
  rcases List.mem_or_eq_of_mem_set hw with h1 | h1
  · exact h w h1
  · cases h1
    exact hv
theorem gw_istore_n {mt d QR Γ pc ls ls' stk m} {k : Fin 4} {x : Int} (pc' : Nat) (hd : decode (gw_mC mt) pc = .ok (.istore_n k, 1)) (hp : pc + 1 = pc') (hn : gw_nl ls k = true) (hk : Nat.blt k (gw_mL mt) = true) (hs : ls.set k (some (gI x)) = ls') (h : gw_G mt d QR Γ pc' ls' stk m) : gw_G mt d QR Γ pc ls (gI x :: stk) m := by
  subst hp; subst hs
  obtain ⟨cx, p, l, e, R, s, mm, args, below, meth, cd, ⟨c0, s0⟩, Q⟩ := Γ
  intro ok o1 o2 o3 H locs lsA hP hS hL
  exact lv_istore_n ok.1 ok.2.1 hd rfl (gw_ls_lv hL) (by simpa [Nat.blt_eq] using hk) rfl (fun lsB hB => h ok (gw_setok o1 (gw_o0 o2)) (gw_ot o2) o3 H locs lsB hP hS (gw_ls_store hL hn hB))
theorem gw_istore {mt d QR Γ pc ls ls' stk m} {k : Nat} {x : Int} (pc' : Nat) (hd : decode (gw_mC mt) pc = .ok (.istore k, 2)) (hp : pc + 2 = pc') (hn : gw_nl ls k = true) (hk : Nat.blt k (gw_mL mt) = true) (hs : ls.set k (some (gI x)) = ls') (h : gw_G mt d QR Γ pc' ls' stk m) : gw_G mt d QR Γ pc ls (gI x :: stk) m := by
  subst hp; subst hs
  obtain ⟨cx, p, l, e, R, s, mm, args, below, meth, cd, ⟨c0, s0⟩, Q⟩ := Γ
  intro ok o1 o2 o3 H locs lsA hP hS hL
  exact lv_istore ok.1 ok.2.1 hd (gw_ls_lv hL) (by simpa [Nat.blt_eq] using hk) rfl (fun lsB hB => h ok (gw_setok o1 (gw_o0 o2)) (gw_ot o2) o3 H locs lsB hP hS (gw_ls_store hL hn hB))
theorem gw_astore_n {mt d QR Γ pc ls ls' stk m} {k : Fin 4} {x : Nat} (pc' : Nat) (hd : decode (gw_mC mt) pc = .ok (.astore_n k, 1)) (hp : pc + 1 = pc') (hn : gw_nl ls k = true) (hk : Nat.blt k (gw_mL mt) = true) (hs : ls.set k (some (gR x)) = ls') (h : gw_G mt d QR Γ pc' ls' stk m) : gw_G mt d QR Γ pc ls (gR x :: stk) m := by
  subst hp; subst hs
  obtain ⟨cx, p, l, e, R, s, mm, args, below, meth, cd, ⟨c0, s0⟩, Q⟩ := Γ
  intro ok o1 o2 o3 H locs lsA hP hS hL
  exact lv_astore_n ok.1 ok.2.1 hd rfl (gw_ls_lv hL) (by simpa [Nat.blt_eq] using hk) rfl (fun lsB hB => h ok (gw_setok o1 (gw_o0 o2)) (gw_ot o2) o3 H locs lsB hP hS (gw_ls_store hL hn hB))
theorem gw_astore {mt d QR Γ pc ls ls' stk m} {k : Nat} {x : Nat} (pc' : Nat) (hd : decode (gw_mC mt) pc = .ok (.astore k, 2)) (hp : pc + 2 = pc') (hn : gw_nl ls k = true) (hk : Nat.blt k (gw_mL mt) = true) (hs : ls.set k (some (gR x)) = ls') (h : gw_G mt d QR Γ pc' ls' stk m) : gw_G mt d QR Γ pc ls (gR x :: stk) m := by
  subst hp; subst hs
  obtain ⟨cx, p, l, e, R, s, mm, args, below, meth, cd, ⟨c0, s0⟩, Q⟩ := Γ
  intro ok o1 o2 o3 H locs lsA hP hS hL
  exact lv_astore ok.1 ok.2.1 hd (gw_ls_lv hL) (by simpa [Nat.blt_eq] using hk) rfl (fun lsB hB => h ok (gw_setok o1 (gw_o0 o2)) (gw_ot o2) o3 H locs lsB hP hS (gw_ls_store hL hn hB))
theorem gw_iinc {mt d QR Γ pc ls ls' stk m} {i : Nat} {n x : Int} (pc' : Nat) (hd : decode (gw_mC mt) pc = .ok (.iinc i n, 3)) (hp : pc + 3 = pc') (hl : ls[i]? = some (some (gI x))) (hn : gw_nl ls i = true) (hk : Nat.blt i (gw_mL mt) = true) (hs : ls.set i (some (gI (gw_w (x + n)))) = ls') (h : gw_G mt d QR Γ pc' ls' stk m) : gw_G mt d QR Γ pc ls stk m := by
  subst hp; subst hs
  obtain ⟨cx, p, l, e, R, s, mm, args, below, meth, cd, ⟨c0, s0⟩, Q⟩ := Γ
  intro ok o1 o2 o3 H locs lsA hP hS hL
  have h0 := gw_ls_lv hL
  have h1 : lv_has lsA (gw_mL mt) ((i, .int (Int32.ofInt x)) :: ((List.range (gw_mL mt)).filterMap (fun i => match ls[i]? with | some (some v) => some (i, gw_cv cx.2.2.1 v) | _ => none))) := by
    refine ⟨h0.1, h0.2.1, fun q hq => ?_⟩
    rcases List.mem_cons.mp hq with rfl | hq
    · exact hL.2.2.2 _ _ hl
    · exact h0.2.2 q hq
  refine lv_iinc ok.1 ok.2.1 hd h1 (k := 0) rfl (v := Int32.ofInt (gw_w (x + n))) (gw_add x n) (by simpa [Nat.blt_eq] using hk) rfl (fun lsB hB => ?_)
  rw [List.filter_cons_of_neg (by simp)] at hB
  exact h ok (gw_setok o1 (gw_w_in _)) o2 o3 H locs lsB hP hS (gw_ls_store (v := gI (gw_w (x + n))) hL hn hB)
