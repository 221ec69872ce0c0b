/-! text constants: what they hold, and the JDK's own methods on them -/
def M_Jlen : gw_MT := (⟨"java/lang/String", "length", "()I"⟩, prog_17_method_54_code, 1, some .int)
def M_Jchr : gw_MT := (⟨"java/lang/String", "charAt", "(I)C"⟩, prog_17_method_56_code, 2, some .char)
def M_Jcod : gw_MT := (⟨"java/lang/String", "coder", "()B"⟩, prog_17_method_152_code, 1, some .byte)
def M_Jlat : gw_MT := (⟨"java/lang/String", "isLatin1", "()Z"⟩, prog_17_method_154_code, 1, some .boolean)
def M_Jsci : gw_MT := (⟨"java/lang/String", "checkIndex", "(II)V"⟩, prog_17_method_155_code, 2, none)
def M_Jlch : gw_MT := (⟨"java/lang/StringLatin1", "charAt", "([BI)C"⟩, prog_18_method_2_code, 2, some .char)
def M_Jpci : gw_MT := (⟨"jdk/internal/util/Preconditions", "checkIndex", "(IILjava/util/function/BiFunction;)I"⟩, prog_21_method_11_code, 3, some .int)
theorem mb_Jlen : gw_MB M_Jlen 0 := ⟨gw_tb3 (List.mem_of_getElem? (i := 50) (by decide +kernel)) rfl, gw_tb1 (List.mem_of_getElem? (i := 14) (by decide +kernel)) rfl, by decide, by decide, by decide +kernel, by decide⟩
theorem mv_Jlen : gw_MV M_Jlen 0 := ⟨mb_Jlen, gw_tb3 (List.mem_of_getElem? (i := 48) (by decide +kernel)) rfl, gw_tb3 (List.mem_of_getElem? (i := 49) (by decide +kernel)) rfl⟩
theorem mb_Jchr : gw_MB M_Jchr 1 := ⟨gw_tb3 (List.mem_of_getElem? (i := 60) (by decide +kernel)) rfl, gw_tb1 (List.mem_of_getElem? (i := 14) (by decide +kernel)) rfl, by decide, by decide, by decide +kernel, by decide⟩
theorem mv_Jchr : gw_MV M_Jchr 1 := ⟨mb_Jchr, gw_tb3 (List.mem_of_getElem? (i := 58) (by decide +kernel)) rfl, gw_tb3 (List.mem_of_getElem? (i := 59) (by decide +kernel)) rfl⟩
theorem mb_Jcod : gw_MB M_Jcod 0 := ⟨gw_tb3 (List.mem_of_getElem? (i := 54) (by decide +kernel)) rfl, gw_tb1 (List.mem_of_getElem? (i := 14) (by decide +kernel)) rfl, by decide, by decide, by decide +kernel, by decide⟩
theorem mv_Jcod : gw_MV M_Jcod 0 := ⟨mb_Jcod, gw_tb3 (List.mem_of_getElem? (i := 52) (by decide +kernel)) rfl, gw_tb3 (List.mem_of_getElem? (i := 53) (by decide +kernel)) rfl⟩
theorem mb_Jlat : gw_MB M_Jlat 0 := ⟨gw_tb3 (List.mem_of_getElem? (i := 64) (by decide +kernel)) rfl, gw_tb1 (List.mem_of_getElem? (i := 14) (by decide +kernel)) rfl, by decide, by decide, by decide +kernel, by decide⟩
theorem mv_Jlat : gw_MV M_Jlat 0 := ⟨mb_Jlat, gw_tb3 (List.mem_of_getElem? (i := 62) (by decide +kernel)) rfl, gw_tb3 (List.mem_of_getElem? (i := 63) (by decide +kernel)) rfl⟩
theorem mb_Jsci : gw_MB M_Jsci 2 := ⟨gw_tb3 (List.mem_of_getElem? (i := 70) (by decide +kernel)) rfl, gw_tb1 (List.mem_of_getElem? (i := 14) (by decide +kernel)) rfl, by decide, by decide, by decide +kernel, by decide⟩
theorem mS_Jsci : gw_MS M_Jsci 2 := ⟨mb_Jsci, gw_tb3 (List.mem_of_getElem? (i := 69) (by decide +kernel)) rfl⟩
theorem mb_Jlch : gw_MB M_Jlch 2 := ⟨gw_tb3 (List.mem_of_getElem? (i := 67) (by decide +kernel)) rfl, gw_tb1 (List.mem_of_getElem? (i := 15) (by decide +kernel)) rfl, by decide, by decide, by decide +kernel, by decide⟩
theorem mS_Jlch : gw_MS M_Jlch 2 := ⟨mb_Jlch, gw_tb3 (List.mem_of_getElem? (i := 66) (by decide +kernel)) rfl⟩
theorem mb_Jpci : gw_MB M_Jpci 3 := ⟨gw_tb3 (List.mem_of_getElem? (i := 75) (by decide +kernel)) rfl, gw_tb1 (List.mem_of_getElem? (i := 16) (by decide +kernel)) rfl, by decide, by decide, by decide +kernel, by decide⟩
theorem mS_Jpci : gw_MS M_Jpci 3 := ⟨mb_Jpci, gw_tb3 (List.mem_of_getElem? (i := 74) (by decide +kernel)) rfl⟩
theorem mlJ_335 : Cond.methodLink "java/lang/String" 335 (gw_mY M_Jcod) ∈ gw_tb := gw_tb3 (List.mem_of_getElem? (i := 51) (by decide +kernel)) rfl
theorem mlJ_492 : Cond.methodLink "java/lang/String" 492 (gw_mY M_Jlat) ∈ gw_tb := gw_tb3 (List.mem_of_getElem? (i := 61) (by decide +kernel)) rfl
theorem mlJ_495 : Cond.methodLink "java/lang/String" 495 (gw_mY M_Jlch) ∈ gw_tb := gw_tb3 (List.mem_of_getElem? (i := 65) (by decide +kernel)) rfl
theorem mlJ_9 : Cond.methodLink "java/lang/StringLatin1" 9 (gw_mY M_Jsci) ∈ gw_tb := gw_tb3 (List.mem_of_getElem? (i := 68) (by decide +kernel)) rfl
theorem mlJ_1059 : Cond.methodLink "java/lang/String" 1059 (gw_mY M_Jpci) ∈ gw_tb := gw_tb3 (List.mem_of_getElem? (i := 73) (by decide +kernel)) rfl
theorem flJ_38 : Cond.fieldLink "java/lang/String" 38 "java/lang/String" "COMPACT_STRINGS" "Z" ∈ gw_tb := gw_tb3 (List.mem_of_getElem? (i := 55) (by decide +kernel)) rfl
theorem flJ_9 : Cond.fieldLink "java/lang/String" 9 "java/lang/String" "value" "[B" ∈ gw_tb := gw_tb6 (List.mem_of_getElem? (i := 175) (by decide +kernel)) rfl
theorem flJ_15 : Cond.fieldLink "java/lang/String" 15 "java/lang/String" "coder" "B" ∈ gw_tb := gw_tb6 (List.mem_of_getElem? (i := 176) (by decide +kernel)) rfl
theorem flJ_1053 : Cond.fieldLink "java/lang/String" 1053 "jdk/internal/util/Preconditions" "SIOOBE_FORMATTER" "Ljava/util/function/BiFunction;" ∈ gw_tb := gw_tb3 (List.mem_of_getElem? (i := 71) (by decide +kernel)) rfl
theorem d_Jlen_0 : decode (gw_mC M_Jlen) 0 = .ok (.aload_n 0, 1) := by decide +kernel
theorem d_Jlen_1 : decode (gw_mC M_Jlen) 1 = .ok (.getfield 9, 3) := by decide +kernel
theorem d_Jlen_4 : decode (gw_mC M_Jlen) 4 = .ok (.arraylength, 1) := by decide +kernel
theorem d_Jlen_5 : decode (gw_mC M_Jlen) 5 = .ok (.aload_n 0, 1) := by decide +kernel
theorem d_Jlen_6 : decode (gw_mC M_Jlen) 6 = .ok (.invokevirtual 335, 3) := by decide +kernel
theorem d_Jlen_9 : decode (gw_mC M_Jlen) 9 = .ok (.ishr, 1) := by decide +kernel
theorem d_Jlen_10 : decode (gw_mC M_Jlen) 10 = .ok (.ireturn, 1) := by decide +kernel
theorem d_Jchr_0 : decode (gw_mC M_Jchr) 0 = .ok (.aload_n 0, 1) := by decide +kernel
theorem d_Jchr_1 : decode (gw_mC M_Jchr) 1 = .ok (.invokevirtual 492, 3) := by decide +kernel
theorem d_Jchr_4 : decode (gw_mC M_Jchr) 4 = .ok (.ifCond .eq 12, 3) := by decide +kernel
theorem d_Jchr_7 : decode (gw_mC M_Jchr) 7 = .ok (.aload_n 0, 1) := by decide +kernel
theorem d_Jchr_8 : decode (gw_mC M_Jchr) 8 = .ok (.getfield 9, 3) := by decide +kernel
theorem d_Jchr_11 : decode (gw_mC M_Jchr) 11 = .ok (.iload_n 1, 1) := by decide +kernel
theorem d_Jchr_12 : decode (gw_mC M_Jchr) 12 = .ok (.invokestatic 495, 3) := by decide +kernel
theorem d_Jchr_15 : decode (gw_mC M_Jchr) 15 = .ok (.ireturn, 1) := by decide +kernel
theorem d_Jchr_16 : decode (gw_mC M_Jchr) 16 = .ok (.aload_n 0, 1) := by decide +kernel
theorem d_Jchr_17 : decode (gw_mC M_Jchr) 17 = .ok (.getfield 9, 3) := by decide +kernel
theorem d_Jchr_20 : decode (gw_mC M_Jchr) 20 = .ok (.iload_n 1, 1) := by decide +kernel
theorem d_Jchr_21 : decode (gw_mC M_Jchr) 21 = .ok (.invokestatic 498, 3) := by decide +kernel
theorem d_Jchr_24 : decode (gw_mC M_Jchr) 24 = .ok (.ireturn, 1) := by decide +kernel
theorem d_Jcod_0 : decode (gw_mC M_Jcod) 0 = .ok (.getstatic 38, 3) := by decide +kernel
theorem d_Jcod_3 : decode (gw_mC M_Jcod) 3 = .ok (.ifCond .eq 10, 3) := by decide +kernel
theorem d_Jcod_6 : decode (gw_mC M_Jcod) 6 = .ok (.aload_n 0, 1) := by decide +kernel
theorem d_Jcod_7 : decode (gw_mC M_Jcod) 7 = .ok (.getfield 15, 3) := by decide +kernel
theorem d_Jcod_10 : decode (gw_mC M_Jcod) 10 = .ok (.goto 4, 3) := by decide +kernel
theorem d_Jcod_13 : decode (gw_mC M_Jcod) 13 = .ok (.iconst 1, 1) := by decide +kernel
theorem d_Jcod_14 : decode (gw_mC M_Jcod) 14 = .ok (.ireturn, 1) := by decide +kernel
theorem d_Jlat_0 : decode (gw_mC M_Jlat) 0 = .ok (.getstatic 38, 3) := by decide +kernel
theorem d_Jlat_3 : decode (gw_mC M_Jlat) 3 = .ok (.ifCond .eq 14, 3) := by decide +kernel
theorem d_Jlat_6 : decode (gw_mC M_Jlat) 6 = .ok (.aload_n 0, 1) := by decide +kernel
theorem d_Jlat_7 : decode (gw_mC M_Jlat) 7 = .ok (.getfield 15, 3) := by decide +kernel
theorem d_Jlat_10 : decode (gw_mC M_Jlat) 10 = .ok (.ifCond .ne 7, 3) := by decide +kernel
theorem d_Jlat_13 : decode (gw_mC M_Jlat) 13 = .ok (.iconst 1, 1) := by decide +kernel
theorem d_Jlat_14 : decode (gw_mC M_Jlat) 14 = .ok (.goto 4, 3) := by decide +kernel
theorem d_Jlat_17 : decode (gw_mC M_Jlat) 17 = .ok (.iconst 0, 1) := by decide +kernel
theorem d_Jlat_18 : decode (gw_mC M_Jlat) 18 = .ok (.ireturn, 1) := by decide +kernel
theorem d_Jsci_0 : decode (gw_mC M_Jsci) 0 = .ok (.iload_n 0, 1) := by decide +kernel
theorem d_Jsci_1 : decode (gw_mC M_Jsci) 1 = .ok (.iload_n 1, 1) := by decide +kernel
theorem d_Jsci_2 : decode (gw_mC M_Jsci) 2 = .ok (.getstatic 1053, 3) := by decide +kernel
theorem d_Jsci_5 : decode (gw_mC M_Jsci) 5 = .ok (.invokestatic 1059, 3) := by decide +kernel
theorem d_Jsci_8 : decode (gw_mC M_Jsci) 8 = .ok (.pop, 1) := by decide +kernel
theorem d_Jsci_9 : decode (gw_mC M_Jsci) 9 = .ok (.return_, 1) := by decide +kernel
theorem d_Jlch_0 : decode (gw_mC M_Jlch) 0 = .ok (.iload_n 1, 1) := by decide +kernel
theorem d_Jlch_1 : decode (gw_mC M_Jlch) 1 = .ok (.aload_n 0, 1) := by decide +kernel
theorem d_Jlch_2 : decode (gw_mC M_Jlch) 2 = .ok (.arraylength, 1) := by decide +kernel
theorem d_Jlch_3 : decode (gw_mC M_Jlch) 3 = .ok (.invokestatic 9, 3) := by decide +kernel
theorem d_Jlch_6 : decode (gw_mC M_Jlch) 6 = .ok (.aload_n 0, 1) := by decide +kernel
theorem d_Jlch_7 : decode (gw_mC M_Jlch) 7 = .ok (.iload_n 1, 1) := by decide +kernel
theorem d_Jlch_8 : decode (gw_mC M_Jlch) 8 = .ok (.baload, 1) := by decide +kernel
theorem d_Jlch_9 : decode (gw_mC M_Jlch) 9 = .ok (.sipush 255, 3) := by decide +kernel
theorem d_Jlch_12 : decode (gw_mC M_Jlch) 12 = .ok (.iand, 1) := by decide +kernel
theorem d_Jlch_13 : decode (gw_mC M_Jlch) 13 = .ok (.i2c, 1) := by decide +kernel
theorem d_Jlch_14 : decode (gw_mC M_Jlch) 14 = .ok (.ireturn, 1) := by decide +kernel
theorem d_Jpci_0 : decode (gw_mC M_Jpci) 0 = .ok (.iload_n 0, 1) := by decide +kernel
theorem d_Jpci_1 : decode (gw_mC M_Jpci) 1 = .ok (.ifCond .lt 8, 3) := by decide +kernel
theorem d_Jpci_4 : decode (gw_mC M_Jpci) 4 = .ok (.iload_n 0, 1) := by decide +kernel
theorem d_Jpci_5 : decode (gw_mC M_Jpci) 5 = .ok (.iload_n 1, 1) := by decide +kernel
theorem d_Jpci_6 : decode (gw_mC M_Jpci) 6 = .ok (.if_icmp .lt 10, 3) := by decide +kernel
theorem d_Jpci_9 : decode (gw_mC M_Jpci) 9 = .ok (.aload_n 2, 1) := by decide +kernel
theorem d_Jpci_10 : decode (gw_mC M_Jpci) 10 = .ok (.iload_n 0, 1) := by decide +kernel
theorem d_Jpci_11 : decode (gw_mC M_Jpci) 11 = .ok (.iload_n 1, 1) := by decide +kernel
theorem d_Jpci_12 : decode (gw_mC M_Jpci) 12 = .ok (.invokestatic 95, 3) := by decide +kernel
theorem d_Jpci_15 : decode (gw_mC M_Jpci) 15 = .ok (.athrow, 1) := by decide +kernel
theorem d_Jpci_16 : decode (gw_mC M_Jpci) 16 = .ok (.iload_n 0, 1) := by decide +kernel
theorem d_Jpci_17 : decode (gw_mC M_Jpci) 17 = .ok (.ireturn, 1) := by decide +kernel
def gz_QJ (cx : gw_Cx) (m : gw_Mem) (v : Option Value) : Array Value → State → Outcome → State → Prop := fun _ st oc t => (oc = .returned v ∧ va_P cx.1 vwCl (gw_Wd cx m) t.heap) ∧ va_F (gw_A cx) st t
def gz_JS (mt : gw_MT) (d : Nat) (cx : gw_Cx) (m : gw_Mem) (av : List Value) (v : Option Value) : Prop := ∀ l : Launch, Met l (gw_mY mt) (gw_mW mt) (gw_rm d) (va_Pc av (gw_Pc cx m)) (gz_QJ cx m v) 0 0 (gw_A cx)
/-- where a call of a method stands -/
def gz_Jc (mt : gw_MT) (d : Nat) (cx : gw_Cx) (m : gw_Mem) (p : Program) (R : Room) (s : State) (mm : MethodId) (args : Array Value) (c : Code) (c0 s0 : Nat) : Prop :=
  p.tables.exec = Jvm.exec ∧ c.code = gw_mC mt ∧ c.maxLocals = gw_mL mt ∧ s.vm.findClass (gw_mY mt).cls = some mm.cls ∧ (∀ w ∈ gw_tb, w.before args s = true) ∧ va_K cx.1 vwCl (gw_ty cx) s ∧ gw_ap cx ∧ gw_Stat cx s s.heap ∧ cx.2.2.2.1 ≤ s.heap.size ∧ (d ≤ R.frames ∧ 64 * d ≤ R.locals ∧ c0 ≤ R.cells ∧ s0 ≤ R.slots) ∧ gw_okM m
theorem gz_intro {mt : gw_MT} {d : Nat} {cx : gw_Cx} {m : gw_Mem} {av : List Value} {v : Option Value} (hp : plainName (gw_mY mt).cls = true) (hl : (lg_sl av).length ≤ gw_mL mt) (hr : ∀ x, v = some x → ∃ (i : Int32) (ty : FieldType), x = .int i ∧ gw_mR mt = some ty ∧ narrow ty (.int i) = .int i) (hr0 : v = none → gw_mR mt = none)
    (hG : ∀ {p : Program} {l : Launch} {e : Env} {R : Room} {s : State} {mm : MethodId} {args : Array Value} {below : List Frame} {meth : Method} {c : Code} {Q : State → Prop} {lsA : Array Slot}, gz_Jc mt d cx m p R s mm args c 0 0 → lv_has lsA (gw_mL mt) (lv_args 0 av) →
      (∀ (H : Heap) (locs : List Loc) (pc : Nat) (x : Value), v = some x → decode (gw_mC mt) pc = .ok (.ireturn, 1) → va_P cx.1 vwCl (gw_Wd cx m) H → va_S (gw_A cx) s.heap H locs → W p l e R s mm args below meth c H locs 0 0 Q (F0 mm pc lsA [x])) →
      (∀ (H : Heap) (locs : List Loc) (pc : Nat), v = none → decode (gw_mC mt) pc = .ok (.return_, 1) → va_P cx.1 vwCl (gw_Wd cx m) H → va_S (gw_A cx) s.heap H locs → W p l e R s mm args below meth c H locs 0 0 Q (F0 mm pc lsA [])) →
      ∀ (H : Heap) (locs : List Loc), va_P cx.1 vwCl (gw_Wd cx m) H → va_S (gw_A cx) s.heap H locs → W p l e R s mm args below meth c H locs 0 0 Q (F0 mm 0 lsA [])) : gz_JS mt d cx m av v := by
  intro l
  refine Met.ofW (cc := gw_mC mt) (maxL := gw_mL mt) (ret := gw_mR mt) hp rfl ?_
  intro p e s mm args below meth c s₁ B hml hv
  obtain ⟨rfl, hbase, hP, hK, hap, hSt, hoM⟩ := hv
  have hts := atoms_spec (ws := gw_mW mt) B.pre
  have hown : s.vm.findClass (gw_mY mt).cls = some mm.cls := findClass_of_methodNamed B.named
  rw [lg_entry_eq]
  have hS : va_S (gw_A cx) s.heap s.heap [] := va_S.rf
  refine hG (R := (headSpec (gw_mW mt) (gw_rm d)).room) (Q := MQ below (gz_QJ cx m v) av.toArray s 0 0 (gw_A cx)) ⟨B.exec, B.bytes, hml, hown, fun w hw => hts w (List.mem_cons_of_mem _ hw), hK, hap, hSt, hbase, ⟨Nat.le_refl _, Nat.le_refl _, Nat.le_refl _, Nat.le_refl _⟩, hoM⟩ (lv_entry av hl) ?_ ?_ s.heap [] hP hS
  · intro H locs pc x hx hdg hP' hS'
    obtain ⟨i, ty, rfl, hret, hn⟩ := hr x hx
    have hqc : ∀ t : State, t.heap = H → s.WarmedH t.vm → gz_QJ cx m v av.toArray s (.returned (some (.int i))) t := fun t ht _ => ⟨⟨by rw [hx], by rw [ht]; exact hP'⟩, hS'.F ht⟩
    exact W.zret B.exec B.bytes (by rw [B.returns, hret]) hn hqc hS'.2.2 hdg B.notSynchronized
  · intro H locs pc hx hdg hP' hS'
    have hqc : ∀ t : State, t.heap = H → s.WarmedH t.vm → gz_QJ cx m v av.toArray s (.returned none) t := fun t ht _ => ⟨⟨by rw [hx], by rw [ht]; exact hP'⟩, hS'.F ht⟩
    exact W.vret B.exec B.bytes (by rw [B.returns, hr0 hx]) hqc hS'.2.2 hdg B.notSynchronized
section GZC
variable {p : Program} {l : Launch} {e : Env} {R : Room} {s : State} {mm : MethodId} {args : Array Value} {below : List Frame} {meth : Method} {c : Code} {H : Heap} {locs : List Loc} {c0 s0 : Nat} {Q : State → Prop} {lsA : Array Slot}
theorem gz_core {cx : gw_Cx} {m : gw_Mem} {v : Option Value} {pc : Nat} {st0 rest : List Value} {a' : Array Value} (hr : va_Run p l e R s mm args below meth c H locs c0 s0 0 0 (F0 mm pc lsA st0) rest (gz_QJ cx m v a') (gw_A cx)) (hS : va_S (gw_A cx) s.heap H locs)
    (kk : ∀ (H1 : Heap) (locs1 : List Loc), va_P cx.1 vwCl (gw_Wd cx m) H1 → va_S (gw_A cx) s.heap H1 locs1 → W p l e R s mm args below meth c H1 locs1 c0 s0 Q (F0 mm (pc + 3) lsA (v.toList ++ rest))) : W p l e R s mm args below meth c H locs c0 s0 Q (F0 mm pc lsA st0) := by
  intro T hT X
  obtain ⟨v', st₀, t, T', L, h0, X', hL, e1, e2, ⟨⟨hv, hp⟩, hz, hk⟩, st⟩ := hr T hT X
  have hv : v' = v := by injection hv
  subst hv
  rw [h0] at hz hk
  obtain ⟨t2, a1, b1⟩ := kk T'.heap (locs ++ L) (by rw [e1]; exact hp)
    ⟨Nat.le_trans hS.1 (by rw [e1]; exact hz), fun q h1 h2 => by rw [e1, hk q (Nat.lt_of_lt_of_le h1 hS.1) h2]; exact hS.2.1 q h1 h2, fun q hq => by
      rcases List.mem_append.mp hq with h | h
      · exact hS.2.2 q h
      · exact hL q h⟩ T' rfl X'
  exact ⟨t2, st t2 a1, b1⟩
theorem gz_callS {mt mt' : gw_MT} {d d' n pc idx : Nat} {cx : gw_Cx} {m : gw_Mem} {av rest : List Value} {v : Option Value} (J : gz_Jc mt d cx m p R s mm args c c0 s0) (hd : decode (gw_mC mt) pc = .ok (.invokestatic idx, 3)) (hw : Cond.methodLink (gw_mY mt).cls idx (gw_mY mt') ∈ gw_tb) (hmv : gw_MS mt' n) (hn : av.length = n) (hdd : d' < d) (hsp : gz_JS mt' d' cx m av v) (hsum : (rest.map fun v => v.category).sum ≤ 8) (hsz : lsA.size = gw_mL mt) (hP : va_P cx.1 vwCl (gw_Wd cx m) H) (hS : va_S (gw_A cx) s.heap H locs)
    (kk : ∀ (H1 : Heap) (locs1 : List Loc), va_P cx.1 vwCl (gw_Wd cx m) H1 → va_S (gw_A cx) s.heap H1 locs1 → W p l e R s mm args below meth c H1 locs1 c0 s0 Q (F0 mm (pc + 3) lsA (v.toList ++ rest))) : W p l e R s mm args below meth c H locs c0 s0 Q (F0 mm pc lsA (av.reverse ++ rest)) := by
  obtain ⟨j1, j2, j3, j4, j5, j6, j7, j8, j9, hR, j11⟩ := J
  have hG : GoodIn gw_tb (va_wsS (gw_mY mt).cls idx (gw_mY mt') (gw_mW mt')) := by
    intro w hw1
    unfold va_wsS at hw1
    rcases List.mem_append.mp hw1 with h1 | h1
    · simp only [List.mem_cons, List.not_mem_nil, or_false] at h1
      rcases h1 with rfl | rfl | rfl
      · exact ⟨hw, gw_good hw⟩
      · exact ⟨hmv.2, gw_good hmv.2⟩
      · exact ⟨hmv.1.2.1, gw_good hmv.1.2.1⟩
    · exact gw_mW_good hmv.1 w h1
  have h40 := hmv.1.2.2.2.2.2
  have hrun := va_runS (R := R) (locs := locs) (cells := c0) (slots := s0) (below := below) (meth := meth) (e := e) (g := F0 mm pc lsA (av.reverse ++ rest)) (As := av) (rest := rest) ⟨j1, j2, j3, j4, j5⟩ (hsp l)
    (va_cwS n j5 hG rfl rfl rfl ⟨hmv.1.2.2.1, hmv.1.2.2.2.1, hmv.1.2.2.2.2.1⟩ ⟨by show d' + 1 ≤ _; omega, by show 8 + (gw_mL mt' + 11) + 64 * d' ≤ _; omega⟩)
    ⟨gw_blind, fun U hU hW => ⟨rfl, gw_pcH j6 j7 j8 j9 hP hS j11 hU hW⟩⟩ rfl hn hsz rfl (lv_room hsum) hd ⟨hR.2.2.1, hR.2.2.2⟩
  exact gz_core hrun hS kk
theorem gz_callV {mt mt' : gw_MT} {d d' n pc idx o : Nat} {cx : gw_Cx} {m : gw_Mem} {av rest : List Value} {v : Option Value} (ho : o < 2) (J : gz_Jc mt d cx m p R s mm args c c0 s0) (hd : decode (gw_mC mt) pc = .ok (.invokevirtual idx, 3)) (hw : Cond.methodLink (gw_mY mt).cls idx (gw_mY mt') ∈ gw_tb) (hmv : gw_MV mt' n) (hcls : (gw_mY mt').cls = "java/lang/String") (hn : av.length = n) (hdd : d' < d) (hsp : gz_JS mt' d' cx m (.ref (cx.2.2.1 (2000 + o)) :: av) v) (hsum : (rest.map fun v => v.category).sum ≤ 8) (hsz : lsA.size = gw_mL mt) (hP : va_P cx.1 vwCl (gw_Wd cx m) H) (hS : va_S (gw_A cx) s.heap H locs)
    (kk : ∀ (H1 : Heap) (locs1 : List Loc), va_P cx.1 vwCl (gw_Wd cx m) H1 → va_S (gw_A cx) s.heap H1 locs1 → W p l e R s mm args below meth c H1 locs1 c0 s0 Q (F0 mm (pc + 3) lsA (v.toList ++ rest))) : W p l e R s mm args below meth c H locs c0 s0 Q (F0 mm pc lsA (av.reverse ++ .ref (cx.2.2.1 (2000 + o)) :: rest)) := by
  obtain ⟨j1, j2, j3, j4, j5, j6, j7, j8, j9, hR, j11⟩ := J
  have hG : GoodIn gw_tb (wsV (gw_mY mt).cls idx (gw_mY mt').cls (gw_mY mt') (gw_mW mt')) := by
    intro w hw1
    unfold wsV at hw1
    rcases List.mem_append.mp hw1 with h1 | h1
    · simp only [List.mem_cons, List.not_mem_nil, or_false] at h1
      rcases h1 with rfl | rfl | rfl | rfl
      · exact ⟨hw, gw_good hw⟩
      · exact ⟨hmv.2.1, gw_good hmv.2.1⟩
      · exact ⟨hmv.2.2, gw_good hmv.2.2⟩
      · exact ⟨hmv.1.2.1, gw_good hmv.1.2.1⟩
    · exact gw_mW_good hmv.1 w h1
  have hrecv := vk_recv (i := o) j8.2.1 ho hS
  rw [← hcls] at hrecv
  have h40 := hmv.1.2.2.2.2.2
  have hrun := va_runV (R := R) (locs := locs) (cells := c0) (slots := s0) (below := below) (meth := meth) (e := e) (g := F0 mm pc lsA (av.reverse ++ .ref (cx.2.2.1 (2000 + o)) :: rest)) (As := av) (rest := rest) (b := cx.2.2.1 (2000 + o)) (C := (gw_mY mt').cls) ⟨j1, j2, j3, j4, j5⟩ (hsp l)
    (cwV n j5 hG rfl rfl rfl ⟨rfl, hmv.1.2.2.1, hmv.1.2.2.2.1, hmv.1.2.2.2.2.1⟩ ⟨by show d' + 1 ≤ _; omega, by show 8 + (gw_mL mt' + 11) + 64 * d' ≤ _; omega⟩)
    ⟨gw_blind, hrecv, fun U hU hW => ⟨rfl, gw_pcH j6 j7 j8 j9 hP hS j11 hU hW⟩⟩ rfl hn hsz rfl (lv_room hsum) hd ⟨hR.2.2.1, hR.2.2.2⟩
  exact gz_core hrun hS kk
end GZC
theorem gz_cod (cx : gw_Cx) (m : gw_Mem) (o : Nat) (ho : o < 2) : gz_JS M_Jcod 1 cx m [.ref (cx.2.2.1 (2000 + o))] (some (.int 0)) := by
  refine gz_intro (by decide) (Nat.le_of_ble_eq_true rfl) (fun x hx => ⟨0, .byte, (Option.some.inj hx).symm, rfl, by decide⟩) (fun h => by cases h) ?_
  intro p l e R s mm args below meth c Q lsA J hl kr _ H locs hP hS
  have f := J.2.2.2.2.2.2.2.1
  refine va_gets J.1 J.2.1 f.2.2.2.2.1 hS J.2.2.2.1 (J.2.2.2.2.1 _ flJ_38) (fun _ h => h) d_Jcod_0 ?_
  refine lv_if_eq J.1 J.2.1 d_Jcod_3 (tgt := 13) rfl (fun h => absurd h (by decide)) (fun _ => ?_)
  refine lv_aload_n J.1 J.2.1 d_Jcod_6 rfl (hl.2.2 (0, .ref (cx.2.2.1 (2000 + o))) (by simp [lv_args])) ?_
  refine vk_getf J.1 J.2.1 (f.2.1.1 o ho).2.1 hS J.2.2.2.1 (J.2.2.2.2.1 _ flJ_15) (fun _ h => h) d_Jcod_7 ?_
  refine lv_goto J.1 J.2.1 d_Jcod_10 (tgt := 14) rfl ?_
  exact kr H locs 14 _ rfl d_Jcod_14 hP hS
theorem gz_lat (cx : gw_Cx) (m : gw_Mem) (o : Nat) (ho : o < 2) : gz_JS M_Jlat 1 cx m [.ref (cx.2.2.1 (2000 + o))] (some (.int 1)) := by
  refine gz_intro (by decide) (Nat.le_of_ble_eq_true rfl) (fun x hx => ⟨1, .boolean, (Option.some.inj hx).symm, rfl, by decide⟩) (fun h => by cases h) ?_
  intro p l e R s mm args below meth c Q lsA J hl kr _ H locs hP hS
  have f := J.2.2.2.2.2.2.2.1
  refine va_gets J.1 J.2.1 f.2.2.2.2.1 hS J.2.2.2.1 (J.2.2.2.2.1 _ flJ_38) (fun _ h => h) d_Jlat_0 ?_
  refine lv_if_eq J.1 J.2.1 d_Jlat_3 (tgt := 17) rfl (fun h => absurd h (by decide)) (fun _ => ?_)
  refine lv_aload_n J.1 J.2.1 d_Jlat_6 rfl (hl.2.2 (0, .ref (cx.2.2.1 (2000 + o))) (by simp [lv_args])) ?_
  refine vk_getf J.1 J.2.1 (f.2.1.1 o ho).2.1 hS J.2.2.2.1 (J.2.2.2.2.1 _ flJ_15) (fun _ h => h) d_Jlat_7 ?_
  refine lv_if_ne J.1 J.2.1 d_Jlat_10 (tgt := 17) rfl (fun h => absurd rfl h) (fun _ => ?_)
  refine lv_iconst J.1 J.2.1 d_Jlat_13 rfl ?_
  refine lv_goto J.1 J.2.1 d_Jlat_14 (tgt := 18) rfl ?_
  exact kr H locs 18 _ rfl d_Jlat_18 hP hS
theorem gz_len (cx : gw_Cx) (m : gw_Mem) (o : Nat) (ho : o < 2) : gz_JS M_Jlen 3 cx m [.ref (cx.2.2.1 (2000 + o))] (some (.int 4)) := by
  refine gz_intro (by decide) (Nat.le_of_ble_eq_true rfl) (fun x hx => ⟨4, .int, (Option.some.inj hx).symm, rfl, by decide⟩) (fun h => by cases h) ?_
  intro p l e R s mm args below meth c Q lsA J hl kr _ H locs hP hS
  have f := J.2.2.2.2.2.2.2.1
  have hlen : ([4, 4] : List Nat).getD o 0 = 4 := by
    have h2 : o = 0 ∨ o = 1 := by omega
    rcases h2 with rfl | rfl <;> rfl
  refine lv_aload_n J.1 J.2.1 d_Jlen_0 rfl (hl.2.2 (0, .ref (cx.2.2.1 (2000 + o))) (by simp [lv_args])) ?_
  refine vk_getf J.1 J.2.1 (f.2.1.1 o ho).2.2.1 hS J.2.2.2.1 (J.2.2.2.2.1 _ flJ_9) (fun _ h => h) d_Jlen_1 ?_
  refine va_tlen J.1 J.2.1 (f.2.1.1 o ho).2.2.2 hS (v := 4) (by rw [hlen]; rfl) d_Jlen_4 ?_
  refine lv_aload_n J.1 J.2.1 d_Jlen_5 rfl (hl.2.2 (0, .ref (cx.2.2.1 (2000 + o))) (by simp [lv_args])) ?_
  refine gz_callV (av := []) (rest := [.int 4]) ho J d_Jlen_6 mlJ_335 mv_Jcod rfl rfl (by omega) (gz_cod cx m o ho) (by decide) hl.1 hP hS (fun H1 locs1 hP1 hS1 => ?_)
  refine lv_ishr J.1 J.2.1 d_Jlen_9 ?_
  exact kr H1 locs1 10 _ (by decide) d_Jlen_10 hP1 hS1
theorem gz_pci (cx : gw_Cx) (m : gw_Mem) (i : Int) (hi : gw_in i 4) (z : Value) (hz : z.category = 1) : gz_JS M_Jpci 1 cx m [.int (Int32.ofInt i), .int 4, z] (some (.int (Int32.ofInt i))) := by
  have hr : gw_inR i := by obtain ⟨a, b⟩ := hi; unfold gw_inR; omega
  refine gz_intro (by decide) ?_ (fun x hx => ⟨Int32.ofInt i, .int, (Option.some.inj hx).symm, rfl, rfl⟩) (fun h => by cases h) ?_
  · cases z <;> first | exact Nat.le_of_ble_eq_true rfl | exact absurd hz (by simp [Value.category])
  intro p l e R s mm args below meth c Q lsA J hl kr _ H locs hP hS
  have l0 := hl.2.2 (0, .int (Int32.ofInt i)) (by simp [lv_args])
  have l1 := hl.2.2 (1, .int 4) (by simp [lv_args, Value.category])
  refine lv_iload_n J.1 J.2.1 d_Jpci_0 rfl l0 ?_
  refine lv_if_lt J.1 J.2.1 d_Jpci_1 (tgt := 9) rfl (fun h => absurd ((gw_lt0 hr).mp h) (by have := hi.1; omega)) (fun _ => ?_)
  refine lv_iload_n J.1 J.2.1 d_Jpci_4 rfl l0 ?_
  refine lv_iload_n J.1 J.2.1 d_Jpci_5 rfl l1 ?_
  refine lv_icmp_lt J.1 J.2.1 d_Jpci_6 (tgt := 16) rfl (fun _ => ?_) (fun h => absurd ((gw_lt (y := 4) hr (by unfold gw_inR; omega)).mpr hi.2) h)
  refine lv_iload_n J.1 J.2.1 d_Jpci_16 rfl l0 ?_
  exact kr H locs 17 _ rfl d_Jpci_17 hP hS
theorem gz_sci (cx : gw_Cx) (m : gw_Mem) (i : Int) (hi : gw_in i 4) : gz_JS M_Jsci 2 cx m [.int (Int32.ofInt i), .int 4] none := by
  refine gz_intro (by decide) (Nat.le_of_ble_eq_true rfl) (fun x hx => by cases hx) (fun _ => rfl) ?_
  intro p l e R s mm args below meth c Q lsA J hl _ kr H locs hP hS
  have f := J.2.2.2.2.2.2.2.1
  have l0 := hl.2.2 (0, .int (Int32.ofInt i)) (by simp [lv_args])
  have l1 := hl.2.2 (1, .int 4) (by simp [lv_args, Value.category])
  refine lv_iload_n J.1 J.2.1 d_Jsci_0 rfl l0 ?_
  refine lv_iload_n J.1 J.2.1 d_Jsci_1 rfl l1 ?_
  have go : ∀ z : Value, z.category = 1 → W p l e R s mm args below meth c H locs 0 0 Q (F0 mm 5 lsA [z, .int 4, .int (Int32.ofInt i)]) := by
    intro z hz
    refine gz_callS (av := [.int (Int32.ofInt i), .int 4, z]) (rest := []) J d_Jsci_5 mlJ_1059 mS_Jpci rfl (by omega) (gz_pci cx m i hi z hz) (by decide) hl.1 hP hS (fun H1 locs1 hP1 hS1 => ?_)
    refine lv_pop J.1 J.2.1 d_Jsci_8 rfl ?_
    exact kr H1 locs1 9 rfl d_Jsci_9 hP1 hS1
  rcases f.2.2.2.2.2.1 with h | ⟨t, h⟩
  · exact va_gets J.1 J.2.1 h hS J.2.2.2.1 (J.2.2.2.2.1 _ flJ_1053) (fun _ h => h) d_Jsci_2 (go _ rfl)
  · exact va_gets J.1 J.2.1 h hS J.2.2.2.1 (J.2.2.2.2.1 _ flJ_1053) (fun _ h => h) d_Jsci_2 (go _ rfl)
def gw_sb (o : Nat) (i : Int) : Int := (if o = 2000 then ([115, 108, 119, 116] : List Int) else [112, 108, 111, 116]).getD i.toNat 0
theorem gz_lch (cx : gw_Cx) (m : gw_Mem) (o : Nat) (ho : o < 2) (i : Int) (hi : gw_in i 4) : gz_JS M_Jlch 3 cx m [.ref (cx.2.2.2.2 o), .int (Int32.ofInt i)] (some (.int (Int32.ofInt (gw_sb (2000 + o) i)))) := by
  have h2 : o = 0 ∨ o = 1 := by omega
  have h4 : i = 0 ∨ i = 1 ∨ i = 2 ∨ i = 3 := by obtain ⟨a, b⟩ := hi; omega
  have hr : gw_inR i := by obtain ⟨a, b⟩ := hi; unfold gw_inR; omega
  have hnar : narrow .char (.int (Int32.ofInt (gw_sb (2000 + o) i))) = .int (Int32.ofInt (gw_sb (2000 + o) i)) := by
    rcases h2 with rfl | rfl <;> rcases h4 with rfl | rfl | rfl | rfl <;> decide
  refine gz_intro (by decide) (Nat.le_of_ble_eq_true rfl) (fun x hx => ⟨_, .char, (Option.some.inj hx).symm, rfl, hnar⟩) (fun h => by cases h) ?_
  intro p l e R s mm args below meth c Q lsA J hl kr _ H locs hP hS
  have f := J.2.2.2.2.2.2.2.1
  have l0 := hl.2.2 (0, .ref (cx.2.2.2.2 o)) (by simp [lv_args])
  have l1 := hl.2.2 (1, .int (Int32.ofInt i)) (by simp [lv_args, Value.category])
  have hlen : ([4, 4] : List Nat).getD o 0 = 4 := by rcases h2 with rfl | rfl <;> rfl
  refine lv_iload_n J.1 J.2.1 d_Jlch_0 rfl l1 ?_
  refine lv_aload_n J.1 J.2.1 d_Jlch_1 rfl l0 ?_
  refine va_tlen J.1 J.2.1 (f.2.1.1 o ho).2.2.2 hS (v := 4) (by rw [hlen]; rfl) d_Jlch_2 ?_
  refine gz_callS (av := [.int (Int32.ofInt i), .int 4]) (rest := []) J d_Jlch_3 mlJ_9 mS_Jsci rfl (by omega) (gz_sci cx m i hi) (by decide) hl.1 hP hS (fun H1 locs1 hP1 hS1 => ?_)
  refine lv_aload_n J.1 J.2.1 d_Jlch_6 rfl l0 ?_
  refine lv_iload_n J.1 J.2.1 d_Jlch_7 rfl l1 ?_
  refine va_tb J.1 J.2.1 (f.2.1.1 o ho).2.2.2 hS1 (by rw [hlen]; exact gw_vpin hi hr) (v := .int (Int32.ofInt (gw_sb (2000 + o) i))) ?_ d_Jlch_8 ?_
  · rw [gw_clamp hi.1 hr]
    rcases h2 with rfl | rfl <;> rcases h4 with rfl | rfl | rfl | rfl <;> rfl
  refine lv_sipush J.1 J.2.1 d_Jlch_9 (v := 255) (by decide) ?_
  refine lv_iand J.1 J.2.1 d_Jlch_12 ?_
  refine lv_i2c J.1 J.2.1 d_Jlch_13 (v := Int32.ofInt (gw_sb (2000 + o) i)) ?_ ?_
  · rcases h2 with rfl | rfl <;> rcases h4 with rfl | rfl | rfl | rfl <;> decide
  exact kr H1 locs1 14 _ rfl d_Jlch_14 hP1 hS1
theorem gz_chr (cx : gw_Cx) (m : gw_Mem) (o : Nat) (ho : o < 2) (i : Int) (hi : gw_in i 4) : gz_JS M_Jchr 4 cx m [.ref (cx.2.2.1 (2000 + o)), .int (Int32.ofInt i)] (some (.int (Int32.ofInt (gw_sb (2000 + o) i)))) := by
  have h2 : o = 0 ∨ o = 1 := by omega
  have h4 : i = 0 ∨ i = 1 ∨ i = 2 ∨ i = 3 := by obtain ⟨a, b⟩ := hi; omega
  have hnar : narrow .char (.int (Int32.ofInt (gw_sb (2000 + o) i))) = .int (Int32.ofInt (gw_sb (2000 + o) i)) := by
    rcases h2 with rfl | rfl <;> rcases h4 with rfl | rfl | rfl | rfl <;> decide
  refine gz_intro (by decide) (Nat.le_of_ble_eq_true rfl) (fun x hx => ⟨_, .char, (Option.some.inj hx).symm, rfl, hnar⟩) (fun h => by cases h) ?_
  intro p l e R s mm args below meth c Q lsA J hl kr _ H locs hP hS
  have f := J.2.2.2.2.2.2.2.1
  have l0 := hl.2.2 (0, .ref (cx.2.2.1 (2000 + o))) (by simp [lv_args])
  have l1 := hl.2.2 (1, .int (Int32.ofInt i)) (by simp [lv_args, Value.category])
  refine lv_aload_n J.1 J.2.1 d_Jchr_0 rfl l0 ?_
  refine gz_callV (av := []) (rest := []) ho J d_Jchr_1 mlJ_492 mv_Jlat rfl rfl (by omega) (gz_lat cx m o ho) (by decide) hl.1 hP hS (fun H1 locs1 hP1 hS1 => ?_)
  refine lv_if_eq J.1 J.2.1 d_Jchr_4 (tgt := 16) rfl (fun h => absurd h (by decide)) (fun _ => ?_)
  refine lv_aload_n J.1 J.2.1 d_Jchr_7 rfl l0 ?_
  refine vk_getf J.1 J.2.1 (f.2.1.1 o ho).2.2.1 hS1 J.2.2.2.1 (J.2.2.2.2.1 _ flJ_9) (fun _ h => h) d_Jchr_8 ?_
  refine lv_iload_n J.1 J.2.1 d_Jchr_11 rfl l1 ?_
  refine gz_callS (av := [.ref (cx.2.2.2.2 o), .int (Int32.ofInt i)]) (rest := []) J d_Jchr_12 mlJ_495 mS_Jlch rfl (by omega) (gz_lch cx m o ho i hi) (by decide) hl.1 hP1 hS1 (fun H2 locs2 hP2 hS2 => ?_)
  exact kr H2 locs2 15 _ rfl d_Jchr_15 hP2 hS2
theorem gz_wt4 : ∀ l : List gw_SV, gw_wt l ≤ 2 * l.length
  | [] => Nat.le_refl _
  | .inl x :: t => by have := gz_wt4 t; show 1 + gw_wt t ≤ 2 * (t.length + 1); omega
  | .inr (.inl x) :: t => by have := gz_wt4 t; show 2 + gw_wt t ≤ 2 * (t.length + 1); omega
  | .inr (.inr x) :: t => by have := gz_wt4 t; show 1 + gw_wt t ≤ 2 * (t.length + 1); omega
theorem gw_strlen {mt d QR Γ pc ls stk m} {idx o : Nat} (pc' : Nat) (hd : decode (gw_mC mt) pc = .ok (.invokevirtual idx, 3)) (hp : pc + 3 = pc') (hw : Cond.methodLink (gw_mY mt).cls idx ⟨"java/lang/String", "length", "()I"⟩ ∈ gw_tb) (hs : o = 2000 ∨ o = 2001) (hdd : 8 ≤ d) (hln : Nat.ble stk.length 4 = true) (h : gw_G mt d QR Γ pc' ls (gI 4 :: stk) m) : gw_G mt d QR Γ pc ls (gR o :: stk) m := by
  subst hp
  obtain ⟨cx, p, l, e, R, s, mm, args, below, meth, cd, ⟨c0, s0⟩, Q⟩ := Γ
  intro ok o1 o2 o3 H locs lsA hP hS hL
  have hR := ok.2.2.2.2.2.2.2.2.2.1
  obtain ⟨k, hk, rfl⟩ : ∃ k : Nat, k < 2 ∧ o = 2000 + k := ⟨o - 2000, by omega, by omega⟩
  have w := gz_wt4 stk
  have hln := Nat.le_of_ble_eq_true hln
  refine gz_callV (mt := mt) (mt' := M_Jlen) (d := d) (d' := 3) (av := []) (rest := stk.map (gw_cv cx.2.2.1)) hk ⟨ok.1, ok.2.1, ok.2.2.1, ok.2.2.2.1, ok.2.2.2.2.1, ok.2.2.2.2.2.1, ok.2.2.2.2.2.2.1, ok.2.2.2.2.2.2.2.1, ok.2.2.2.2.2.2.2.2.1, hR, o3⟩ hd hw mv_Jlen rfl rfl (by omega) (gz_len cx m k hk) (by rw [gw_catsum]; omega) hL.1 hP hS (fun H1 locs1 hP1 hS1 => ?_)
  exact h ok o1 (gw_op (v := gI 4) (by unfold gw_okV gw_inR; omega) (gw_ot o2)) o3 H1 locs1 lsA hP1 hS1 hL
theorem gw_sb_in (o : Nat) (i : Int) : gw_inR (gw_sb o i) := by
  have h : ∀ l : List Int, (∀ x ∈ l, gw_inR x) → gw_inR (l.getD i.toNat 0) := by
    intro l hl
    rw [List.getD_eq_getElem?_getD]
    cases hx : l[i.toNat]? with
    | none => exact gw_in0
    | some x => exact hl x (List.mem_of_getElem? hx)
  unfold gw_sb
  apply h
  intro x hx
  unfold gw_inR
  split at hx <;> simp at hx <;> omega
theorem gw_charAt {mt d QR Γ pc ls stk m} {idx o : Nat} {i : Int} (pc' : Nat) (hd : decode (gw_mC mt) pc = .ok (.invokevirtual idx, 3)) (hp : pc + 3 = pc') (hw : Cond.methodLink (gw_mY mt).cls idx ⟨"java/lang/String", "charAt", "(I)C"⟩ ∈ gw_tb) (hs : o = 2000 ∨ o = 2001) (hdd : 8 ≤ d) (hln : Nat.ble stk.length 4 = true) (hi : gw_in i 4) (h : gw_G mt d QR Γ pc' ls (gI (gw_sb o i) :: stk) m) : gw_G mt d QR Γ pc ls (gI i :: gR o :: stk) m := by
  subst hp
  obtain ⟨cx, p, l, e, R, s, mm, args, below, meth, cd, ⟨c0, s0⟩, Q⟩ := Γ
  intro ok o1 o2 o3 H locs lsA hP hS hL
  have hR := ok.2.2.2.2.2.2.2.2.2.1
  obtain ⟨k, hk, rfl⟩ : ∃ k : Nat, k < 2 ∧ o = 2000 + k := ⟨o - 2000, by omega, by omega⟩
  have w := gz_wt4 stk
  have hln := Nat.le_of_ble_eq_true hln
  refine gz_callV (mt := mt) (mt' := M_Jchr) (d := d) (d' := 4) (av := [.int (Int32.ofInt i)]) (rest := stk.map (gw_cv cx.2.2.1)) hk ⟨ok.1, ok.2.1, ok.2.2.1, ok.2.2.2.1, ok.2.2.2.2.1, ok.2.2.2.2.2.1, ok.2.2.2.2.2.2.1, ok.2.2.2.2.2.2.2.1, ok.2.2.2.2.2.2.2.2.1, hR, o3⟩ hd hw mv_Jchr rfl rfl (by omega) (gz_chr cx m k hk i hi) (by rw [gw_catsum]; omega) hL.1 hP hS (fun H1 locs1 hP1 hS1 => ?_)
  exact h ok o1 (gw_op (v := gI (gw_sb (2000 + k) i)) (gw_sb_in _ _) (gw_ot (gw_ot o2))) o3 H1 locs1 lsA hP1 hS1 hL
