/-! contracts -/
def gw_rm (d : Nat) : Room := { frames := d, cells := 0, slots := 0, locals := 64 * d }
def gw_mW (mt : gw_MT) : List Cond := Cond.code (gw_mY mt) (gw_mC mt) (gw_mL mt) (gw_mR mt) :: gw_tb
def gw_Pc (cx : gw_Cx) (m : gw_Mem) (U : State) : Prop := cx.2.2.2.1 ≤ U.heap.size ∧ va_P cx.1 vwCl (gw_Wd cx m) U.heap ∧ va_K cx.1 vwCl (gw_ty cx) U ∧ gw_ap cx ∧ gw_Stat cx U U.heap ∧ gw_okM m
def gw_Qc (cx : gw_Cx) (QR : Option gw_SV → gw_Mem → Prop) : Array Value → State → Outcome → State → Prop := fun _ st oc t => (∃ (r : Option gw_SV) (m' : gw_Mem), oc = .returned (r.map (gw_cv cx.2.2.1)) ∧ (∀ v, r = some v → gw_okV v) ∧ QR r m' ∧ va_P cx.1 vwCl (gw_Wd cx m') t.heap ∧ gw_okM m') ∧ va_F (gw_A cx) st t
def gw_Spec (mt : gw_MT) (d : Nat) (a : List gw_SV) (m : gw_Mem) (QR : Option gw_SV → gw_Mem → Prop) : Prop := (∀ v ∈ a, gw_okV v) → ∀ (l : Launch) (cx : gw_Cx), Met l (gw_mY mt) (gw_mW mt) (gw_rm d) (va_Pc (a.map (gw_cv cx.2.2.1)) (gw_Pc cx m)) (gw_Qc cx QR) 0 0 (gw_A cx)
def gw_SpecC (cx : gw_Cx) (mt : gw_MT) (d : Nat) (a : List gw_SV) (m : gw_Mem) (QR : Option gw_SV → gw_Mem → Prop) : Prop := (∀ v ∈ a, gw_okV v) → ∀ (l : Launch), Met l (gw_mY mt) (gw_mW mt) (gw_rm d) (va_Pc (a.map (gw_cv cx.2.2.1)) (gw_Pc cx m)) (gw_Qc cx QR) 0 0 (gw_A cx)
theorem gw_Spec.at {mt : gw_MT} {d : Nat} {a : List gw_SV} {m : gw_Mem} {QR : Option gw_SV → gw_Mem → Prop} (h : gw_Spec mt d a m QR) (cx : gw_Cx) : gw_SpecC cx mt d a m QR := fun hoa l => h hoa l cx
def gw_SpecI (mt : gw_MT) (d : Nat) (a : List gw_SV) (m : gw_Mem) (P : Int → gw_Mem → Prop) : Prop := gw_Spec mt d a m (fun r m' => ∃ v, r = some (gI v) ∧ P v m')
def gw_SpecV (mt : gw_MT) (d : Nat) (a : List gw_SV) (m : gw_Mem) (P : gw_Mem → Prop) : Prop := gw_Spec mt d a m (fun r m' => r = none ∧ P m')
def gw_CI (d : Nat) (mt : gw_MT) (a : List gw_SV) (m : gw_Mem) (P : Int → gw_Mem → Prop) : Prop := ∃ (d' : Nat) (P0 : Int → gw_Mem → Prop), d' < d ∧ gw_SpecI mt d' a m P0 ∧ ∀ (v : Int) (m' : gw_Mem), gw_inR v → gw_okM m' → P0 v m' → P v m'
def gw_CV (d : Nat) (mt : gw_MT) (a : List gw_SV) (m : gw_Mem) (P : gw_Mem → Prop) : Prop := ∃ (d' : Nat) (P0 : gw_Mem → Prop), d' < d ∧ gw_SpecV mt d' a m P0 ∧ ∀ m' : gw_Mem, gw_okM m' → P0 m' → P m'
theorem gw_CI.of {d d' : Nat} {mt : gw_MT} {a : List gw_SV} {m : gw_Mem} {P0 P : Int → gw_Mem → Prop} (hs : gw_SpecI mt d' a m P0) (hd : Nat.blt d' d = true) (h : ∀ (v : Int) (m' : gw_Mem), gw_inR v → gw_okM m' → P0 v m' → P v m') : gw_CI d mt a m P := ⟨d', P0, by simpa [Nat.blt_eq] using hd, hs, h⟩
theorem gw_CI.eq {d d' : Nat} {mt : gw_MT} {a : List gw_SV} {m m1 : gw_Mem} {v1 : Int} {P : Int → gw_Mem → Prop} (hs : gw_SpecI mt d' a m (fun v m' => v = v1 ∧ m' = m1)) (hd : Nat.blt d' d = true) (h : P v1 m1) : gw_CI d mt a m P := gw_CI.of hs hd (fun v m' _ _ hq => by obtain ⟨rfl, rfl⟩ := hq; exact h)
theorem gw_CV.of {d d' : Nat} {mt : gw_MT} {a : List gw_SV} {m : gw_Mem} {P0 P : gw_Mem → Prop} (hs : gw_SpecV mt d' a m P0) (hd : Nat.blt d' d = true) (h : ∀ m' : gw_Mem, gw_okM m' → P0 m' → P m') : gw_CV d mt a m P := ⟨d', P0, by simpa [Nat.blt_eq] using hd, hs, h⟩
theorem gw_CV.eq {d d' : Nat} {mt : gw_MT} {a : List gw_SV} {m m1 : gw_Mem} {P : gw_Mem → Prop} (hs : gw_SpecV mt d' a m (fun m' => m' = m1)) (hd : Nat.blt d' d = true) (h : P m1) : gw_CV d mt a m P := gw_CV.of hs hd (fun m' _ hq => by subst hq; exact h)
/-! the entry -/
def gw_ini0 : List gw_SV → List (Option gw_SV)
  | [] => []
  | .inr (.inl x) :: vs => some (.inr (.inl x)) :: none :: gw_ini0 vs
  | v :: vs => some v :: gw_ini0 vs
def gw_ini (n : Nat) (a : List gw_SV) : List (Option gw_SV) := gw_ini0 a ++ List.replicate (n - (gw_ini0 a).length) none
theorem gw_ini0_len (ad : Nat → Nat) (a : List gw_SV) : (lg_sl (a.map (gw_cv ad))).length = (gw_ini0 a).length := by
  induction a with
  | nil => rfl
  | cons v vs ih =>
    rcases v with x | x | o
    · simpa [lg_sl, gw_ini0, gw_cv, Value.category] using ih
    · simpa [lg_sl, gw_ini0, gw_cv, Value.category] using ih
    · simpa [lg_sl, gw_ini0, gw_cv, Value.category] using ih
theorem gw_ini0_args (ad : Nat → Nat) (a : List gw_SV) : ∀ (k i : Nat) (v : gw_SV), (gw_ini0 a)[i]? = some (some v) → (k + i, gw_cv ad v) ∈ lv_args k (a.map (gw_cv ad)) := by
  induction a with
  | nil => intro k i v h; simp [gw_ini0] at h
  | cons w vs ih =>
    intro k i v h
    rcases w with x | x | o
    · cases i with
      | zero => simp [gw_ini0] at h; subst h; exact List.mem_cons_self
      | succ i =>
        have h1 := ih (k + 1) i v (by simpa [gw_ini0] using h)
        have h2 : (k + (i + 1), gw_cv ad v) ∈ lv_args (k + 1) (vs.map (gw_cv ad)) := by rw [show k + (i + 1) = k + 1 + i by omega]; exact h1
        exact List.mem_cons_of_mem _ h2
    · cases i with
      | zero => simp [gw_ini0] at h; subst h; exact List.mem_cons_self
      | succ i =>
        cases i with
        | zero => simp [gw_ini0] at h
        | succ i =>
          have h1 := ih (k + 2) i v (by simpa [gw_ini0] using h)
          have h2 : (k + (i + 1 + 1), gw_cv ad v) ∈ lv_args (k + 2) (vs.map (gw_cv ad)) := by rw [show k + (i + 1 + 1) = k + 2 + i by omega]; exact h1
          exact List.mem_cons_of_mem _ h2
    · cases i with
      | zero => simp [gw_ini0] at h; subst h; exact List.mem_cons_self
      | succ i =>
        have h1 := ih (k + 1) i v (by simpa [gw_ini0] using h)
        have h2 : (k + (i + 1), gw_cv ad v) ∈ lv_args (k + 1) (vs.map (gw_cv ad)) := by rw [show k + (i + 1) = k + 1 + i by omega]; exact h1
        exact List.mem_cons_of_mem _ h2
theorem gw_ini0_mem (a : List gw_SV) : ∀ v, some v ∈ gw_ini0 a → v ∈ a := by
  induction a with
  | nil => intro v h; simp [gw_ini0] at h
  | cons w vs ih =>
    intro v h
    rcases w with x | x | o
    · simp only [gw_ini0, List.mem_cons, Option.some.injEq] at h
      rcases h with h | h
      · rw [h]; exact List.mem_cons_self
      · exact List.mem_cons_of_mem _ (ih v h)
    · simp only [gw_ini0, List.mem_cons, Option.some.injEq] at h
      rcases h with h | h | h
      · rw [h]; exact List.mem_cons_self
      · cases h
      · exact List.mem_cons_of_mem _ (ih v h)
    · simp only [gw_ini0, List.mem_cons, Option.some.injEq] at h
      rcases h with h | h
      · rw [h]; exact List.mem_cons_self
      · exact List.mem_cons_of_mem _ (ih v h)
theorem gw_ini_ls (ad : Nat → Nat) {n : Nat} {a : List gw_SV} (h : (gw_ini0 a).length ≤ n) : gw_ls ad n ((lg_sl (a.map (gw_cv ad)) ++ List.replicate (n - (lg_sl (a.map (gw_cv ad))).length) Slot.unset).toArray) (gw_ini n a) := by
  have h1 := lv_entry (a.map (gw_cv ad)) (n := n) (by rw [gw_ini0_len]; exact h)
  refine ⟨h1.1, h1.2.1, by unfold gw_ini; rw [List.length_append, List.length_replicate]; omega, fun i v hv => ?_⟩
  have h2 : (gw_ini0 a)[i]? = some (some v) := by
    unfold gw_ini at hv
    by_cases hi : i < (gw_ini0 a).length
    · rwa [List.getElem?_append_left hi] at hv
    · rw [List.getElem?_append_right (by omega), List.getElem?_replicate] at hv
      split at hv <;> simp at hv
  have h3 := gw_ini0_args ad a 0 i v h2
  rw [Nat.zero_add] at h3
  exact h1.2.2 _ h3
theorem gw_introC {cx : gw_Cx} {mt : gw_MT} {d : Nat} {a : List gw_SV} {m : gw_Mem} {QR : Option gw_SV → gw_Mem → Prop} (hp : plainName (gw_mY mt).cls = true) (hl : Nat.ble (gw_ini0 a).length (gw_mL mt) = true) (hG : ∀ Γ : gw_Ga, Γ.1 = cx → gw_G mt d QR Γ 0 (gw_ini (gw_mL mt) a) [] m) : gw_SpecC cx mt d a m QR := by
  intro hoa l
  refine Met.ofW (cc := gw_mC mt) (maxL := gw_mL mt) (ret := gw_mR mt) hp rfl ?_
  intro p e s mm args below meth c s₁ B hml hv
  obtain ⟨rfl, hbase, hP, hK, hap, hSt, hoM⟩ := hv
  have hts := atoms_spec (ws := gw_mW mt) B.pre
  have hown : s.vm.findClass (gw_mY mt).cls = some mm.cls := findClass_of_methodNamed B.named
  rw [lg_entry_eq]
  have hS : va_S (gw_A cx) s.heap s.heap [] := va_S.rf
  refine hG (cx, p, l, e, (headSpec (gw_mW mt) (gw_rm d)).room, s, mm, (a.map (gw_cv cx.2.2.1)).toArray, below, meth, c, (0, 0), MQ below (gw_Qc cx QR) (a.map (gw_cv cx.2.2.1)).toArray s 0 0 (gw_A cx)) rfl ?_ ?_ (fun v hv => by cases hv) hoM s.heap [] _ hP hS (gw_ini_ls cx.2.2.1 (Nat.le_of_ble_eq_true hl))
  · refine ⟨B.exec, B.bytes, hml, hown, fun w hw => hts w (List.mem_cons_of_mem _ hw), hK, hap, hSt, hbase, ⟨Nat.le_refl _, Nat.le_refl _, Nat.le_refl _, Nat.le_refl _⟩, ?_, ?_⟩
    · intro v m' H locs lsA pc hq hr hret hdg hP' hoM' hS'
      have hqc : ∀ t : State, t.heap = H → s.WarmedH t.vm → gw_Qc cx QR (a.map (gw_cv cx.2.2.1)).toArray s (.returned (some (.int (Int32.ofInt v)))) t := fun t ht _ => ⟨⟨some (gI v), m', rfl, fun w hw => (by cases hw; exact hr), hq, by rw [ht]; exact hP', hoM'⟩, hS'.F ht⟩
      rcases hret with hret | ⟨hret, hb⟩
      · exact W.iret B.exec B.bytes (by rw [B.returns, hret]) hqc hS'.2.2 hdg B.notSynchronized
      · exact W.zret B.exec B.bytes (by rw [B.returns, hret]) (gw_bool hb).1 hqc hS'.2.2 hdg B.notSynchronized
    · intro m' H locs lsA pc hq hret hdg hP' hoM' hS'
      have hqc : ∀ t : State, t.heap = H → s.WarmedH t.vm → gw_Qc cx QR (a.map (gw_cv cx.2.2.1)).toArray s (.returned none) t := fun t ht _ => ⟨⟨none, m', rfl, fun w hw => (by cases hw), hq, by rw [ht]; exact hP', hoM'⟩, hS'.F ht⟩
      exact W.vret B.exec B.bytes (by rw [B.returns, hret]) hqc hS'.2.2 hdg B.notSynchronized
  · intro v hv
    refine hoa v (gw_ini0_mem a v ?_)
    unfold gw_ini at hv
    rcases List.mem_append.mp hv with h | h
    · exact h
    · exact absurd (List.eq_of_mem_replicate h) (by simp)
theorem gw_intro {mt : gw_MT} {d : Nat} {a : List gw_SV} {m : gw_Mem} {QR : Option gw_SV → gw_Mem → Prop} (hp : plainName (gw_mY mt).cls = true) (hl : Nat.ble (gw_ini0 a).length (gw_mL mt) = true) (hG : ∀ Γ : gw_Ga, gw_G mt d QR Γ 0 (gw_ini (gw_mL mt) a) [] m) : gw_Spec mt d a m QR := fun hoa l cx => gw_introC (cx := cx) hp hl (fun Γ _ => hG Γ) hoa l
/-! the end -/
theorem gw_ireturn {mt d QR Γ pc ls m} {v : Int} (hd : decode (gw_mC mt) pc = .ok (.ireturn, 1)) (hr : gw_mR mt = some .int ∨ gw_mR mt = some .boolean ∧ gw_b v) (h : QR (some (gI v)) m) : gw_G mt d QR Γ pc ls [gI v] m := by
  obtain ⟨cx, p, l, e, R, s, mm, args, below, meth, cd, ⟨c0, s0⟩, Q⟩ := Γ
  intro ok o1 o2 o3 H locs lsA hP hS hL
  exact ok.2.2.2.2.2.2.2.2.2.2.1 v m H locs lsA pc h (gw_o0 o2) hr hd hP o3 hS
theorem gw_return {mt d QR Γ pc ls m} (hd : decode (gw_mC mt) pc = .ok (.return_, 1)) (hr : gw_mR mt = none) (h : QR none m) : gw_G mt d QR Γ pc ls [] m := by
  obtain ⟨cx, p, l, e, R, s, mm, args, below, meth, cd, ⟨c0, s0⟩, Q⟩ := Γ
  intro ok o1 o2 o3 H locs lsA hP hS hL
  exact ok.2.2.2.2.2.2.2.2.2.2.2 m H locs lsA pc h hr hd hP o3 hS
/-! calls -/
def gw_wt : List gw_SV → Nat
  | [] => 0
  | .inr (.inl _) :: t => 2 + gw_wt t
  | _ :: t => 1 + gw_wt t
theorem gw_catsum (ad : Nat → Nat) : ∀ l : List gw_SV, ((l.map (gw_cv ad)).map fun v => v.category).sum = gw_wt l
  | [] => rfl
  | .inl x :: t => by
    have h1 := gw_catsum ad t
    simp only [List.map_cons, List.sum_cons, gw_wt, h1]
    rfl
  | .inr (.inl x) :: t => by
    have h1 := gw_catsum ad t
    simp only [List.map_cons, List.sum_cons, gw_wt, h1]
    rfl
  | .inr (.inr x) :: t => by
    have h1 := gw_catsum ad t
    simp only [List.map_cons, List.sum_cons, gw_wt, h1]
    rfl
theorem gw_good {w : Cond} (h : w ∈ gw_tb) : (w.onTables && w.keeps) = true ∨ ∃ ty, w = .arrayClass ty := good_of_word (gw_tb_good w h)
def gw_MB (mt : gw_MT) (n : Nat) : Prop := Cond.code (gw_mY mt) (gw_mC mt) (gw_mL mt) (gw_mR mt) ∈ gw_tb ∧ Cond.initialized (gw_mY mt).cls ∈ gw_tb ∧ (gw_mY mt).cls ≠ "java/lang/invoke/MethodHandle" ∧ (gw_mY mt).cls ≠ "java/lang/invoke/VarHandle" ∧ (parseMethodDescriptor (gw_mY mt).desc).map (fun d => d.parameters.length) = some n ∧ gw_mL mt ≤ 40
def gw_MV (mt : gw_MT) (n : Nat) : Prop := gw_MB mt n ∧ Cond.instanceMethod (gw_mY mt) ∈ gw_tb ∧ Cond.selects (gw_mY mt).cls (gw_mY mt) (gw_mY mt) ∈ gw_tb
def gw_MS (mt : gw_MT) (n : Nat) : Prop := gw_MB mt n ∧ Cond.static (gw_mY mt) ∈ gw_tb
theorem gw_mW_good {mt : gw_MT} {n : Nat} (h : gw_MB mt n) : GoodIn gw_tb (gw_mW mt) := by
  intro w hw
  rcases List.mem_cons.mp hw with rfl | hw
  · exact ⟨h.1, gw_good h.1⟩
  · exact ⟨hw, gw_good hw⟩
theorem gw_blind {cx : gw_Cx} {av : List Value} {m : gw_Mem} : FrameBlind (va_Pc av (gw_Pc cx m)) := by
  intro a U g mk q
  obtain ⟨q0, q1, q2, q3, q4, q5, q6⟩ := q
  exact ⟨q0, q1, q2, va_K.moved (u := U) (U := U.calling g mk a) (Vm.Alike.refl U.vm) q3, q4, gw_Stat.same (u := U) rfl q5, q6⟩
section GWC
variable {p : Program} {l : Launch} {e : Env} {R : Room} {s : State} {mm : MethodId} {args : Array Value} {below : List Frame} {meth : Method} {cd : Code} {H : Heap} {locs : List Loc} {c0 s0 : Nat} {Q : State → Prop} {lsA : Array Slot}
theorem gw_core {cx : gw_Cx} {QR' : Option gw_SV → gw_Mem → Prop} {pc : Nat} {st0 rest : List Value} {a' : Array Value} (hr : va_Run p l e R s mm args below meth cd H locs c0 s0 0 0 (F0 mm pc lsA st0) rest (gw_Qc cx QR' a') (gw_A cx)) (hS : va_S (gw_A cx) s.heap H locs)
    (kk : ∀ (r : Option gw_SV) (m' : gw_Mem) (H1 : Heap) (locs1 : List Loc), (∀ v, r = some v → gw_okV v) → QR' r m' → va_P cx.1 vwCl (gw_Wd cx m') H1 → gw_okM m' → va_S (gw_A cx) s.heap H1 locs1 → W p l e R s mm args below meth cd H1 locs1 c0 s0 Q (F0 mm (pc + 3) lsA ((r.map (gw_cv cx.2.2.1)).toList ++ rest))) : W p l e R s mm args below meth cd H locs c0 s0 Q (F0 mm pc lsA st0) := by
  intro T hT X
  obtain ⟨v, st₀, t, T', L, h0, X', hL, e1, e2, ⟨⟨r, m', hv, hok, hq, hp, hm⟩, hz, hk⟩, st⟩ := hr T hT X
  have hv : v = r.map (gw_cv cx.2.2.1) := by injection hv
  subst hv
  rw [h0] at hz hk
  obtain ⟨t2, a1, b1⟩ := kk r m' T'.heap (locs ++ L) hok hq (by rw [e1]; exact hp) hm
    ⟨Nat.le_trans hS.1 (by rw [e1]; exact hz), fun q h1 h2 => by rw [e1, hk q (Nat.lt_of_lt_of_le h1 hS.1) h2]; exact hS.2.1 q h1 h2, fun q hq => by
      rcases List.mem_append.mp hq with h | h
      · exact hS.2.2 q h
      · exact hL q h⟩ T' rfl X'
  exact ⟨t2, st t2 a1, b1⟩
theorem gw_pcH {cx : gw_Cx} {m : gw_Mem} {U : State} (hK : va_K cx.1 vwCl (gw_ty cx) s) (hap : gw_ap cx) (hSt : gw_Stat cx s s.heap) (hbase : cx.2.2.2.1 ≤ s.heap.size) (hP : va_P cx.1 vwCl (gw_Wd cx m) H) (hS : va_S (gw_A cx) s.heap H locs) (hoM : gw_okM m) (hU : U.heap = H) (hW : s.WarmedH U.vm) : gw_Pc cx m U :=
  ⟨by rw [hU]; exact Nat.le_trans hbase hS.1, by rw [hU]; exact hP, va_K.moved hW.alike hK, hap, by rw [hU]; exact gw_Stat.warm hW (hSt.kept hS.2.1), hoM⟩
end GWC
theorem gw_callV {mt : gw_MT} {d QR Γ pc ls} {stk rest : List gw_SV} {m} {idx b n ci : Nat} {sl : List (Option Nat)} {mt' : gw_MT} {d' : Nat} {a : List gw_SV} {QR' : Option gw_SV → gw_Mem → Prop} (pc' : Nat) (hd : decode (gw_mC mt) pc = .ok (.invokevirtual idx, 3)) (hp : pc + 3 = pc') (hw : Cond.methodLink (gw_mY mt).cls idx (gw_mY mt') ∈ gw_tb) (hmv : gw_MV mt' n) (hn : a.length = n) (hs : gw_SH[b]? = some (0, ci, sl)) (hc : (vwCl[ci]?).map (fun q => q.1) = some (gw_mY mt').cls) (hln : Nat.ble (gw_wt rest) 8 = true) (hst : stk = a.reverse ++ gR b :: rest) (hdd : d' < d) (hsp : gw_SpecC Γ.1 mt' d' (gR b :: a) m QR')
    (h : ∀ (r : Option gw_SV) (m' : gw_Mem), (∀ v, r = some v → gw_okV v) → gw_okM m' → QR' r m' → gw_G mt d QR Γ pc' ls (r.toList ++ rest) m') : gw_G mt d QR Γ pc ls stk m := by
  subst hp; subst hst
  obtain ⟨cx, p, l, e, R, s, mm, args, below, meth, cd, ⟨c0, s0⟩, Q⟩ := Γ
  intro ok o1 o2 o3 H locs lsA hP hS hL
  have hR := ok.2.2.2.2.2.2.2.2.2.1
  have hoa : ∀ v ∈ gR b :: a, gw_okV v := fun v hv => o2 v (by
    rcases List.mem_cons.mp hv with rfl | hv
    · exact List.mem_append_right _ List.mem_cons_self
    · exact List.mem_append_left _ (List.mem_reverse.mpr hv))
  have hM := hsp hoa l
  have hG : GoodIn gw_tb (wsV (gw_mY mt).cls idx (gw_mY mt').cls (gw_mY mt') (gw_mW mt')) := by
    intro w hw1
    unfold wsV at hw1
    rcases List.mem_append.mp hw1 with h1 | h1
    · simp only [List.mem_cons, List.not_mem_nil, or_false] at h1
      rcases h1 with rfl | rfl | rfl | rfl
      · exact ⟨hw, gw_good hw⟩
      · exact ⟨hmv.2.1, gw_good hmv.2.1⟩
      · exact ⟨hmv.2.2, gw_good hmv.2.2⟩
      · exact ⟨hmv.1.2.1, gw_good hmv.1.2.1⟩
    · exact gw_mW_good hmv.1 w h1
  obtain ⟨q, hq, hq1⟩ := Option.map_eq_some_iff.mp hc
  have hrecv := va_recv ok.2.2.2.2.2.1 hP hq (gw_Wd_get hs)
  rw [hq1] at hrecv
  have hcat := gw_catsum cx.2.2.1 rest
  have hln := Nat.le_of_ble_eq_true hln
  have h40 := hmv.1.2.2.2.2.2
  have hrun := va_runV (R := R) (locs := locs) (cells := c0) (slots := s0) (below := below) (meth := meth) (e := e) (g := F0 mm pc lsA ((a.reverse ++ gR b :: rest).map (gw_cv cx.2.2.1))) (As := a.map (gw_cv cx.2.2.1)) (rest := rest.map (gw_cv cx.2.2.1)) (b := cx.2.2.1 b) (C := (gw_mY mt').cls) ⟨ok.1, ok.2.1, ok.2.2.1, ok.2.2.2.1, ok.2.2.2.2.1⟩ hM
    (cwV n ok.2.2.2.2.1 hG rfl rfl rfl ⟨rfl, hmv.1.2.2.1, hmv.1.2.2.2.1, hmv.1.2.2.2.2.1⟩ ⟨by show d' + 1 ≤ _; omega, by show 8 + (gw_mL mt' + 11) + 64 * d' ≤ _; omega⟩)
    ⟨gw_blind, hrecv, fun U hU hW => ⟨by simp [gw_cv], gw_pcH ok.2.2.2.2.2.1 ok.2.2.2.2.2.2.1 ok.2.2.2.2.2.2.2.1 ok.2.2.2.2.2.2.2.2.1 hP hS o3 hU hW⟩⟩ rfl (by rw [List.length_map]; exact hn) hL.1 (by simp [gw_cv]) (lv_room (by omega)) hd ⟨hR.2.2.1, hR.2.2.2⟩
  refine gw_core hrun hS (fun r m' H1 locs1 hok hq hP1 hm1 hS1 => ?_)
  have hk := h r m' hok hm1 hq ok o1 (fun v hv => by
    rcases List.mem_append.mp hv with h1 | h1
    · cases r with
      | none => cases h1
      | some w => exact hok v (by simp at h1; rw [h1])
    · exact o2 v (List.mem_append_right _ (List.mem_cons_of_mem _ h1))) hm1 H1 locs1 lsA hP1 hS1 hL
  have e9 : (r.toList ++ rest).map (gw_cv cx.2.2.1) = (r.map (gw_cv cx.2.2.1)).toList ++ rest.map (gw_cv cx.2.2.1) := by
    cases r <;> simp
  rw [e9] at hk
  exact hk
theorem gw_callS {mt : gw_MT} {d QR Γ pc ls} {stk rest : List gw_SV} {m} {idx n : Nat} {mt' : gw_MT} {d' : Nat} {a : List gw_SV} {QR' : Option gw_SV → gw_Mem → Prop} (pc' : Nat) (hd : decode (gw_mC mt) pc = .ok (.invokestatic idx, 3)) (hp : pc + 3 = pc') (hw : Cond.methodLink (gw_mY mt).cls idx (gw_mY mt') ∈ gw_tb) (hmv : gw_MS mt' n) (hn : a.length = n) (hln : Nat.ble (gw_wt rest) 8 = true) (hst : stk = a.reverse ++ rest) (hdd : d' < d) (hsp : gw_SpecC Γ.1 mt' d' a m QR')
    (h : ∀ (r : Option gw_SV) (m' : gw_Mem), (∀ v, r = some v → gw_okV v) → gw_okM m' → QR' r m' → gw_G mt d QR Γ pc' ls (r.toList ++ rest) m') : gw_G mt d QR Γ pc ls stk m := by
  subst hp; subst hst
  obtain ⟨cx, p, l, e, R, s, mm, args, below, meth, cd, ⟨c0, s0⟩, Q⟩ := Γ
  intro ok o1 o2 o3 H locs lsA hP hS hL
  have hR := ok.2.2.2.2.2.2.2.2.2.1
  have hoa : ∀ v ∈ a, gw_okV v := fun v hv => o2 v (List.mem_append_left _ (List.mem_reverse.mpr hv))
  have hM := hsp hoa l
  have hG : GoodIn gw_tb (va_wsS (gw_mY mt).cls idx (gw_mY mt') (gw_mW mt')) := by
    intro w hw1
    unfold va_wsS at hw1
    rcases List.mem_append.mp hw1 with h1 | h1
    · simp only [List.mem_cons, List.not_mem_nil, or_false] at h1
      rcases h1 with rfl | rfl | rfl
      · exact ⟨hw, gw_good hw⟩
      · exact ⟨hmv.2, gw_good hmv.2⟩
      · exact ⟨hmv.1.2.1, gw_good hmv.1.2.1⟩
    · exact gw_mW_good hmv.1 w h1
  have hcat := gw_catsum cx.2.2.1 rest
  have hln := Nat.le_of_ble_eq_true hln
  have h40 := hmv.1.2.2.2.2.2
  have hrun := va_runS (R := R) (locs := locs) (cells := c0) (slots := s0) (below := below) (meth := meth) (e := e) (g := F0 mm pc lsA ((a.reverse ++ rest).map (gw_cv cx.2.2.1))) (As := a.map (gw_cv cx.2.2.1)) (rest := rest.map (gw_cv cx.2.2.1)) ⟨ok.1, ok.2.1, ok.2.2.1, ok.2.2.2.1, ok.2.2.2.2.1⟩ hM
    (va_cwS n ok.2.2.2.2.1 hG rfl rfl rfl ⟨hmv.1.2.2.1, hmv.1.2.2.2.1, hmv.1.2.2.2.2.1⟩ ⟨by show d' + 1 ≤ _; omega, by show 8 + (gw_mL mt' + 11) + 64 * d' ≤ _; omega⟩)
    ⟨gw_blind, fun U hU hW => ⟨rfl, gw_pcH ok.2.2.2.2.2.1 ok.2.2.2.2.2.2.1 ok.2.2.2.2.2.2.2.1 ok.2.2.2.2.2.2.2.2.1 hP hS o3 hU hW⟩⟩ rfl (by rw [List.length_map]; exact hn) hL.1 (by simp) (lv_room (by omega)) hd ⟨hR.2.2.1, hR.2.2.2⟩
  refine gw_core hrun hS (fun r m' H1 locs1 hok hq hP1 hm1 hS1 => ?_)
  have hk := h r m' hok hm1 hq ok o1 (fun v hv => by
    rcases List.mem_append.mp hv with h1 | h1
    · cases r with
      | none => cases h1
      | some w => exact hok v (by simp at h1; rw [h1])
    · exact o2 v (List.mem_append_right _ h1)) hm1 H1 locs1 lsA hP1 hS1 hL
  have e9 : (r.toList ++ rest).map (gw_cv cx.2.2.1) = (r.map (gw_cv cx.2.2.1)).toList ++ rest.map (gw_cv cx.2.2.1) := by
    cases r <;> simp
  rw [e9] at hk
  exact hk
theorem gw_callSN {mt : gw_MT} {d QR Γ pc ls} {stk rest : List gw_SV} {m} {idx n : Nat} {host : String} {mt' : gw_MT} {d' : Nat} {a : List gw_SV} {QR' : Option gw_SV → gw_Mem → Prop} (pc' : Nat) (hd : decode (gw_mC mt) pc = .ok (.invokestatic idx, 3)) (hp : pc + 3 = pc') (hw : ((gw_mY mt).cls, idx, gw_mY mt', host) ∈ gw_nwM) (hmv : gw_MS mt' n) (hn : a.length = n) (hln : Nat.ble (gw_wt rest) 8 = true) (hst : stk = a.reverse ++ rest) (hdd : d' < d) (hsp : gw_Spec mt' d' a m QR')
    (h : ∀ (r : Option gw_SV) (m' : gw_Mem), (∀ v, r = some v → gw_okV v) → gw_okM m' → QR' r m' → gw_G mt d QR Γ pc' ls (r.toList ++ rest) m') : gw_G mt d QR Γ pc ls stk m := by
  subst hp; subst hst
  obtain ⟨cx, p, l, e, R, s, mm, args, below, meth, cd, ⟨c0, s0⟩, Q⟩ := Γ
  intro ok o1 o2 o3 H locs lsA hP hS hL
  have hR := ok.2.2.2.2.2.2.2.2.2.1
  have hoa : ∀ v ∈ a, gw_okV v := fun v hv => o2 v (List.mem_append_left _ (List.mem_reverse.mpr hv))
  have hM := hsp hoa l cx
  have hcat := gw_catsum cx.2.2.1 rest
  have hln := Nat.le_of_ble_eq_true hln
  have h40 := hmv.1.2.2.2.2.2
  have hrun := va_runSN (R := R) (locs := locs) (cells := c0) (slots := s0) (below := below) (meth := meth) (e := e) (g := F0 mm pc lsA ((a.reverse ++ rest).map (gw_cv cx.2.2.1))) (As := a.map (gw_cv cx.2.2.1)) (rest := rest.map (gw_cv cx.2.2.1)) (host := host) ⟨ok.1, ok.2.1, ok.2.2.1, ok.2.2.2.1, ok.2.2.2.2.1⟩ hM
    ⟨va_cnB n ok.2.2.2.2.1 (gw_mW_good hmv.1) rfl rfl rfl (ok.2.2.2.2.2.2.2.1.2.2.1 _ hw) (ok.2.2.2.2.1 _ hmv.1.2.1) ⟨hmv.1.2.2.1, hmv.1.2.2.2.1, hmv.1.2.2.2.2.1⟩ ⟨by show d' + 1 ≤ _; omega, by show 8 + (gw_mL mt' + 11) + 64 * d' ≤ _; omega⟩, ok.2.2.2.2.1 _ hmv.2, trivial⟩
    ⟨gw_blind, fun U hU hW => ⟨rfl, gw_pcH ok.2.2.2.2.2.1 ok.2.2.2.2.2.2.1 ok.2.2.2.2.2.2.2.1 ok.2.2.2.2.2.2.2.2.1 hP hS o3 hU hW⟩⟩ rfl (by rw [List.length_map]; exact hn) hL.1 (by simp) (lv_room (by omega)) hd ⟨hR.2.2.1, hR.2.2.2⟩
  refine gw_core hrun hS (fun r m' H1 locs1 hok hq hP1 hm1 hS1 => ?_)
  have hk := h r m' hok hm1 hq ok o1 (fun v hv => by
    rcases List.mem_append.mp hv with h1 | h1
    · cases r with
      | none => cases h1
      | some w => exact hok v (by simp at h1; rw [h1])
    · exact o2 v (List.mem_append_right _ h1)) hm1 H1 locs1 lsA hP1 hS1 hL
  have e9 : (r.toList ++ rest).map (gw_cv cx.2.2.1) = (r.map (gw_cv cx.2.2.1)).toList ++ rest.map (gw_cv cx.2.2.1) := by
    cases r <;> simp
  rw [e9] at hk
  exact hk
/-- the same by what a call answers: I an int, V nothing -/
theorem gw_cVI {mt : gw_MT} {d QR Γ pc ls} {stk rest : List gw_SV} {m} {idx b n ci : Nat} {sl : List (Option Nat)} {mt' : gw_MT} {a : List gw_SV} {P : Int → gw_Mem → Prop} (pc' : Nat) (hd : decode (gw_mC mt) pc = .ok (.invokevirtual idx, 3)) (hp : pc + 3 = pc') (hw : Cond.methodLink (gw_mY mt).cls idx (gw_mY mt') ∈ gw_tb) (hmv : gw_MV mt' n) (hn : a.length = n) (hs : gw_SH[b]? = some (0, ci, sl)) (hc : (vwCl[ci]?).map (fun q => q.1) = some (gw_mY mt').cls) (hln : Nat.ble (gw_wt rest) 8 = true) (hst : stk = a.reverse ++ gR b :: rest) (hsp : gw_CI d mt' (gR b :: a) m P) (h : ∀ (v : Int) (m' : gw_Mem), P v m' → gw_G mt d QR Γ pc' ls (gI v :: rest) m') : gw_G mt d QR Γ pc ls stk m := by
  obtain ⟨d', P0, hdd, hS, hk⟩ := hsp
  refine gw_callV pc' hd hp hw hmv hn hs hc hln hst hdd (hS.at _) (fun r m' ho hm hq => ?_)
  obtain ⟨v, rfl, hP⟩ := hq
  exact h v m' (hk v m' (ho _ rfl) hm hP)
theorem gw_cVV {mt : gw_MT} {d QR Γ pc ls} {stk rest : List gw_SV} {m} {idx b n ci : Nat} {sl : List (Option Nat)} {mt' : gw_MT} {a : List gw_SV} {P : gw_Mem → Prop} (pc' : Nat) (hd : decode (gw_mC mt) pc = .ok (.invokevirtual idx, 3)) (hp : pc + 3 = pc') (hw : Cond.methodLink (gw_mY mt).cls idx (gw_mY mt') ∈ gw_tb) (hmv : gw_MV mt' n) (hn : a.length = n) (hs : gw_SH[b]? = some (0, ci, sl)) (hc : (vwCl[ci]?).map (fun q => q.1) = some (gw_mY mt').cls) (hln : Nat.ble (gw_wt rest) 8 = true) (hst : stk = a.reverse ++ gR b :: rest) (hsp : gw_CV d mt' (gR b :: a) m P) (h : ∀ (m' : gw_Mem), P m' → gw_G mt d QR Γ pc' ls rest m') : gw_G mt d QR Γ pc ls stk m := by
  obtain ⟨d', P0, hdd, hS, hk⟩ := hsp
  refine gw_callV pc' hd hp hw hmv hn hs hc hln hst hdd (hS.at _) (fun r m' ho hm hq => ?_)
  obtain ⟨rfl, hP⟩ := hq
  exact h m' (hk m' hm hP)
theorem gw_cSI {mt : gw_MT} {d QR Γ pc ls} {stk rest : List gw_SV} {m} {idx n : Nat} {mt' : gw_MT} {a : List gw_SV} {P : Int → gw_Mem → Prop} (pc' : Nat) (hd : decode (gw_mC mt) pc = .ok (.invokestatic idx, 3)) (hp : pc + 3 = pc') (hw : Cond.methodLink (gw_mY mt).cls idx (gw_mY mt') ∈ gw_tb) (hmv : gw_MS mt' n) (hn : a.length = n) (hln : Nat.ble (gw_wt rest) 8 = true) (hst : stk = a.reverse ++ rest) (hsp : gw_CI d mt' a m P) (h : ∀ (v : Int) (m' : gw_Mem), P v m' → gw_G mt d QR Γ pc' ls (gI v :: rest) m') : gw_G mt d QR Γ pc ls stk m := by
  obtain ⟨d', P0, hdd, hS, hk⟩ := hsp
  refine gw_callS pc' hd hp hw hmv hn hln hst hdd (hS.at _) (fun r m' ho hm hq => ?_)
  obtain ⟨v, rfl, hP⟩ := hq
  exact h v m' (hk v m' (ho _ rfl) hm hP)
theorem gw_cSV {mt : gw_MT} {d QR Γ pc ls} {stk rest : List gw_SV} {m} {idx n : Nat} {mt' : gw_MT} {a : List gw_SV} {P : gw_Mem → Prop} (pc' : Nat) (hd : decode (gw_mC mt) pc = .ok (.invokestatic idx, 3)) (hp : pc + 3 = pc') (hw : Cond.methodLink (gw_mY mt).cls idx (gw_mY mt') ∈ gw_tb) (hmv : gw_MS mt' n) (hn : a.length = n) (hln : Nat.ble (gw_wt rest) 8 = true) (hst : stk = a.reverse ++ rest) (hsp : gw_CV d mt' a m P) (h : ∀ (m' : gw_Mem), P m' → gw_G mt d QR Γ pc' ls rest m') : gw_G mt d QR Γ pc ls stk m := by
  obtain ⟨d', P0, hdd, hS, hk⟩ := hsp
  refine gw_callS pc' hd hp hw hmv hn hln hst hdd (hS.at _) (fun r m' ho hm hq => ?_)
  obtain ⟨rfl, hP⟩ := hq
  exact h m' (hk m' hm hP)
theorem gw_cNI {mt : gw_MT} {d QR Γ pc ls} {stk rest : List gw_SV} {m} {idx n : Nat} {host : String} {mt' : gw_MT} {a : List gw_SV} {P : Int → gw_Mem → Prop} (pc' : Nat) (hd : decode (gw_mC mt) pc = .ok (.invokestatic idx, 3)) (hp : pc + 3 = pc') (hw : ((gw_mY mt).cls, idx, gw_mY mt', host) ∈ gw_nwM) (hmv : gw_MS mt' n) (hn : a.length = n) (hln : Nat.ble (gw_wt rest) 8 = true) (hst : stk = a.reverse ++ rest) (hsp : gw_CI d mt' a m P) (h : ∀ (v : Int) (m' : gw_Mem), P v m' → gw_G mt d QR Γ pc' ls (gI v :: rest) m') : gw_G mt d QR Γ pc ls stk m := by
  obtain ⟨d', P0, hdd, hS, hk⟩ := hsp
  refine gw_callSN pc' hd hp hw hmv hn hln hst hdd hS (fun r m' ho hm hq => ?_)
  obtain ⟨v, rfl, hP⟩ := hq
  exact h v m' (hk v m' (ho _ rfl) hm hP)
/-! the same where the script is spoken of -/
def gw_SpecX (cx : gw_Cx) (mt : gw_MT) (d : Nat) (a : List gw_SV) (m : gw_Mem) (P : Int → gw_Mem → Prop) : Prop := gw_SpecC cx mt d a m (fun r m' => ∃ v, r = some (gI v) ∧ P v m')
def gw_CIx (Γ : gw_Ga) (d : Nat) (mt : gw_MT) (a : List gw_SV) (m : gw_Mem) (P : Int → gw_Mem → Prop) : Prop := ∃ (d' : Nat) (P0 : Int → gw_Mem → Prop), d' < d ∧ gw_SpecX Γ.1 mt d' a m P0 ∧ ∀ (v : Int) (m' : gw_Mem), gw_inR v → gw_okM m' → P0 v m' → P v m'
theorem gw_CIx.of {Γ : gw_Ga} {d d' : Nat} {mt : gw_MT} {a : List gw_SV} {m : gw_Mem} {P0 P : Int → gw_Mem → Prop} (hs : gw_SpecI mt d' a m P0) (hd : Nat.blt d' d = true) (h : ∀ (v : Int) (m' : gw_Mem), gw_inR v → gw_okM m' → P0 v m' → P v m') : gw_CIx Γ d mt a m P := ⟨d', P0, by simpa [Nat.blt_eq] using hd, hs.at _, h⟩
theorem gw_CIx.eq {Γ : gw_Ga} {d d' : Nat} {mt : gw_MT} {a : List gw_SV} {m m1 : gw_Mem} {v1 : Int} {P : Int → gw_Mem → Prop} (hs : gw_SpecI mt d' a m (fun v m' => v = v1 ∧ m' = m1)) (hd : Nat.blt d' d = true) (h : P v1 m1) : gw_CIx Γ d mt a m P := gw_CIx.of hs hd (fun v m' _ _ hq => by obtain ⟨rfl, rfl⟩ := hq; exact h)
theorem gw_CIx.ofX {Γ : gw_Ga} {cx : gw_Cx} {d d' : Nat} {mt : gw_MT} {a : List gw_SV} {m : gw_Mem} {P0 P : Int → gw_Mem → Prop} (hc : Γ.1 = cx) (hs : gw_SpecX cx mt d' a m P0) (hd : Nat.blt d' d = true) (h : ∀ (v : Int) (m' : gw_Mem), gw_inR v → gw_okM m' → P0 v m' → P v m') : gw_CIx Γ d mt a m P := ⟨d', P0, by simpa [Nat.blt_eq] using hd, by rw [hc]; exact hs, h⟩
theorem gw_CIx.eqX {Γ : gw_Ga} {cx : gw_Cx} {d d' : Nat} {mt : gw_MT} {a : List gw_SV} {m m1 : gw_Mem} {v1 : Int} {P : Int → gw_Mem → Prop} (hc : Γ.1 = cx) (hs : gw_SpecX cx mt d' a m (fun v m' => v = v1 ∧ m' = m1)) (hd : Nat.blt d' d = true) (h : P v1 m1) : gw_CIx Γ d mt a m P := gw_CIx.ofX hc hs hd (fun v m' _ _ hq => by obtain ⟨rfl, rfl⟩ := hq; exact h)
theorem gw_cVIx {mt : gw_MT} {d QR Γ pc ls} {stk rest : List gw_SV} {m} {idx b n ci : Nat} {sl : List (Option Nat)} {mt' : gw_MT} {a : List gw_SV} {P : Int → gw_Mem → Prop} (pc' : Nat) (hd : decode (gw_mC mt) pc = .ok (.invokevirtual idx, 3)) (hp : pc + 3 = pc') (hw : Cond.methodLink (gw_mY mt).cls idx (gw_mY mt') ∈ gw_tb) (hmv : gw_MV mt' n) (hn : a.length = n) (hs : gw_SH[b]? = some (0, ci, sl)) (hc : (vwCl[ci]?).map (fun q => q.1) = some (gw_mY mt').cls) (hln : Nat.ble (gw_wt rest) 8 = true) (hst : stk = a.reverse ++ gR b :: rest) (hsp : gw_CIx Γ d mt' (gR b :: a) m P) (h : ∀ (v : Int) (m' : gw_Mem), P v m' → gw_G mt d QR Γ pc' ls (gI v :: rest) m') : gw_G mt d QR Γ pc ls stk m := by
  obtain ⟨d', P0, hdd, hS, hk⟩ := hsp
  refine gw_callV pc' hd hp hw hmv hn hs hc hln hst hdd hS (fun r m' ho hm hq => ?_)
  obtain ⟨v, rfl, hP⟩ := hq
  exact h v m' (hk v m' (ho _ rfl) hm hP)
theorem gw_cSIx {mt : gw_MT} {d QR Γ pc ls} {stk rest : List gw_SV} {m} {idx n : Nat} {mt' : gw_MT} {a : List gw_SV} {P : Int → gw_Mem → Prop} (pc' : Nat) (hd : decode (gw_mC mt) pc = .ok (.invokestatic idx, 3)) (hp : pc + 3 = pc') (hw : Cond.methodLink (gw_mY mt).cls idx (gw_mY mt') ∈ gw_tb) (hmv : gw_MS mt' n) (hn : a.length = n) (hln : Nat.ble (gw_wt rest) 8 = true) (hst : stk = a.reverse ++ rest) (hsp : gw_CIx Γ d mt' a m P) (h : ∀ (v : Int) (m' : gw_Mem), P v m' → gw_G mt d QR Γ pc' ls (gI v :: rest) m') : gw_G mt d QR Γ pc ls stk m := by
  obtain ⟨d', P0, hdd, hS, hk⟩ := hsp
  refine gw_callS pc' hd hp hw hmv hn hln hst hdd hS (fun r m' ho hm hq => ?_)
  obtain ⟨v, rfl, hP⟩ := hq
  exact h v m' (hk v m' (ho _ rfl) hm hP)
/-! switches -/
theorem gw_tswIn {mt d QR Γ pc ls stk m} {dflt lo hi off x : Int} {offs : Array Int} {len k : Nat} (tgt : Nat) (hd : decode (gw_mC mt) pc = .ok (.tableswitch dflt lo hi offs, len)) (hx : x = lo + k) (hh : x ≤ hi) (ho : offs[k]? = some off) (ht : (pc : Int) + off = (tgt : Int)) (h : gw_G mt d QR Γ tgt ls stk m) : gw_G mt d QR Γ pc ls (gI x :: stk) m :=
  gw_stp h (fun ad hx' hb _ _ o kk => lv_tableIn hx' hb hd (by rw [gw_toInt_id (gw_o0 o)]; omega) (by rw [gw_toInt_id (gw_o0 o)]; omega) (by rw [gw_toInt_id (gw_o0 o), show (x - lo).toNat = k by omega]; exact ho) ht kk) (fun o => gw_ot o)
theorem gw_tswOut {mt d QR Γ pc ls stk m} {dflt lo hi x : Int} {offs : Array Int} {len : Nat} (tgt : Nat) (hd : decode (gw_mC mt) pc = .ok (.tableswitch dflt lo hi offs, len)) (hx : x < lo ∨ hi < x) (ht : (pc : Int) + dflt = (tgt : Int)) (h : gw_G mt d QR Γ tgt ls stk m) : gw_G mt d QR Γ pc ls (gI x :: stk) m :=
  gw_stp h (fun ad hx' hb _ _ o kk => lv_tableOut hx' hb hd (by rw [gw_toInt_id (gw_o0 o)]; exact hx) ht kk) (fun o => gw_ot o)
theorem gw_lsw {mt d QR Γ pc ls stk m} {dflt off x : Int} {ps : Array (Int × Int)} {len : Nat} (tgt : Nat) (hd : decode (gw_mC mt) pc = .ok (.lookupswitch dflt ps, len)) (hp : (ps.toList.zip (ps.toList.drop 1)).all (fun (a, next) => a.1 < next.1) = true) (ho : Op.lookupswitch.offset ps.toList dflt x = off) (ht : (pc : Int) + off = (tgt : Int)) (h : gw_G mt d QR Γ tgt ls stk m) : gw_G mt d QR Γ pc ls (gI x :: stk) m :=
  gw_stp h (fun ad hx' hb _ _ o kk => lv_lookup hx' hb hd hp (by rw [gw_toInt_id (gw_o0 o)]; exact ho) ht kk) (fun o => gw_ot o)
