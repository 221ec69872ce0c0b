/-! the law's beginning: the object is made -/
section GLB
variable {p : Program} {l : Launch} {e : Env} {s : State} {m : MethodId} {below : List Frame} {meth : Method} {c : Code} {b L : Nat} {xs : Nat → Int32} {Q : State → Prop}
/-- an object made by the law, its constructor called -/
theorem gl_obj {cx : gw_Cx} {args : Array Value} {H : Heap} {locs : List Loc} {lsA : Array Slot} {V : va_W} {c0 s0 pc p1 p2 idx idx2 d mc ms ci N : Nat} {C : String} {T : u_T} {fs0 : List Value} {mt : gw_MT} {B : gn_Blk} (ty : Nat → FieldType) (hx : p.tables.exec = Jvm.exec) (hb : c.code = cX13_law) (hml : c.maxLocals = 20) (hown : s.vm.findClass RX13 = some m.cls) (htb : ∀ w ∈ gw_tb, w.before args s = true) (hbase : cx.2.2.2.1 = s.heap.size) (hK : va_K cx.1 vwCl (gw_ty cx) s) (hSt : gn_St cx s s.heap)
    (hd1 : decode cX13_law pc = .ok (.new idx, 3)) (hp1 : pc + 3 = p1) (hd2 : decode cX13_law p1 = .ok (.dup, 1)) (hp2 : p1 + 1 = p2) (hd3 : decode cX13_law p2 = .ok (.invokespecial idx2, 3))
    (hcl : Cond.classLink RX13 idx C ∈ gw_tb) (hinst : Cond.instantiable C N ∈ gw_tb) (hini : Cond.initialized C ∈ gw_tb) (hin : ∀ w ∈ u_ws C T N, w ∈ gw_tb) (hty : ∀ k, k < N → parseFieldDescriptor (T k).2.2.1 = some (ty k)) (hcc : vwCl[ci]? = some (C, T, N)) (hfs : ∀ j, j < N → defaultValue (ty j) = vp_V fs0 j) (hwm : Cond.methodLink RX13 idx2 (gw_mY mt) ∈ gw_tb) (hmb : gw_MB mt 0) (hmi : Cond.instanceMethod (gw_mY mt) ∈ gw_tb) (hi : (gw_mY mt).name = "<init>") (hr : gw_mR mt = none) (hd100 : d ≤ 100) (hsp : gn_Spec mt d mc ms ci fs0 B) (hc : c0 + 1 + mc ≤ 600000) (hs : s0 + N + ms ≤ 7302250) (hls : lsA.size = 20)
    (hP : va_P cx.1 vwCl V H) (hD : va_D (gw_A cx) V) (hS : va_S (gw_A cx) s.heap H locs)
    (kk : ∀ (ad : Nat → Nat) (H1 : Heap) (locs1 : List Loc), va_P cx.1 vwCl (V ++ gn_at ad (B cx.2.1 ad)) H1 → va_D (gw_A cx) (V ++ gn_at ad (B cx.2.1 ad)) → va_S (gw_A cx) s.heap H1 locs1 → W p l e room_1 s m args below meth c H1 locs1 (c0 + 1 + mc) (s0 + N + ms) Q (F0 m (p2 + 3) lsA [.ref (ad 0)])) : W p l e room_1 s m args below meth c H locs c0 s0 Q (F0 m pc lsA []) := by
  subst hp1; subst hp2
  have hR : room_1.frames = 2048 ∧ room_1.locals = 84000 ∧ room_1.cells = 600000 ∧ room_1.slots = 7302250 := ⟨rfl, rfl, rfl, rfl⟩
  have hA : ∀ q : Nat, s.heap.size ≤ q → gw_A cx q := fun q hq => by
    show cx.2.2.2.1 ≤ q
    rw [hbase]
    exact hq
  have h40 := hmb.2.2.2.2.2
  refine va_new (D := cx.1) (ci := ci) hx hb htb hin ty hty hown (htb _ hcl) (htb _ hinst) (htb _ hini) hK hP hD hS hA hcc hfs (by rw [hR.2.2.1]; omega) (by rw [hR.2.2.2]; omega) hd1 (fun q H1 hP1 hD1 hS1 => ?_)
  refine lv_dup hx hb hd2 rfl ?_
  have hM := hsp l cx V q
  have hG := gw_mW_good hmb
  have hrun := va_runI (R := room_1) (locs := locs) (cells := c0 + 1) (slots := s0 + N) (below := below) (meth := meth) (e := e) (g := F0 m (pc + 3 + 1) lsA [.ref q, .ref q]) (As := []) (rest := [.ref q]) (b := q) (index := idx2) ⟨hx, hb, hml, hown, htb⟩ hM
    (cwI 0 htb hG (by unfold gw_mW; rw [hr]) rfl rfl (htb _ hmb.2.1) (htb _ hwm) (htb _ hmi) hi ⟨hmb.2.2.1, hmb.2.2.2.1, hmb.2.2.2.2.1⟩ ⟨by show d + 1 ≤ _; rw [hR.1]; omega, by show 8 + (gw_mL mt + 11) + 64 * d ≤ _; rw [hR.2.1]; omega⟩)
    ⟨gn_blind, fun U hU hW => ⟨rfl, gn_pcH hK hSt (Nat.le_of_eq hbase) (V := gn_V V q ci fs0 []) hP1 hD1 hS1 hU hW⟩⟩ rfl rfl hls rfl (lv_room (Nat.le_of_ble_eq_true rfl)) hd3 ⟨by rw [hR.2.2.1]; omega, by rw [hR.2.2.2]; omega⟩
  refine gn_core hrun hS1 (fun V1 H2 locs2 hq hP2 hD2 hS2 => ?_)
  obtain ⟨ad, hq0, rfl⟩ := hq
  have hk := kk ad H2 locs2 hP2 hD2 hS2
  rw [hq0] at hk
  exact hk
def gl_nn (n : Nat) : List (Option gw_SV) := List.replicate n none
theorem gl_begin (hx : p.tables.exec = Jvm.exec) (hb : c.code = cX13_law) (hml : c.maxLocals = 20) (hown : s.vm.findClass RX13 = some m.cls) (hX : va_X b L xs s s.heap) (hbl : b < s.heap.size) (hL : L ≤ 260) (hts : ∀ w ∈ lw_tbl, w.before #[Value.ref b] s = true) (hgv : (Jvm.Cond.and given_1 narrow_1).before #[Value.ref b] s = true)
    (kk : ∀ (cx : gw_Cx) (H : Heap) (locs : List Loc) (lsA : Array Slot), cx.2.2.2.1 = s.heap.size → cx.2.2.2.2 0 = 0 → va_K cx.1 vwCl (gw_ty cx) s → gw_Stat cx s s.heap → gw_ap cx → va_P cx.1 vwCl (gw_Wd cx gl_m0) H → va_S (gw_A cx) s.heap H locs → gw_ls cx.2.2.1 20 lsA (some (gR 900) :: some (gR 0) :: gl_nn 18) → W p l e room_1 s m #[Value.ref b] below meth c H locs 117 5607 Q (F0 m 8 lsA [])) : W p l e room_1 s m #[Value.ref b] below meth c s.heap [] 0 0 Q (entryFrame m ([Value.ref b] : List Value).toArray 20) := by
  have htb := gw_tb_hts hts
  obtain ⟨cx, hbase, hb9, h00, hK, hSt⟩ := gs_all (b := b) hX hbl hL hts hgv
  have hP0 : va_P cx.1 vwCl [] s.heap := fun k q hq => by cases hq
  have hD0 : va_D (gw_A cx) [] := ⟨(fun i j p q h => by cases h), (fun k q h => by cases h)⟩
  have hls := gw_ini_ls gn_id (n := 20) (a := [gR b]) (Nat.le_of_ble_eq_true rfl)
  rw [lg_entry_eq]
  have hls0 : gw_ls gn_id 20 (lg_sl [Value.ref b] ++ List.replicate (20 - (lg_sl [Value.ref b]).length) Slot.unset).toArray (some (gR b) :: none :: gl_nn 18) := hls
  generalize (lg_sl [Value.ref b] ++ List.replicate (20 - (lg_sl [Value.ref b]).length) Slot.unset).toArray = lsA at hls0 ⊢
  refine gl_obj (cx := cx) (ci := 11) (C := RX11) (T := TX11) (N := 16) (fs0 := gn_f11) (mt := M_X11_init) (B := gb_11) tyX11 hx hb hml hown htb hbase hK hSt d_X13_law_0 rfl d_X13_law_3 rfl d_X13_law_4 cl_13_20 inst_11 ini_11 inX11 tyX11_ok rfl gn_df11 ml_13_51 ⟨mc_X11_init, ini_11, by decide, by decide, by decide, by decide⟩ mi_X11_init rfl rfl (by decide) c_X11_init (by decide) (by decide) hls0.1 hP0 hD0 va_S.rf (fun ad1 H1 locs1 hP1 hD1 hS1 => ?_)
  refine lv_astore_n hx hb d_X13_law_7 rfl (gw_ls_lv hls0) (by decide) rfl (fun lsB hB => ?_)
  have hls1 := gw_ls_store (ad := gn_id) (v := gR (ad1 0)) (i := 1) hls0 rfl hB
  obtain ⟨hPw, hap⟩ := gl_world (cx := cx) h00 (ad1 := ad1) hP1 hD1
  refine kk (gl_cx cx ad1) H1 locs1 lsB hbase h00 hK (gl_Stat hSt.1 rfl (fun o ho => gl_ad_big _ _ (by omega)) (fun k _ => rfl)) hap hPw hS1 ⟨hls1.1, hls1.2.1, rfl, fun i v hv => ?_⟩
  match i, hv with
  | 0, hv =>
    cases hv
    have h9 := hls1.2.2.2 0 (gR b) rfl
    rw [h9]
    show some (Slot.val (.ref b)) = some (Slot.val (.ref (gl_ad ad1 cx.2.2.1 900)))
    rw [gl_ad_big _ _ (by decide), hb9]
  | 1, hv =>
    cases hv
    exact hls1.2.2.2 1 (gR (ad1 0)) rfl
  | n + 2, hv =>
    have hv2 : (gl_nn 18)[n]? = some (some v) := hv
    unfold gl_nn at hv2
    rw [List.getElem?_replicate] at hv2
    split at hv2 <;> cases hv2
end GLB
