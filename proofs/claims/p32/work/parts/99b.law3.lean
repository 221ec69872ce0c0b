/-! the law: minute by minute -/
def gp_Was (g m : gw_Mem) (t : Nat) : Prop := m 117 7 = gd_run (gd_beg g) t 117 16 ∧ ∀ p : Nat, p < gd_n g → m 117 p = gd_run (gd_beg g) t 129 p
def gp_tail (cx : gw_Cx) : Nat → Int
  | 0 => -1
  | p + 1 => if gp_one cx p 0 = 3 then p else gp_tail cx p
theorem gp_tail_r (cx : gw_Cx) (n : Nat) : gp_tail cx n < 0 ∨ 0 ≤ gp_tail cx n ∧ gp_tail cx n < n ∧ gp_one cx (gp_tail cx n) 0 = 3 := by
  induction n with
  | zero => left; show (-1 : Int) < 0; omega
  | succ n ih =>
    rw [gp_tail]
    by_cases h : gp_one cx n 0 = 3
    · rw [if_pos h]
      exact Or.inr ⟨by omega, by omega, h⟩
    · rw [if_neg h]
      rcases ih with i | i
      · exact Or.inl i
      · exact Or.inr ⟨i.1, by omega, i.2.2⟩
section GLD
variable {Γ : gw_Ga}
theorem gl_147 {g : gw_Mem} (hJ : gd_JP g) (hF : gp_F Γ.1 g 5 (gp_people Γ.1 7)) (hW : Γ.1.2.2.2.2 0 ≠ 0) (tail most gui : Int) (t : Nat) (ht : t < 60) (hg : gui = gd_run (gd_beg g) (t + 1) 117 16)
    (cont : ∀ (x10 : Int) (m : gw_Mem) (y12 y13 y14 y15 y16 y17 y18 y19 : Option gw_SV), gp_R g m → m 117 7 = gd_run (gd_beg g) t 117 16 → (∀ q : Nat, q < gd_n g → m 117 q = gd_run (gd_beg g) (t + 1) 129 q) → gw_G M_X13_law 60 gl_QR Γ 299 [some (gR 900), some (gR 0), some (gI 1), some (gI (gp_people Γ.1 7)), some (gI (gp_end Γ.1)), some (gR 117), some (gI tail), some (gI most), some (gI ((t : Int))), some (gI gui), some (gI x10), some (gI ((gd_n g : Int))), y12, y13, y14, y15, y16, y17, y18, y19] [] m) :
    ∀ (j p : Nat) (x10 : Int) (m : gw_Mem) (y12 y13 y14 y15 y16 y17 y18 y19 : Option gw_SV), p + j = gd_n g → gp_R g m → m 117 7 = gd_run (gd_beg g) t 117 16 → (∀ q : Nat, q < p → m 117 q = gd_run (gd_beg g) (t + 1) 129 q) → (∀ q : Nat, p ≤ q → q < gd_n g → m 117 q = gd_run (gd_beg g) t 129 q) → gw_G M_X13_law 60 gl_QR Γ 147 [some (gR 900), some (gR 0), some (gI 1), some (gI (gp_people Γ.1 7)), some (gI (gp_end Γ.1)), some (gR 117), some (gI tail), some (gI most), some (gI ((t : Int))), some (gI gui), some (gI x10), some (gI ((p : Int))), y12, y13, y14, y15, y16, y17, y18, y19] [] m := by
  have hnc := gd_n_cast hJ
  have pr := gp_people_r Γ.1
  have e6 := hF.2.2.2.2.1
  have M := gp_minute hJ t (by omega)
  have lim := (gp_run_JP hJ t).1
  have lim2 := (gp_run_I hJ t (by omega)).1.2
  have E0 : gd_run (gd_beg g) t 117 0 = g 117 0 := (gp_run_w g t).2 0 (by omega)
  intro j
  induction j with
  | zero =>
    intro p x10 m y12 y13 y14 y15 y16 y17 y18 y19 hp hR h7 h1 h2
    apply r_X13_law_147
    refine ⟨fun _ => ?_, fun z => absurd (by omega) z⟩
    have ep : p = gd_n g := by omega
    rw [ep] at h1 ⊢
    exact cont _ m _ _ _ _ _ _ _ _ hR h7 h1
  | succ j ih =>
    intro p x10 m y12 y13 y14 y15 y16 y17 y18 y19 hp hR h7 h1 h2
    have hpn : p < gd_n g := by omega
    have at1 := gp_at_j hJ t (by omega) p hpn
    have Mp := M.2 p hpn
    have k123 := hF.2.2.2.2.2 (p : Int) (by omega) (by omega)
    have wp := h2 p (Nat.le_refl _) hpn
    have tm := gp_tmod (x := (t : Int)) (k := 2) (by omega) (by omega)
    have M1 := M.1
    rw [← hg] at Mp M1
    generalize hat : gd_run (gd_beg g) (t + 1) 129 p = at_ at *
    have W7 : gp_W Γ (p : Int) := ⟨hW, gw_inm (by omega) (by omega)⟩
    have c259 : ∀ (x13 : Int) (q : gw_Mem) (y14 y15 y16 y17 y18 y19 : Option gw_SV), gp_R g q → q 117 = m 117 → gw_G M_X13_law 60 gl_QR Γ 259 [some (gR 900), some (gR 0), some (gI 1), some (gI (gp_people Γ.1 7)), some (gI (gp_end Γ.1)), some (gR 117), some (gI tail), some (gI most), some (gI ((t : Int))), some (gI gui), some (gI x10), some (gI ((p : Int))), some (gI at_), some (gI x13), y14, y15, y16, y17, y18, y19] [] q := fun x13 q y14 y15 y16 y17 y18 y19 Rq hq => by
      apply r_X13_law_259
      apply r_X13_law_264
      refine ⟨W7, ?_⟩
      rw [gw_w1 (by omega)]
      refine ih (p + 1) _ _ _ _ _ _ _ _ _ _ (by omega) (gp_R_was Rq _ _) ?_ (fun a ha => ?_) (fun a h3 h4 => ?_)
      · rw [gw_up_at, if_neg (by omega), hq]
        exact h7
      · rw [gw_up_at]
        by_cases c : (a : Int) = p
        · rw [if_pos c]
          have : a = p := by omega
          rw [this]
          exact hat.symm
        · rw [if_neg c, hq]
          exact h1 a (by omega)
      · rw [gw_up_at, if_neg (by omega), hq]
        exact h2 a (by omega) h4
    have c194 : ∀ (z0 : Int) (q : gw_Mem) (y13 y14 y15 y16 y17 y18 y19 : Option gw_SV), gp_R g q → q 117 = m 117 → gw_G M_X13_law 60 gl_QR Γ 194 [some (gR 900), some (gR 0), some (gI 1), some (gI (gp_people Γ.1 7)), some (gI (gp_end Γ.1)), some (gR 117), some (gI tail), some (gI most), some (gI ((t : Int))), some (gI gui), some (gI x10), some (gI ((p : Int))), some (gI at_), y13, y14, y15, y16, y17, y18, y19] [gI z0] q := fun z0 q y13 y14 y15 y16 y17 y18 y19 Rq hq => by
      have wq : q 117 (p : Int) = gd_run (gd_beg g) t 129 p := by rw [hq]; exact wp
      have o1 := gp_one_r Γ.1 (p : Int)
      have ed : gw_w (at_ - q 117 (p : Int)) = at_ - q 117 (p : Int) := gw_w_id (by omega)
      apply r_X13_law_194
      refine ⟨fun z => absurd z (by omega), fun _ => ⟨W7, fun z => absurd z (by omega), fun _ => ⟨W7, ?_⟩⟩⟩
      refine gw_CIx.eqX rfl (sp_X13_one _ (p : Int) 1 (by omega) q) rfl ⟨fun z => absurd z (by rw [ed, ← k123.2.1]; omega), fun _ => ?_⟩
      refine gw_CIx.eqX rfl (sp_X13_one _ (p : Int) 0 (by omega) q) rfl ⟨fun e2 => ⟨fun _ => c259 _ q _ _ _ _ _ _ Rq hq, fun z => ⟨W7, fun _ => c259 _ q _ _ _ _ _ _ Rq hq, fun z2 => absurd ?_ z2⟩⟩, fun _ => c259 _ q _ _ _ _ _ _ Rq hq⟩
      rw [wq]
      exact Mp.2.2.2 (by rw [k123.1]; exact e2) (by omega)
    apply r_X13_law_147
    refine ⟨fun z => absurd z (by omega), fun _ => ⟨fun z => absurd z (by omega), fun _ => ?_⟩⟩
    refine gp_c_at hR (t : Int) (p : Int) rfl (fun m1 R1 K1 => ?_)
    rw [at1]
    refine gp_c_fate R1 (p : Int) 3 rfl (fun m2 R2 K2 => ⟨fun _ => ?_, fun _ => ?_⟩)
    · exact c194 _ m2 _ _ _ _ _ _ _ R2 (K2.1.trans K1.1)
    · refine gp_c_fate R2 (p : Int) 3 rfl (fun m3 R3 K3 => ?_)
      exact c194 _ m3 _ _ _ _ _ _ _ R3 (K3.1.trans (K2.1.trans K1.1))
theorem gl_80 {g : gw_Mem} (hJ : gd_JP g) (hF : gp_F Γ.1 g 5 (gp_people Γ.1 7)) (hW : Γ.1.2.2.2.2 0 ≠ 0) (w : gw_Mem) (hw : gd_walks g = w) (tail : Int) (hta : tail < 0 ∨ 0 ≤ tail ∧ tail < 8 ∧ w 131 tail < 0) : ∀ (j t : Nat) (most : Int) (m : gw_Mem) (y9 y10 y11 y12 y13 y14 y15 y16 y17 y18 y19 : Option gw_SV), t + j = 60 → gp_R g m → gp_Was g m t → most ≤ w 117 30 → gw_G M_X13_law 60 gl_QR Γ 80 [some (gR 900), some (gR 0), some (gI 1), some (gI (gp_people Γ.1 7)), some (gI (gp_end Γ.1)), some (gR 117), some (gI tail), some (gI most), some (gI ((t : Int))), y9, y10, y11, y12, y13, y14, y15, y16, y17, y18, y19] [] m := by
  have hnc := gd_n_cast hJ
  have pr := gp_people_r Γ.1
  have e6 := hF.2.2.2.2.1
  have er := gp_end_r Γ.1
  have he := hF.1
  have r0 : g 122 0 = gp_rule Γ.1 0 := hF.2.2.2.1 0 (by omega) (by omega)
  have MO := gp_most hJ
  rw [hw] at MO
  have W7 : gp_W Γ 7 := ⟨hW, gw_inm (by omega) (by omega)⟩
  intro j
  induction j with
  | zero =>
    intro t most m y9 y10 y11 y12 y13 y14 y15 y16 y17 y18 y19 ht hR hwas hm
    apply r_X13_law_80
    refine ⟨fun _ => ?_, fun z => absurd (by omega) z⟩
    apply r_X13_law_367
    have s0 : gd_sp g 0 = 0 := rfl
    have st := gl_373 hJ hF w hw tail most hta hm hR (g 118 0).toNat 0 y10 y11 y12 y13 y14 y15 y16 y17 y18 y19 (by omega)
    rw [s0] at st
    exact st
  | succ j ih =>
    intro t most m y9 y10 y11 y12 y13 y14 y15 y16 y17 y18 y19 ht hR hwas hm
    have M := gp_minute hJ t (by omega)
    have at1 := gp_at_g hJ t (by omega)
    have ato := gp_at_o hJ t (by omega)
    have OU := gp_out hJ (t + 1) (by omega)
    have MO1 := MO.2 t (by omega)
    have M1 := M.1
    have h7 := hwas.1
    obtain ⟨gui, hgui⟩ : ∃ x : Int, x = gd_run (gd_beg g) (t + 1) 117 16 := ⟨_, rfl⟩
    rw [← hgui] at at1 OU M1
    generalize hou : gd_o (gd_run (gd_beg g) (t + 1)) = ou at *
    apply r_X13_law_80
    refine ⟨fun z => absurd z (by omega), fun _ => ⟨fun z => absurd z (by omega), fun _ => ?_⟩⟩
    refine gp_c_at hR (t : Int) (-1) rfl (fun m1 R1 K1 => ?_)
    rw [at1]
    have w1 : m1 117 7 = gd_run (gd_beg g) t 117 16 := by rw [K1.1]; exact h7
    refine ⟨W7, fun z => absurd z (by omega), fun _ => ⟨W7, gw_CIx.eqX rfl (sp_X13_rule _ 0 m1) rfl ?_⟩⟩
    have ed : gw_w (gui - m1 117 7) = gui - m1 117 7 := gw_w_id (by omega)
    rw [ed, if_neg (by omega), if_neg (by omega)]
    apply r_X13_law_143
    refine gl_147 hJ hF hW tail most gui t (by omega) hgui (fun x10 m2 z12 z13 z14 z15 z16 z17 z18 z19 R2 w2 wa2 => ?_) (gd_n g) 0 _ m1 _ _ _ _ _ _ _ _ (by omega) R1 w1 (fun q hq => by omega) (fun q _ hq => by rw [K1.1]; exact hwas.2 q hq)
    apply r_X13_law_299
    refine gp_c_at R2 (t : Int) (-2) rfl (fun m3 R3 K3 => ⟨W7, ?_⟩)
    rw [ato]
    have eok : (if (1 : Int) = 0 then (0 : Int) else (if ou = (-4) then (1 : Int) else (if ou < 0 then (0 : Int) else (if gui < ou then (0 : Int) else (1 : Int))))) = 1 := by
      rw [if_neg (by omega)]
      rcases OU with c | c
      · rw [if_pos c]
      · rw [if_neg (by omega), if_neg (by omega), if_neg (by omega)]
    rw [eok, gw_w1 (by omega)]
    refine ih (t + 1) _ _ _ _ _ _ _ _ _ _ _ _ _ (by omega) (gp_R_was R3 _ _) ⟨?_, fun q hq => ?_⟩ ?_
    · rw [gw_up_at, if_pos rfl]
      exact hgui
    · rw [gw_up_at, if_neg (by omega), K3.1]
      exact wa2 q hq
    · split <;> omega
theorem gl_35 {g m : gw_Mem} (hJ : gd_JP g) (hF : gp_F Γ.1 g 5 (gp_people Γ.1 7)) (hW : Γ.1.2.2.2.2 0 ≠ 0) (hR : gp_R g m) (hwas : gp_Was g m 0) : gw_G M_X13_law 60 gl_QR Γ 35 [some (gR 900), some (gR 0), some (gI 1), some (gI (gp_people Γ.1 7)), some (gI (gp_end Γ.1)), some (gR 117), none, none, none, none, none, none, none, none, none, none, none, none, none, none] [] m := by
  have hnc := gd_n_cast hJ
  have pr := gp_people_r Γ.1
  have e6 := hF.2.2.2.2.1
  have key : ∀ (j p : Nat) (y8 y9 y10 y11 y12 y13 y14 y15 y16 y17 y18 y19 : Option gw_SV), p + j = gd_n g → gw_G M_X13_law 60 gl_QR Γ 41 [some (gR 900), some (gR 0), some (gI 1), some (gI (gp_people Γ.1 7)), some (gI (gp_end Γ.1)), some (gR 117), some (gI (gp_tail Γ.1 p)), some (gI ((p : Int))), y8, y9, y10, y11, y12, y13, y14, y15, y16, y17, y18, y19] [] m := by
    intro j
    induction j with
    | zero =>
      intro p y8 y9 y10 y11 y12 y13 y14 y15 y16 y17 y18 y19 hp
      apply r_X13_law_41
      refine ⟨fun _ => ?_, fun z => absurd (by omega) z⟩
      have ep : p = gd_n g := by omega
      have tr := gp_tail_r Γ.1 p
      refine gl_80 hJ hF hW (gd_walks g) rfl (gp_tail Γ.1 p) ?_ 60 0 (-4) m _ _ _ _ _ _ _ _ _ _ _ (by omega) hR hwas (gp_most hJ).1
      rcases tr with tr | tr
      · exact Or.inl tr
      · right
        obtain ⟨T, hT⟩ := gw_nat tr.1
        rw [hT] at tr ⊢
        have l4 := (gp_lost4 hJ T (by omega)).1
        have k123 := (hF.2.2.2.2.2 (T : Int) (by omega) (by omega)).1
        refine ⟨by omega, by omega, ?_⟩
        rcases l4 with l4 | l4
        · rw [l4]; omega
        · exact absurd (k123.trans tr.2.2) l4.2
    | succ j ih =>
      intro p y8 y9 y10 y11 y12 y13 y14 y15 y16 y17 y18 y19 hp
      apply r_X13_law_41
      refine ⟨fun z => absurd z (by omega), fun _ => ?_⟩
      refine gw_CIx.eqX rfl (sp_X13_one _ (p : Int) 0 (by omega) m) rfl ?_
      rw [gw_w1 (by omega)]
      exact ih (p + 1) _ _ _ _ _ _ _ _ _ _ _ _ (by omega)
  apply r_X13_law_35
  exact key (gd_n g) 0 none none none none none none none none none none none none (by omega)
end GLD
theorem gp_Was0 {g m : gw_Mem} : gp_Was g (gl_z1 m) 0 := by
  have b := gd_beg_at g
  refine ⟨?_, fun p hp => ?_⟩
  · show (0 : Int) = gd_beg g 117 16
    rw [b.2.2.1 16 (by omega)]
  · show (0 : Int) = gd_beg g 129 p
    rw [b.2.1 129 (by omega) p (by omega)]
    rfl
theorem gp_R_z1 {g m : gw_Mem} (h : gp_R g m) : gp_R g (gl_z1 m) := gp_R_fr h (fun o ho => by
  funext j
  unfold gl_z1
  rw [if_neg (by omega)])
/-! the script is the same for the world with the row -/
theorem gp_c_c1 (cx : gw_Cx) (q : Nat) : gp_c (gl_c1 cx q) = gp_c cx := by
  funext k
  have eL : gp_L (gl_c1 cx q) = gp_L cx := by
    show (if (1 : Nat) = 0 then (1 : Int) else cx.2.2.2.2 1) = cx.2.2.2.2 1
    rw [if_neg (by omega)]
  have eX : gp_X (gl_c1 cx q) k = gp_X cx k := by
    show (if 2 + k.toNat = 0 then (1 : Int) else cx.2.2.2.2 (2 + k.toNat)) = cx.2.2.2.2 (2 + k.toNat)
    rw [if_neg (by omega)]
  unfold gp_c
  rw [eL, eX]
theorem gp_kd_same {cx cx' : gw_Cx} (h : gp_c cx' = gp_c cx) (p : Int) (o : Nat) : gp_kd cx' p o = gp_kd cx p o := by
  have hx : ∀ i : Int, gp_x cx' i = gp_x cx i := fun i => by unfold gp_x; rw [h]
  induction o with
  | zero => rw [gp_kd, gp_kd, hx]
  | succ o ih => rw [gp_kd, gp_kd, ih, hx]
theorem gp_same {cx cx' : gw_Cx} (h : gp_c cx' = gp_c cx) : gp_end cx' = gp_end cx ∧ gp_people cx' = gp_people cx ∧ gp_marks cx' = gp_marks cx ∧ gp_mark cx' = gp_mark cx ∧ gp_rule cx' = gp_rule cx ∧ gp_one cx' = gp_one cx := by
  refine ⟨by unfold gp_end; rw [h], ?_, ?_, ?_, ?_, ?_⟩
  · funext x; unfold gp_people; rw [h]
  · funext x; unfold gp_marks; rw [h]
  · funext x y z; unfold gp_mark gp_mx; rw [h]
  · funext x; unfold gp_rule; rw [h]
  · funext x y; unfold gp_one; rw [gp_kd_same h]; unfold gp_x; rw [h]
theorem gp_F_same {cx cx' : gw_Cx} (h : gp_c cx' = gp_c cx) {g : gw_Mem} {w p : Int} (hF : gp_F cx g w p) : gp_F cx' g w p := by
  obtain ⟨s1, s2, s3, s4, s5, s6⟩ := gp_same h
  unfold gp_F
  rw [s1, s3, s4, s5, s6]
  exact hF
section GLE
variable {p : Program} {l : Launch} {e : Env} {s : State} {mm : MethodId} {args : Array Value} {below : List Frame} {meth : Method} {c : Code} {Q : State → Prop}
/-- from the object on: the plan is laid, the row is made, the rest -/
theorem gl_8 {cx : gw_Cx} (h0 : cx.2.2.2.2 0 = 0)
    (hr : ∀ (q : Nat) (v : Int) (m : gw_Mem) (H : Heap) (locs : List Loc) (lsA : Array Slot) (pc : Nat), gl_QR (some (gI v)) m → gw_inR v → (gw_mR M_X13_law = some .int ∨ gw_mR M_X13_law = some .boolean ∧ gw_b v) → decode (gw_mC M_X13_law) pc = .ok (.ireturn, 1) → va_P cx.1 vwCl (gw_Wd (gl_c1 cx q) m) H → gw_okM m → va_S (gw_A cx) s.heap H locs → W p l e room_1 s mm args below meth c H locs 600000 7302250 Q (F0 mm pc lsA [.int (Int32.ofInt v)])) :
    gw_G M_X13_law 60 gl_QR (cx, p, l, e, room_1, s, mm, args, below, meth, c, (117, 5607), Q) 8 [some (gR 900), some (gR 0), none, none, none, none, none, none, none, none, none, none, none, none, none, none, none, none, none, none] [] gl_m0 := by
  refine gw_aload_n 9 d_X13_law_8 rfl rfl ?_
  refine gw_aload_n 10 d_X13_law_9 rfl rfl ?_
  refine gw_bipush 12 d_X13_law_10 rfl rfl (by decide) ?_
  refine gw_cSIx (a := [gR 0, gR 900, gI 7]) (rest := []) 15 d_X13_law_12 rfl ml_13_52 v_X13_lays rfl rfl rfl (gw_CIx.ofX rfl (sp_X13_lays cx gl_m0 gp_T0) rfl (fun v m' _ _ hq => hq)) (fun v m1 h => ?_)
  obtain ⟨rfl, g, hT, hF⟩ := h
  refine gw_istore_n (ls' := [some (gR 900), some (gR 0), some (gI 1), none, none, none, none, none, none, none, none, none, none, none, none, none, none, none, none, none]) 16 d_X13_law_15 rfl rfl rfl rfl ?_
  refine gw_aload_n 17 d_X13_law_16 rfl rfl ?_
  refine gw_bipush 19 d_X13_law_17 rfl rfl (by decide) ?_
  refine gw_cSIx (a := [gR 900, gI 7]) (rest := []) 22 d_X13_law_19 rfl ml_13_40 v_X13_people rfl rfl rfl (gw_CIx.eqX rfl (sp_X13_people cx 7 (by omega) m1) rfl ⟨rfl, rfl⟩) (fun v m2 (h : v = gp_people cx 7 ∧ m2 = m1) => ?_)
  obtain ⟨rfl, rfl⟩ := h
  refine gw_istore_n (ls' := [some (gR 900), some (gR 0), some (gI 1), some (gI (gp_people cx 7)), none, none, none, none, none, none, none, none, none, none, none, none, none, none, none, none]) 23 d_X13_law_22 rfl rfl rfl rfl ?_
  refine gw_aload_n 24 d_X13_law_23 rfl rfl ?_
  refine gw_cSIx (a := [gR 900]) (rest := []) 27 d_X13_law_24 rfl ml_13_15 v_X13_end rfl rfl rfl (gw_CIx.eqX rfl (sp_X13_end cx m2) rfl ⟨rfl, rfl⟩) (fun v m3 (h : v = gp_end cx ∧ m3 = m2) => ?_)
  obtain ⟨rfl, rfl⟩ := h
  refine gw_istore (ls' := [some (gR 900), some (gR 0), some (gI 1), some (gI (gp_people cx 7)), some (gI (gp_end cx)), none, none, none, none, none, none, none, none, none, none, none, none, none, none, none]) 29 d_X13_law_27 rfl rfl rfl rfl ?_
  refine gw_bipush 31 d_X13_law_29 rfl rfl (by decide) ?_
  refine gl_newrow h0 (by simp) hr (fun q => ?_)
  refine gw_astore (ls' := [some (gR 900), some (gR 0), some (gI 1), some (gI (gp_people cx 7)), some (gI (gp_end cx)), some (gR 117), none, none, none, none, none, none, none, none, none, none, none, none, none, none]) 35 d_X13_law_33 rfl rfl rfl rfl ?_
  have S := gp_same (gp_c_c1 cx q)
  have F1 : gp_F (gl_c1 cx q) g 5 (gp_people (gl_c1 cx q) 7) := by
    rw [S.2.1]
    exact gp_F_same (gp_c_c1 cx q) hF
  have K : gw_G M_X13_law 60 gl_QR (gl_c1 cx q, p, l, e, room_1, s, mm, args, below, meth, c, (600000, 7302250), Q) 35 [some (gR 900), some (gR 0), some (gI 1), some (gI (gp_people (gl_c1 cx q) 7)), some (gI (gp_end (gl_c1 cx q))), some (gR 117), none, none, none, none, none, none, none, none, none, none, none, none, none, none] [] (gl_z1 m3) :=
    gl_35 (Γ := (gl_c1 cx q, p, l, e, room_1, s, mm, args, below, meth, c, (600000, 7302250), Q)) hT.1 F1 (show ¬ (1 : Int) = 0 by omega) (gp_R_z1 (gp_T_R hT)) gp_Was0
  rw [S.2.1, S.1] at K
  exact K
end GLE
