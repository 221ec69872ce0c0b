/-! the law's loop: the script, the arguments -/
def gl_X (Γ : gw_Ga) (L : Nat) (xs : Nat → Int32) : Prop := match Γ with
  | (cx, _, _, _, _, s, _) => va_X (cx.2.2.1 900) L xs s s.heap ∧ cx.2.2.1 900 < s.heap.size ∧ ¬ gw_A cx (cx.2.2.1 900)
def gl_sx (xs : Nat → Int32) (j : Int) : Int := (xs j.toNat).toInt
theorem gl_sx_in (xs : Nat → Int32) (j : Int) : gw_inR (gl_sx xs j) := gw_rng _
def gl_ls (i : Int) : List (Option gw_SV) := [some (gR 900), some (gR 0), some (gR 117), some (gI i)]
section GLL
variable {mt : gw_MT} {d : Nat} {QR : Option gw_SV → gw_Mem → Prop} {Γ : gw_Ga} {pc : Nat} {ls : List (Option gw_SV)} {stk : List gw_SV} {m : gw_Mem} {L : Nat} {xs : Nat → Int32} {i : Int}
theorem gl_slen (hX : gl_X Γ L xs) (hL : L ≤ 3072) (pc' : Nat) (hd : decode (gw_mC mt) pc = .ok (.arraylength, 1)) (hp : pc + 1 = pc') (h : gw_G mt d QR Γ pc' ls (gI (L : Int) :: stk) m) : gw_G mt d QR Γ pc ls (gR 900 :: stk) m := by
  subst hp
  obtain ⟨cx, p, l, e, R, s, mm, args, below, meth, cd, ⟨c0, s0⟩, Q⟩ := Γ
  intro ok o1 o2 o3 H locs lsA hP hS hL2
  have hin : gw_inR (L : Int) := by unfold gw_inR; omega
  exact va_slen ok.1 ok.2.1 hX.1 hX.2.1 hX.2.2 hS hd (h ok o1 (gw_op (v := gI (L : Int)) hin (gw_ot o2)) o3 H locs lsA hP hS hL2)
theorem gl_sld (hX : gl_X Γ L xs) (hL : L ≤ 3072) {j : Int} (hj : gw_in j L) (pc' : Nat) (hd : decode (gw_mC mt) pc = .ok (.iaload, 1)) (hp : pc + 1 = pc') (h : gw_G mt d QR Γ pc' ls (gI (gl_sx xs j) :: stk) m) : gw_G mt d QR Γ pc ls (gI j :: gR 900 :: stk) m := by
  subst hp
  obtain ⟨cx, p, l, e, R, s, mm, args, below, meth, cd, ⟨c0, s0⟩, Q⟩ := Γ
  intro ok o1 o2 o3 H locs lsA hP hS hL2
  have hr : gw_inR j := by unfold gw_inR; have := hj.1; have := hj.2; omega
  have hk := h ok o1 (gw_op (v := gI (gl_sx xs j)) (gl_sx_in xs j) (gw_ot (gw_ot o2))) o3 H locs lsA hP hS hL2
  have e1 : (.int (xs (Int32.ofInt j).toNatClampNeg) : Value) = gw_cv cx.2.2.1 (gI (gl_sx xs j)) := by
    show (.int (xs (Int32.ofInt j).toNatClampNeg) : Value) = .int (Int32.ofInt (xs j.toNat).toInt)
    rw [gw_clamp hj.1 hr, Int32.ofInt_toInt]
  refine va_sld ok.1 ok.2.1 hX.1 hX.2.1 hX.2.2 hS (i := Int32.ofInt j) (gw_vpin hj hr) hd ?_
  rw [e1]
  exact hk
/-- the script's int behind the loop's index, by k -/
theorem gl_arg (hX : gl_X Γ L xs) (hL : L ≤ 3072) (hi : 0 ≤ i ∧ i + 6 ≤ L) (k : Int) (p1 p2 p3 p4 p5 : Nat) (h0 : decode (gw_mC mt) pc = .ok (.aload_n 0, 1)) (e0 : pc + 1 = p1) (h1 : decode (gw_mC mt) p1 = .ok (.iload_n 3, 1)) (e1 : p1 + 1 = p2) (h2 : decode (gw_mC mt) p2 = .ok (.iconst k, 1)) (e2 : p2 + 1 = p3) (h3 : decode (gw_mC mt) p3 = .ok (.iadd, 1)) (e3 : p3 + 1 = p4) (h4 : decode (gw_mC mt) p4 = .ok (.iaload, 1)) (e4 : p4 + 1 = p5) (hk : 0 ≤ k ∧ k ≤ 5)
    (h : gw_G mt d QR Γ p5 (gl_ls i) (gI (gl_sx xs (i + k)) :: stk) m) : gw_G mt d QR Γ pc (gl_ls i) stk m := by
  refine gw_aload_n p1 h0 e0 (x := 900) rfl ?_
  refine gw_iload_n p2 h1 e1 (x := i) rfl ?_
  refine gw_iconst p3 h2 e2 ?_ ?_
  · obtain ⟨n, rfl⟩ : ∃ n : Nat, k = n := ⟨k.toNat, by omega⟩
    have : n = 0 ∨ n = 1 ∨ n = 2 ∨ n = 3 ∨ n = 4 ∨ n = 5 := by omega
    rcases this with rfl | rfl | rfl | rfl | rfl | rfl <;> rfl
  refine gw_iadd p4 h3 e3 ?_
  rw [gw_w_id (by omega)]
  exact gl_sld hX hL ⟨by omega, by omega⟩ p5 h4 e4 h
/-- a boolean out of an int -/
theorem gl_bool {v : Int} (p1 p2 p3 p4 : Nat) (h0 : decode (gw_mC mt) pc = .ok (.ifCond .eq 7, 3)) (e0 : pc + 3 = p1) (h1 : decode (gw_mC mt) p1 = .ok (.iconst 1, 1)) (e1 : p1 + 1 = p2) (h2 : decode (gw_mC mt) p2 = .ok (.goto 4, 3)) (e2 : p2 + 3 = p3) (h3 : decode (gw_mC mt) p3 = .ok (.iconst 0, 1)) (e3 : p3 + 1 = p4)
    (h : gw_G mt d QR Γ p4 ls (gI (if v = 0 then 0 else 1) :: stk) m) : gw_G mt d QR Γ pc ls (gI v :: stk) m := by
  refine gw_if_eq p3 p1 h0 (by omega) e0 (fun hv => ?_) (fun hv => ?_)
  · rw [if_pos hv] at h
    exact gw_iconst p4 h3 e3 rfl h
  · rw [if_neg hv] at h
    refine gw_iconst p2 h1 e1 rfl ?_
    exact gw_goto p4 h2 (by omega) h
theorem gl_b01 (v : Int) : gw_b (if v = 0 then 0 else 1) := by
  split
  · exact Or.inl rfl
  · exact Or.inr rfl
end GLL
theorem gl_lt {d : Nat} (h : d ≤ 40) : Nat.blt d 60 = true := by
  rw [Nat.blt_eq]
  omega
