/-! the law's loop -/
section GLP
variable {Γ : gw_Ga} {L : Nat} {xs : Nat → Int32}
def gl_QR : Option gw_SV → gw_Mem → Prop := fun r _ => r = some (gI 1)
theorem gl_switch {i z : Int} {m : gw_Mem} (hX : gl_X Γ L xs) (hL : L ≤ 3072) (hi : 0 ≤ i ∧ i + 6 ≤ L) (hR : gl_R m m) (kk : ∀ m2 : gw_Mem, gl_R m2 m2 → gw_G M_law 60 gl_QR Γ 1187 (gl_ls i) [] m2) : gw_G M_law 60 gl_QR Γ 33 (gl_ls i) [gI z] m := by
  by_cases hz : 0 ≤ z ∧ z ≤ 28
  · obtain ⟨n, rfl⟩ : ∃ n : Nat, z = n := ⟨z.toNat, by omega⟩
    have hn : n < 29 := by omega
    match n, hn with
    | 0, _ => exact gw_tswIn (k := 0) 164 dL_law_33 (by decide) (by decide) rfl (by decide) (gl_c0 hX hL hi hR kk)
    | 1, _ => exact gw_tswIn (k := 1) 187 dL_law_33 (by decide) (by decide) rfl (by decide) (gl_c1 hX hL hi hR kk)
    | 2, _ => exact gw_tswIn (k := 2) 230 dL_law_33 (by decide) (by decide) rfl (by decide) (gl_c2 hX hL hi hR kk)
    | 3, _ => exact gw_tswIn (k := 3) 273 dL_law_33 (by decide) (by decide) rfl (by decide) (gl_c3 hX hL hi hR kk)
    | 4, _ => exact gw_tswIn (k := 4) 306 dL_law_33 (by decide) (by decide) rfl (by decide) (gl_c4 hX hL hi hR kk)
    | 5, _ => exact gw_tswIn (k := 5) 365 dL_law_33 (by decide) (by decide) rfl (by decide) (gl_c5 hX hL hi hR kk)
    | 6, _ => exact gw_tswIn (k := 6) 398 dL_law_33 (by decide) (by decide) rfl (by decide) (gl_c6 hX hL hi hR kk)
    | 7, _ => exact gw_tswIn (k := 7) 431 dL_law_33 (by decide) (by decide) rfl (by decide) (gl_c7 hX hL hi hR kk)
    | 8, _ => exact gw_tswIn (k := 8) 494 dL_law_33 (by decide) (by decide) rfl (by decide) (gl_c8 hX hL hi hR kk)
    | 9, _ => exact gw_tswIn (k := 9) 507 dL_law_33 (by decide) (by decide) rfl (by decide) (gl_c9 hX hL hi hR kk)
    | 10, _ => exact gw_tswIn (k := 10) 520 dL_law_33 (by decide) (by decide) rfl (by decide) (gl_c10 hX hL hi hR kk)
    | 11, _ => exact gw_tswIn (k := 11) 543 dL_law_33 (by decide) (by decide) rfl (by decide) (gl_c11 hX hL hi hR kk)
    | 12, _ => exact gw_tswIn (k := 12) 576 dL_law_33 (by decide) (by decide) rfl (by decide) (gl_c12 hX hL hi hR kk)
    | 13, _ => exact gw_tswIn (k := 13) 609 dL_law_33 (by decide) (by decide) rfl (by decide) (gl_c13 hX hL hi hR kk)
    | 14, _ => exact gw_tswIn (k := 14) 632 dL_law_33 (by decide) (by decide) rfl (by decide) (gl_c14 hX hL hi hR kk)
    | 15, _ => exact gw_tswIn (k := 15) 665 dL_law_33 (by decide) (by decide) rfl (by decide) (gl_c15 hX hL hi hR kk)
    | 16, _ => exact gw_tswIn (k := 16) 688 dL_law_33 (by decide) (by decide) rfl (by decide) (gl_c16 hX hL hi hR kk)
    | 17, _ => exact gw_tswIn (k := 17) 721 dL_law_33 (by decide) (by decide) rfl (by decide) (gl_c17 hX hL hi hR kk)
    | 18, _ => exact gw_tswIn (k := 18) 774 dL_law_33 (by decide) (by decide) rfl (by decide) (gl_c18 hX hL hi hR kk)
    | 19, _ => exact gw_tswIn (k := 19) 817 dL_law_33 (by decide) (by decide) rfl (by decide) (gl_c19 hX hL hi hR kk)
    | 20, _ => exact gw_tswIn (k := 20) 850 dL_law_33 (by decide) (by decide) rfl (by decide) (gl_c20 hX hL hi hR kk)
    | 21, _ => exact gw_tswIn (k := 21) 873 dL_law_33 (by decide) (by decide) rfl (by decide) (gl_c21 hX hL hi hR kk)
    | 22, _ => exact gw_tswIn (k := 22) 916 dL_law_33 (by decide) (by decide) rfl (by decide) (gl_c22 hX hL hi hR kk)
    | 23, _ => exact gw_tswIn (k := 23) 929 dL_law_33 (by decide) (by decide) rfl (by decide) (gl_c23 hX hL hi hR kk)
    | 24, _ => exact gw_tswIn (k := 24) 942 dL_law_33 (by decide) (by decide) rfl (by decide) (gl_c24 hX hL hi hR kk)
    | 25, _ => exact gw_tswIn (k := 25) 1005 dL_law_33 (by decide) (by decide) rfl (by decide) (gl_c25 hX hL hi hR kk)
    | 26, _ => exact gw_tswIn (k := 26) 1048 dL_law_33 (by decide) (by decide) rfl (by decide) (gl_c26 hX hL hi hR kk)
    | 27, _ => exact gw_tswIn (k := 27) 1071 dL_law_33 (by decide) (by decide) rfl (by decide) (gl_c27 hX hL hi hR kk)
    | 28, _ => exact gw_tswIn (k := 28) 1124 dL_law_33 (by decide) (by decide) rfl (by decide) (gl_c28 hX hL hi hR kk)
    | n + 29, h => exact absurd h (by omega)
  · exact gw_tswOut 1187 dL_law_33 (by omega) (by decide) (kk m hR)
theorem gl_loop (hX : gl_X Γ L xs) (hL : L ≤ 3072) (n : Nat) : ∀ (i : Int) (m : gw_Mem), 0 ≤ i → i ≤ 3078 → (L : Int) + 6 - i ≤ n → gl_R m m → gw_G M_law 60 gl_QR Γ 18 (gl_ls i) [] m := by
  induction n with
  | zero =>
    intro i m h0 h1 h2 hR
    refine gw_iload_n 19 dL_law_18 rfl (x := i) rfl ?_
    refine gw_aload_n 20 dL_law_19 rfl (x := 900) rfl ?_
    refine gl_slen hX hL 21 dL_law_20 rfl ?_
    refine gw_bipush 23 dL_law_21 rfl rfl (by decide) ?_
    refine gw_isub 24 dL_law_23 rfl ?_
    rw [gw_w_id (by omega)]
    refine gw_icmp_gt 1193 27 dL_law_24 rfl rfl (fun hgt => ?_) (fun hle => absurd hle (by omega))
    refine gw_iconst 1194 dL_law_1193 rfl rfl ?_
    exact gw_ireturn dL_law_1194 (Or.inr ⟨rfl, Or.inr rfl⟩) rfl
  | succ n ih =>
    intro i m h0 h1 h2 hR
    refine gw_iload_n 19 dL_law_18 rfl (x := i) rfl ?_
    refine gw_aload_n 20 dL_law_19 rfl (x := 900) rfl ?_
    refine gl_slen hX hL 21 dL_law_20 rfl ?_
    refine gw_bipush 23 dL_law_21 rfl rfl (by decide) ?_
    refine gw_isub 24 dL_law_23 rfl ?_
    rw [gw_w_id (by omega)]
    refine gw_icmp_gt 1193 27 dL_law_24 rfl rfl (fun hgt => ?_) (fun hle => ?_)
    · refine gw_iconst 1194 dL_law_1193 rfl rfl ?_
      exact gw_ireturn dL_law_1194 (Or.inr ⟨rfl, Or.inr rfl⟩) rfl
    · have hi : 0 ≤ i ∧ i + 6 ≤ L := by omega
      refine gw_aload_n 28 dL_law_27 rfl (x := 900) rfl ?_
      refine gw_iload_n 29 dL_law_28 rfl (x := i) rfl ?_
      refine gl_sld hX hL ⟨by omega, by omega⟩ 30 dL_law_29 rfl ?_
      refine gw_bipush 32 dL_law_30 rfl rfl (by decide) ?_
      refine gw_iand 33 dL_law_32 rfl ?_
      refine gl_switch hX hL hi hR (fun m2 hR2 => ?_)
      refine gw_iinc (ls' := gl_ls (i + 6)) 1190 dL_law_1187 rfl rfl rfl rfl (by rw [gw_w_id (by omega)]; rfl) ?_
      refine gw_goto 18 dL_law_1190 (by decide) ?_
      exact ih (i + 6) m2 (by omega) (by omega) (by omega) hR2
end GLP
/-! the first memory -/
theorem gl_4 {s : Int} (h : 0 ≤ s ∧ s ≤ 3) : s = 0 ∨ s = 1 ∨ s = 2 ∨ s = 3 := by omega
theorem gl_JP0 : gd_JP gl_m0 := by
  refine ⟨by decide, fun k hk => ?_, fun k j hk hj => ?_, fun j hj => ?_, by decide, fun j hj => ?_, fun i j hi hj => ?_, by decide, fun j hj => ?_⟩
  · show (0 : Int) ≤ 0 ∧ (0 : Int) ≤ 8
    omega
  · have h1 : j < 0 := hj.2
    omega
  · have h1 : j < 0 := hj.2
    omega
  · have h1 : j < 0 := hj.2
    omega
  · have h1 : i < 0 := hi.2
    omega
  · show (0 : Int) ≤ 0 ∧ (0 : Int) ≤ 2
    omega
theorem gl_R0 : gl_R gl_m0 gl_m0 := by
  refine ⟨⟨gl_JP0, ⟨by decide, fun j hj => ?_⟩, ⟨Or.inl rfl, fun h => absurd h (by decide)⟩, fun s hs => ?_⟩, ⟨by decide, fun k hk => rfl, fun k j hk hj => ?_, fun j hj => ?_, by decide, fun j hj => ?_, fun j hj => rfl, fun j hj => rfl⟩, ⟨by decide, fun j hj => ?_⟩, ⟨by decide, fun h => absurd h (by decide)⟩, fun s hs => ?_, gl_W0 (by decide), gl_B0 (by decide)⟩
  · have h1 : j < 0 := hj.2
    omega
  · rcases gl_4 hs with rfl | rfl | rfl | rfl <;> decide
  · have h1 : j < 0 := hj.2
    omega
  · have h1 : j < 0 := hj.2
    omega
  · have h1 : j < 0 := hj.2
    omega
  · have h1 : j < 0 := hj.2
    omega
  · rcases gl_4 hs with rfl | rfl | rfl | rfl
    · exact ⟨by decide, by decide, fun j hj => rfl⟩
    · exact ⟨by decide, by decide, fun j hj => rfl⟩
    · exact ⟨by decide, by decide, fun j hj => rfl⟩
    · exact ⟨by decide, by decide, fun j hj => rfl⟩
theorem gl_getD {l : List Int} (h : ∀ x ∈ l, gw_inR x) (n : Nat) : gw_inR (l.getD n 0) := by
  rw [List.getD_eq_getElem?_getD]
  cases hn : l[n]? with
  | none => exact gw_in0
  | some x => exact h x (List.mem_of_getElem? hn)
theorem gl_bools : ∀ o : Fin 144, (gw_SH[o.val]?).map (fun s => s.1) = some 3 → o.val = 21 ∨ o.val = 42 ∨ o.val = 64 ∨ o.val = 74 ∨ o.val = 92 := by decide +kernel
theorem gl_okM0 : gw_okM gl_m0 := by
  refine ⟨fun o j => ?_, fun o n rs ho j => ?_⟩
  · unfold gl_m0
    have key : ∀ (c : Prop) (inst : Decidable c) (a b : Int), gw_inR a → gw_inR b → gw_inR (@ite Int c inst a b) := fun c inst a b ha hb => by
      by_cases hc : c
      · rw [if_pos hc]; exact ha
      · rw [if_neg hc]; exact hb
    repeat' (refine key _ _ _ _ ?_ ?_)
    all_goals first
      | (unfold gw_inR; omega)
      | (refine gl_getD (fun x hx => ?_) _; simp only [List.mem_cons, List.not_mem_nil, or_false] at hx; unfold gw_inR; omega)
  · have hl : o < 144 := by
      rw [← gw_SHlen]
      exact (List.getElem?_eq_some_iff.mp ho).1
    have h1 := gl_bools ⟨o, hl⟩ (by show (gw_SH[o]?).map (fun s => s.1) = some 3; rw [ho]; rfl)
    have h2 : o = 21 ∨ o = 42 ∨ o = 64 ∨ o = 74 ∨ o = 92 := h1
    rcases h2 with rfl | rfl | rfl | rfl | rfl <;> exact Or.inl rfl
