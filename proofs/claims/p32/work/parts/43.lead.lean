/-! the class: the guide's minute, all of it -/
theorem gd_bg01 (g : gw_Mem) : gd_bg g = 0 ∨ gd_bg g = 1 := by
  unfold gd_bg
  repeat' split
  all_goals simp
theorem gd_kA_16 (g : gw_Mem) (k : Int) : (gd_kA g k).2 117 16 = g 117 16 := by
  unfold gd_kA gd_done
  repeat' split
  all_goals first
    | rfl
    | (show gd_spk _ _ 117 16 = _; rw [gd_spk_ne _ _ (by omega), gw_up_at, if_neg (by omega)])
    | (show gw_up g 117 _ _ 117 16 = _; rw [gw_up_at, if_neg (by omega)])
theorem gd_kp_16 (g : gw_Mem) : (gd_kp g).2 117 16 = g 117 16 := by
  unfold gd_kp
  repeat' split
  · rw [gd_kA_16]
    unfold gd_bgm
    rw [gw_up_at, if_neg (by omega), gw_up_at, if_neg (by omega)]
  · exact gd_kA_16 _ _
  · rfl
theorem sp_X10_isKept (b : Nat) (hb : gw_isWalk b) (g m : gw_Mem) (h : gc_Q g m b) (hs : 0 ≤ gd_sh g) : gw_SpecI M_X10_isKept 12 [gR b] m (fun r m' => r = (gd_kp g).1 ∧ gc_Q (gd_kp g).2 m' b ∧ gc_fr b m m') := by
  refine gw_intro pl_X10_isKept rfl (fun Γ => ?_)
  refine gw_ok (fun hM _ _ => ?_)
  have hH := h.2.2.2.2.2.2
  have hp := gd_sh_pos h.1 hs
  obtain ⟨hA, hB⟩ := hH.2.2.2.2.2 hp.1
  apply r_X10_isKept_0 b hb
  rw [hH.2.1]
  refine ⟨fun h0 => ?_, fun h0 => ?_⟩
  · refine gw_CI.eq (sp_X10_isToBegin b hb g m h) rfl ?_
    have ek : gd_kp g = gd_kA (gd_bgm g) (gd_sh g) := by rw [gd_kp, if_pos hs, if_pos h0]
    have no : ∀ o : Nat, o ≠ 117 → gd_bgm g o = g o := fun o ho => by unfold gd_bgm; rw [gw_up_ne ho, gw_up_ne ho]
    have nj : ∀ j : Int, j ≠ 17 → j ≠ 18 → gd_bgm g 117 j = g 117 j := fun j h1 h2 => by unfold gd_bgm; rw [gw_up_at, if_neg h2, gw_up_at, if_neg h1]
    have e17 : gd_bgm g 117 17 = gd_bg g := by unfold gd_bgm; rw [gw_up_at, if_neg (by omega), gw_up_at, if_pos rfl]
    have e18 : gd_bgm g 117 18 = gw_w (g 117 18 + (if gd_bg g = 0 then 1 else 0)) := by unfold gd_bgm; rw [gw_up_at, if_pos rfl]
    have es : gd_sh (gd_bgm g) = gd_sh g := gd_sh_congr (nj 0 (by omega) (by omega)) (nj 16 (by omega) (by omega)) (nj 22 (by omega) (by omega)) (no 118 (by omega)) (no 119 (by omega))
    have hb01 := gd_bg01 g
    refine ⟨fun h1 => ?_, fun h1 => ?_⟩
    · have eA : gd_kp g = (1, gd_bgm g) := by rw [ek, gd_kA, if_pos (by rw [e17]; exact h1)]
      rw [eA]
      refine ⟨1, rfl, rfl, gc_Q_h h no (fun j hj => nj j (by omega) (by omega)) (fun o ho => gw_up_ne ho) ?_, gc_fr_up (gc_fr_rfl b m) (by omega) _ _⟩
      refine ⟨?_, ?_, ?_, ?_, ?_, fun hpos => ?_⟩
      · show (gw_up m (b + 11) 2 (gw_w (m (b + 11) 2 + 1))) b 4 = gd_bgm g 117 16
        rw [gw_up_ne (by omega), nj 16 (by omega) (by omega)]; exact hH.1
      · show (gw_up m (b + 11) 2 (gw_w (m (b + 11) 2 + 1))) (b + 11) 0 = gd_bgm g 117 17
        rw [gw_up_at, if_neg (by omega), e17, h1, hH.2.1]; exact h0
      · show (gw_up m (b + 11) 2 (gw_w (m (b + 11) 2 + 1))) (b + 11) 2 = gd_bgm g 117 18
        rw [gw_up_at, if_pos rfl, e18, if_pos h1, hH.2.2.1]
      · show (gw_up m (b + 11) 2 (gw_w (m (b + 11) 2 + 1))) (b + 11) 3 = gd_bgm g 117 19
        rw [gw_up_at, if_neg (by omega), nj 19 (by omega) (by omega)]; exact hH.2.2.2.1
      · show (gw_up m (b + 11) 2 (gw_w (m (b + 11) 2 + 1))) (b + 11) 4 = gd_bgm g 117 20
        rw [gw_up_at, if_neg (by omega), nj 20 (by omega) (by omega)]; exact hH.2.2.2.2.1
      · show ((gw_up m (b + 11) 2 (gw_w (m (b + 11) 2 + 1))) (b + 11) 1 = 0 ↔ 0 ≤ gd_sh (gd_bgm g)) ∧ (gw_up m (b + 11) 2 (gw_w (m (b + 11) 2 + 1))) (b + 11) 5 = gd_bgm g 117 21
        rw [es, gw_up_at, if_neg (by omega), gw_up_at, if_neg (by omega), nj 21 (by omega) (by omega)]
        exact ⟨hA, hB⟩
    · have e1 : gd_bg g = 1 := hb01.resolve_left h1
      have hQ1 : gc_Q (gd_bgm g) (gw_up m (b + 11) 0 1) b := by
        refine gc_Q_h h no (fun j hj => nj j (by omega) (by omega)) (fun o ho => gw_up_ne ho) ?_
        refine ⟨?_, ?_, ?_, ?_, ?_, fun hpos => ?_⟩
        · rw [gw_up_ne (by omega), nj 16 (by omega) (by omega)]; exact hH.1
        · rw [gw_up_at, if_pos rfl, e17]; exact e1.symm
        · rw [gw_up_at, if_neg (by omega), e18, e1, if_neg (by omega), hH.2.2.1]
          have z := hM.1 (b + 11) 2
          rw [hH.2.2.1] at z
          unfold gw_inR at z
          rw [Int.add_zero, gw_w_id z]
        · rw [gw_up_at, if_neg (by omega), nj 19 (by omega) (by omega)]; exact hH.2.2.2.1
        · rw [gw_up_at, if_neg (by omega), nj 20 (by omega) (by omega)]; exact hH.2.2.2.2.1
        · rw [es, gw_up_at, if_neg (by omega), gw_up_at, if_neg (by omega), nj 21 (by omega) (by omega)]
          exact ⟨hA, hB⟩
      refine gc_kA b hb (gd_bgm g) _ hQ1 (by rw [es]; exact hs) (by rw [e17]; omega) Γ m (gc_fr_up (gc_fr_rfl b m) (by omega) _ _) _ _ ?_
      rw [es, ek]
  · have ek : gd_kp g = gd_kA g (gd_sh g) := by rw [gd_kp, if_pos hs, if_neg h0]
    exact gc_kA b hb g m h hs h0 Γ m (gc_fr_rfl b m) _ _ (by rw [ek])
theorem gc_Q_go {q q' m m' : gw_Mem} {b : Nat} (h : gc_Q q m b) (hlt : q 117 16 < q 117 0) (ho : ∀ o : Nat, o ≠ 117 → q' o = q o) (hj : ∀ j : Int, ¬ (16 ≤ j ∧ j ≤ 21) → q' 117 j = q 117 j) (h16 : q' 117 16 = q 117 16 + 1) (hz : ∀ j : Int, 17 ≤ j ∧ j ≤ 21 → q' 117 j = 0) (hm : ∀ o : Nat, o ≠ b → o ≠ b + 11 → m' o = m o) (hmb : ∀ j : Int, j ≠ 4 → m' b j = m b j) (h4 : m' b 4 = q 117 16 + 1) (hh : ∀ j : Int, 0 ≤ j ∧ j ≤ 5 → m' (b + 11) j = 0) : gc_Q q' m' b := by
  obtain ⟨hJ, hV, hL, hR, ht, h8, _⟩ := h
  have hw : gd_wf q q' := ⟨fun o _ a => ho o a, fun j a => hj j (by omega)⟩
  have hJ' := gd_wf_JP hw hJ
  refine ⟨hJ', ?_, gc_L_m (gc_L_g hL (gd_pq_wf hw)) (fun o _ _ => hm o (by omega) (by omega)), gc_Rr_m (gc_Rr_g hR (fun o _ => ho o (by omega)) (hj 6 (by omega))) (fun o _ _ => hm o (by omega) (by omega)), gc_tn_congr ht (hj 6 (by omega)) (ho 123 (by omega)) (hmb 7 (by omega)), ?_, ?_⟩
  · unfold gd_V at *
    rw [h16, hj 0 (by omega), hj 6 (by omega), hj 22 (by omega), ho 129 (by omega), ho 130 (by omega), ho 123 (by omega), ho 119 (by omega)]
    refine ⟨by omega, fun j hjj => ?_, hV.2.2.1, fun k hk => ?_⟩
    · have z := hV.2.1 j hjj
      exact ⟨by omega, z.2⟩
    · rcases hV.2.2.2 k hk with z | z
      · exact Or.inl z
      · exact Or.inr (by omega)
  · rw [hmb 8 (by omega), hj 6 (by omega), gd_wf_n hw, gd_alive_congr (g := q) (gd_n q) (fun i _ => by rw [ho 131 (by omega)])]
    exact h8
  · refine ⟨by rw [h4, h16], by rw [hh 0 (by omega), hz 17 (by omega)], by rw [hh 2 (by omega), hz 18 (by omega)], by rw [hh 3 (by omega), hz 19 (by omega)], by rw [hh 4 (by omega), hz 20 (by omega)], fun hpos => ⟨⟨fun _ => ?_, fun _ => hh 1 (by omega)⟩, by rw [hh 5 (by omega), hz 21 (by omega)]⟩⟩
    have hw2 := (gd_wl_rng hJ' (k := 0) (by omega) (q' 117 16)).2.2.mp hpos
    have hmk := gd_mk_rng hJ' (k := 0) (by omega) (q' 117 16)
    have hma := (gd_ma_rng q' 0 (q' 117 16) (q' 118 0).toNat).2.2.2 hw2.2
    unfold gd_sh gd_sq
    rw [if_pos hw2.1, if_neg (by omega)]
    have hpl : q 119 (gd_mk q' 0 (q' 117 16)) = q' 117 16 := by
      rw [← ho 119 (by omega)]
      rw [show 8 * (0 : Int) + gd_ma q' 0 (q' 117 16) (q' 118 0).toNat = gd_mk q' 0 (q' 117 16) by unfold gd_mk; omega] at hma
      exact hma
    rcases hV.2.2.2 (gd_mk q' 0 (q' 117 16)) ⟨hw2.2, hmk.2.2.1⟩ with z | z
    · rw [hj 22 (by omega), if_pos z]; exact hw2.2
    · rw [hpl] at z; omega
theorem sp_X2_clear (b : Nat) (hb : gw_isHalt b) (m : gw_Mem) : gw_SpecV M_X2_clear 10 [gR b] m (fun m' => m' = gw_up (gw_up (gw_up (gw_up (gw_up (gw_up m b 0 0) b 1 0) b 2 0) b 3 0) b 4 0) b 5 0) := by
  refine gw_intro pl_X2_clear rfl (fun Γ => ?_)
  apply r_X2_clear_0 b hb
  exact ⟨rfl, rfl⟩
theorem sp_X4_isRed (b : Nat) (hb : gw_isWalk b) (g m : gw_Mem) (hJ : gd_JP g) (hL : gc_L g m b) (x t : Int) (hx : 0 ≤ x ∧ x < 100) : gw_SpecI M_X4_isRed 10 [gR (b + 1), gI x, gI t] m (fun r m' => r = gd_rd g x t ∧ m' = m) := by
  refine gw_intro pl_X4_isRed rfl (fun Γ => ?_)
  apply r_X4_isRed_0 (b + 1) (gw_walkP hb)
  have hw : m (b + 1 + 2) x = gd_wl g 1 x := hL.2.1 1 (by omega) x hx
  rw [hw]
  have hr := gd_wl_rng hJ (k := 1) (by omega) x
  refine ⟨gw_inm hx.1 hx.2, fun _ => by omega, gw_rE ?_ rfl⟩
  have hmk := gd_mk_rng hJ (k := 1) (by omega) x
  unfold gd_rd
  by_cases h : 0 < gd_wl g 1 x
  · have hc := hr.2.2.mp h
    have e : gd_wl g 1 x = g 120 (8 + gd_mk g 1 x) := by rw [gd_wl, if_pos hc]; congr 1
    have e2 : gw_w ((gd_wl g 1 x).tdiv 2) = (gd_wl g 1 x).tdiv 2 := by
      rw [Int.tdiv_eq_ediv_of_nonneg (by omega), gw_w_id (by omega)]
    rw [if_neg (show ¬ gd_wl g 1 x ≤ 0 by omega), e2, if_neg (show ¬ gd_mk g 1 x < 0 by omega), if_neg (show ¬ g 117 0 ≤ x by omega), e]
  · rw [if_pos (by omega)]
    by_cases h1 : gd_mk g 1 x < 0
    · rw [if_pos h1]
    · rw [if_neg h1, if_pos (Int.not_lt.mp (fun z => h (hr.2.2.mpr ⟨z, by omega⟩)))]
theorem gc_Q_29 {g m : gw_Mem} {b : Nat} (h : gc_Q g m b) (v : Int) : gc_Q (gw_up g 117 29 v) m b := by
  obtain ⟨hJ, hV, hL, hR, ht, h8, hH⟩ := h
  have ho : ∀ o : Nat, o ≠ 117 → gw_up g 117 29 v o = g o := fun o z => gw_up_ne z
  have hj : ∀ j : Int, j ≠ 29 → gw_up g 117 29 v 117 j = g 117 j := fun j z => by rw [gw_up_at, if_neg z]
  generalize gw_up g 117 29 v = g' at *
  have hw : gd_wf g g' := ⟨fun o _ a => ho o a, fun j a => hj j (by omega)⟩
  refine ⟨gd_wf_JP hw hJ, gd_V_congr hV (hj 0 (by omega)) (hj 6 (by omega)) (hj 16 (by omega)) (hj 22 (by omega)) (ho 119 (by omega)) (ho 123 (by omega)) (ho 129 (by omega)) (ho 130 (by omega)), gc_L_g hL (gd_pq_wf hw), gc_Rr_g hR (fun o _ => ho o (by omega)) (hj 6 (by omega)), gc_tn_congr ht (hj 6 (by omega)) (ho 123 (by omega)) rfl, ?_, ?_⟩
  · rw [hj 6 (by omega), gd_wf_n hw, gd_alive_congr (g := g) (gd_n g) (fun i _ => by rw [ho 131 (by omega)])]
    exact h8
  · unfold gc_H
    rw [gd_wl_pq (gd_pq_wf hw), gd_sh_congr (hj 0 (by omega)) (hj 16 (by omega)) (hj 22 (by omega)) (ho 118 (by omega)) (ho 119 (by omega)), hj 16 (by omega), hj 17 (by omega), hj 18 (by omega), hj 19 (by omega), hj 20 (by omega), hj 21 (by omega)]
    exact hH
theorem gd_clr_at (q : gw_Mem) : (∀ o : Nat, o ≠ 117 → gd_clr q o = q o) ∧ (∀ j : Int, ¬ (17 ≤ j ∧ j ≤ 21) → gd_clr q 117 j = q 117 j) ∧ ∀ j : Int, 17 ≤ j ∧ j ≤ 21 → gd_clr q 117 j = 0 := by
  unfold gd_clr
  refine ⟨fun o ho => by rw [gw_up_ne ho, gw_up_ne ho, gw_up_ne ho, gw_up_ne ho, gw_up_ne ho], fun j hj => ?_, fun j hj => ?_⟩
  · simp only [gw_up_at]
    rw [if_neg (by omega), if_neg (by omega), if_neg (by omega), if_neg (by omega), if_neg (by omega)]
  · simp only [gw_up_at]
    have hc : j = 17 ∨ j = 18 ∨ j = 19 ∨ j = 20 ∨ j = 21 := by omega
    rcases hc with rfl | rfl | rfl | rfl | rfl <;> simp
theorem sp_X10_lead (b : Nat) (hb : gw_isWalk b) (g m : gw_Mem) (t : Int) (h : gc_Q g m b) (hlt : g 117 16 < g 117 0) : gw_SpecV M_X10_lead 13 [gR b, gI t] m (fun m' => gc_Q (gd_gg g t) m' b ∧ gc_fr b m m') := by
  refine gw_intro pl_X10_lead rfl (fun Γ => ?_)
  have steps : ∀ (g1 m1 : gw_Mem), gc_Q g1 m1 b → gc_fr b m m1 → gd_gA g g1 t = gd_gg g t → g1 117 16 < g1 117 0 → gw_G M_X10_lead 13 (fun r m' => r = none ∧ gc_Q (gd_gg g t) m' b ∧ gc_fr b m m') Γ 15 [some (gR b), some (gI t), none] [] m1 := by
    intro g1 m1 hQ1 hf1 hg1 hlt1
    obtain ⟨n, hN⟩ := gw_nat (show 0 ≤ g1 122 0 by have := hQ1.1.2.2.2.2.2.2.2.1.1; omega)
    have hn4 := hQ1.1.2.2.2.2.2.2.2.1.1
    have en : (g1 122 0).toNat = n := by omega
    apply r_X10_lead_15 b hb
    have key : ∀ (j i : Nat) (q mm : gw_Mem), i + j = n → gc_Q (if q 117 16 = g1 117 16 then q else gd_clr q) mm b → gc_fr b m mm → gd_wf g1 q → g1 117 16 ≤ q 117 16 → gd_gs q t j = gd_gs g1 t n → gw_G M_X10_lead 13 (fun r m' => r = none ∧ gc_Q (gd_gg g t) m' b ∧ gc_fr b m m') Γ 17 [some (gR b), some (gI t), some (gI (i : Int))] [] mm := by
      intro j
      induction j with
      | zero =>
        intro i q mm hi hQ hf hw hle hgs
        apply r_X10_lead_17 b hb
        have hr : mm (b + 10) 0 = g1 122 0 := by
          have z := hQ.2.2.1.2.2.2.2 0 (by omega)
          rw [z]
          have : (if q 117 16 = g1 117 16 then q else gd_clr q) 122 = g1 122 := by
            split
            · exact hw.1 122 (by omega) (by omega)
            · rw [(gd_clr_at q).1 122 (by omega)]; exact hw.1 122 (by omega) (by omega)
          rw [this]
        rw [hr]
        refine ⟨fun _ => ⟨rfl, ?_, hf⟩, fun z => absurd (by omega) z⟩
        rw [← hg1, gd_gA, en, ← hgs]
        exact gc_Q_29 hQ _
      | succ j ih =>
        intro i q mm hi hQ hf hw hle hgs
        have fin : gd_gs g1 t n = q → gc_Q (gd_gg g t) mm b := by
          intro e
          rw [← hg1, gd_gA, en, e]
          exact gc_Q_29 hQ _
        have c22 : ∀ o : Nat, o ≠ 117 → (if q 117 16 = g1 117 16 then q else gd_clr q) o = q o := by
          intro o ho
          split
          · rfl
          · exact (gd_clr_at q).1 o ho
        have c7 : ∀ j : Int, ¬ (17 ≤ j ∧ j ≤ 21) → (if q 117 16 = g1 117 16 then q else gd_clr q) 117 j = q 117 j := by
          intro j hj
          split
          · rfl
          · exact (gd_clr_at q).2.1 j hj
        generalize hqh : (if q 117 16 = g1 117 16 then q else gd_clr q) = qh at hQ c22 c7
        apply r_X10_lead_17 b hb
        have hr : mm (b + 10) 0 = g1 122 0 := by
          rw [hQ.2.2.1.2.2.2.2 0 (by omega), c22 122 (by omega)]
          rw [hw.1 122 (by omega) (by omega)]
        have h4 : mm b 4 = q 117 16 := by rw [hQ.2.2.2.2.2.2.1, c7 16 (by omega)]
        have h10 : mm (b + 1) 0 = q 117 0 := by rw [hQ.2.2.1.1, c7 0 (by omega)]
        have hsh : gd_sh qh = gd_sh q := gd_sh_congr (c7 0 (by omega)) (c7 16 (by omega)) (c7 22 (by omega)) (c22 118 (by omega)) (c22 119 (by omega))
        rw [hr, h4, h10]
        rw [gd_gs] at hgs
        refine ⟨fun z => absurd z (by omega), fun _ => ⟨fun h1 => ?_, fun h1 => ?_⟩⟩
        · rw [if_pos h1] at hgs
          exact ⟨rfl, fin hgs.symm, hf⟩
        rw [if_neg h1] at hgs
        refine gw_CI.eq (sp_X10_isAtOpenStop b hb qh mm hQ) rfl (gw_b_tf (fun h2 => ?_) (fun h2 => ?_))
        · rw [hsh] at h2
          rw [if_neg h2] at hgs
          have hVq := hQ.2.1.1
          rw [c7 16 (by omega), c7 0 (by omega)] at hVq
          have hend := hQ.1.1
          rw [c7 0 (by omega)] at hend
          rw [h4]
          refine gw_CI.eq (sp_X4_isRed b hb qh mm hQ.1 hQ.2.2.1 (q 117 16) t (by omega)) rfl ?_
          have hrd : gd_rd qh (q 117 16) t = gd_rd q (q 117 16) t := by
            unfold gd_rd gd_mk
            rw [c22 118 (by omega), c22 120 (by omega), gd_ma_congr (c22 119 (by omega)), c7 0 (by omega)]
          rw [hrd]
          refine ⟨fun h3 => ?_, fun h3 => ?_⟩
          · rw [if_pos h3] at hgs
            refine gw_CV.eq (sp_X2_clear (b + 11) (gw_walkH hb) _) rfl ?_
            rw [gw_w1 (by omega), h4, gw_w_id (x := q 117 16 + 1) (by omega)]
            rw [gw_w_id (x := q 117 16 + 1) (by omega)] at hgs
            refine ih (i + 1) (gw_up q 117 16 (q 117 16 + 1)) _ (by omega) ?_ ?_ (gd_wf_uf hw (by omega) _) ?_ hgs
            · have hne : ¬ (gw_up q 117 16 (q 117 16 + 1)) 117 16 = g1 117 16 := by rw [gw_up_at, if_pos rfl]; omega
              rw [if_neg hne]
              have hc := gd_clr_at (gw_up q 117 16 (q 117 16 + 1))
              refine gc_Q_go hQ (by rw [c7 16 (by omega), c7 0 (by omega)]; omega) (fun o ho => ?_) (fun j hj => ?_) ?_ hc.2.2 (fun o ho1 ho2 => ?_) (fun j hj => ?_) ?_ (fun j hj => ?_)
              · rw [hc.1 o ho, gw_up_ne ho, c22 o ho]
              · rw [hc.2.1 j (by omega), gw_up_at, if_neg (by omega), c7 j (by omega)]
              · rw [hc.2.1 16 (by omega), gw_up_at, if_pos rfl, c7 16 (by omega)]
              · rw [gw_up_ne ho2, gw_up_ne ho2, gw_up_ne ho2, gw_up_ne ho2, gw_up_ne ho2, gw_up_ne ho2, gw_up_ne ho1]
              · rw [gw_up_ne (by omega), gw_up_ne (by omega), gw_up_ne (by omega), gw_up_ne (by omega), gw_up_ne (by omega), gw_up_ne (by omega), gw_up_at, if_neg hj]
              · rw [gw_up_ne (by omega), gw_up_ne (by omega), gw_up_ne (by omega), gw_up_ne (by omega), gw_up_ne (by omega), gw_up_ne (by omega), gw_up_at, if_pos rfl, c7 16 (by omega)]
              · simp only [gw_up_at]
                have hcc : j = 0 ∨ j = 1 ∨ j = 2 ∨ j = 3 ∨ j = 4 ∨ j = 5 := by omega
                rcases hcc with rfl | rfl | rfl | rfl | rfl | rfl <;> simp
            · repeat (first | exact gc_fr_uf hf (Or.inl rfl) _ | refine gc_fr_up ?_ (by omega) _ _)
            · rw [gw_up_at, if_pos rfl]; omega
          · rw [if_neg h3] at hgs
            exact ⟨rfl, fin hgs.symm, hf⟩
        · rw [hsh] at h2
          rw [if_pos h2] at hgs
          exact ⟨rfl, fin hgs.symm, hf⟩
    exact key n 0 g1 m1 (by omega) (by rw [if_pos rfl]; exact hQ1) hf1 (gd_wf_rfl g1) (Int.le_refl _) rfl
  have hne : ¬ g 117 16 = g 117 0 := by omega
  apply r_X10_lead_0 b hb
  refine gw_CI.eq (sp_X10_isAtOpenStop b hb g m h) rfl (gw_b_tf (fun h2 => ?_) (fun h2 => ?_))
  · have ek : gd_kp g = (0, g) := by rw [gd_kp, if_neg h2]
    refine steps g m h (gc_fr_rfl b m) ?_ hlt
    rw [gd_gg, if_neg hne, ek, if_pos rfl]
  · refine gw_CI.of (sp_X10_isKept b hb g m h h2) rfl (fun v m' _ _ hv => ?_)
    obtain ⟨hv1, hv2, hv3⟩ := hv
    subst hv1
    have hkw := gd_kp_wf g
    have h16 : (gd_kp g).2 117 16 = g 117 16 := gd_kp_16 g
    refine ⟨fun h3 => ?_, fun h3 => ?_⟩
    · refine steps _ m' hv2 hv3 ?_ (by rw [h16, hkw.2 0 (by omega)]; exact hlt)
      rw [gd_gg, if_neg hne, if_pos h3]
    · refine ⟨rfl, ?_, hv3⟩
      rw [gd_gg, if_neg hne, if_neg h3]
      exact hv2
