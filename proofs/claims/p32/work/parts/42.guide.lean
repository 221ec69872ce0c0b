/-! the class: the guide's minute -/
theorem gd_wf_ne117 {g g' : gw_Mem} (ho : ∀ o : Nat, o ≠ 117 → g' o = g o) (hj : ∀ j : Int, ¬ (17 ≤ j ∧ j ≤ 21) → g' 117 j = g 117 j) : gd_wf g g' := ⟨fun o _ a => ho o a, fun j a => hj j (by omega)⟩
theorem gd_sh_congr {g g' : gw_Mem} (h0 : g' 117 0 = g 117 0) (h16 : g' 117 16 = g 117 16) (h22 : g' 117 22 = g 117 22) (h118 : g' 118 = g 118) (h119 : g' 119 = g 119) : gd_sh g' = gd_sh g := by
  unfold gd_sh gd_sq gd_mk
  rw [h0, h16, h22, h118, gd_ma_congr h119]
theorem gd_V_congr {g g' : gw_Mem} (h : gd_V g) (h0 : g' 117 0 = g 117 0) (h6 : g' 117 6 = g 117 6) (h16 : g' 117 16 = g 117 16) (h22 : g' 117 22 = g 117 22) (a : g' 119 = g 119) (b : g' 123 = g 123) (c : g' 129 = g 129) (d : g' 130 = g 130) : gd_V g' := by
  unfold gd_V at *
  rw [h0, h6, h16, h22, a, b, c, d]
  exact h
theorem gc_tn_congr {g g' m m' : gw_Mem} {b : Nat} (h : gc_tn g m b) (h6 : g' 117 6 = g 117 6) (h123 : g' 123 = g 123) (h7 : m' b 7 = m b 7) : gc_tn g' m' b := by
  unfold gc_tn gd_n at *
  rw [h6, gd_tl_congr h123, h7]
  exact h
theorem gc_Q_h {g g' m m' : gw_Mem} {b : Nat} (h : gc_Q g m b) (ho : ∀ o : Nat, o ≠ 117 → g' o = g o) (hj : ∀ j : Int, ¬ (17 ≤ j ∧ j ≤ 21) → g' 117 j = g 117 j) (hm : ∀ o : Nat, o ≠ b + 11 → m' o = m o) (hH : gc_H g' m' b) : gc_Q g' m' b := by
  obtain ⟨hJ, hV, hL, hR, ht, h8, _⟩ := h
  have hw := gd_wf_ne117 ho hj
  refine ⟨gd_wf_JP hw hJ, gd_V_congr hV (hj 0 (by omega)) (hj 6 (by omega)) (hj 16 (by omega)) (hj 22 (by omega)) (ho 119 (by omega)) (ho 123 (by omega)) (ho 129 (by omega)) (ho 130 (by omega)), gc_L_m (gc_L_g hL (gd_pq_wf hw)) (fun o _ _ => hm o (by omega)), gc_Rr_m (gc_Rr_g hR (fun o _ => ho o (by omega)) (hj 6 (by omega))) (fun o _ _ => hm o (by omega)), gc_tn_congr ht (hj 6 (by omega)) (ho 123 (by omega)) (by rw [hm b (by omega)]), ?_, hH⟩
  rw [hm b (by omega), hj 6 (by omega), gd_wf_n hw, gd_alive_congr (gd_n g) (fun i _ => by rw [ho 131 (by omega)])]
  exact h8
theorem gd_spk_ne (g : gw_Mem) (n : Nat) {o : Nat} (ho : o ≠ 132) : gd_spk g n o = g o := by
  induction n with
  | zero => rfl
  | succ n ih => rw [gd_spk, gw_up_ne ho, ih]
theorem sp_X10_speak (b : Nat) (hb : gw_isWalk b) (g m : gw_Mem) (hJ : gd_JP g) (hL : gc_L g m b) (hR : gc_Rr g m b) (h4 : m b 4 = g 117 16) : gw_SpecV M_X10_speak 10 [gR b] m (fun m' => gc_Rr (gd_spk g (gd_n g)) m' b ∧ ∀ o : Nat, o ≠ b + 14 → m' o = m o) := by
  refine gw_intro pl_X10_speak rfl (fun Γ => ?_)
  have hnc := gd_n_cast hJ
  have key : ∀ (j i : Nat) (y : Option gw_SV) (q : gw_Mem), i + j = gd_n g → gc_Rr (gd_spk g i) q b → (∀ o : Nat, o ≠ b + 14 → q o = m o) → gw_G M_X10_speak 10 (fun r m' => r = none ∧ gc_Rr (gd_spk g (gd_n g)) m' b ∧ ∀ o : Nat, o ≠ b + 14 → m' o = m o) Γ 2 [some (gR b), some (gI (i : Int)), y] [] q := by
    intro j
    induction j with
    | zero =>
      intro i y q hi hq hf
      apply r_X10_speak_2 b hb
      rw [hf (b + 6) (by omega), hL.2.2.1]
      refine ⟨fun _ => ⟨rfl, ?_, hf⟩, fun z => absurd (by omega) z⟩
      have ei : i = gd_n g := by omega
      rw [← ei]; exact hq
    | succ j ih =>
      intro i y q hi hq hf
      apply r_X10_speak_2 b hb
      have hij : 0 ≤ (i : Int) ∧ (i : Int) < g 117 6 := by omega
      have hx : gw_in (i : Int) 10 := gw_inm (by omega) (by omega)
      have hij2 : 0 ≤ (i : Int) ∧ (i : Int) < gd_spk g i 117 6 := by rw [gd_spk_ne g i (by omega)]; exact hij
      have ro := gc_ro hq hij2
      rw [gd_spk_ne g i (o := 129) (by omega), gd_spk_ne g i (o := 131) (by omega)] at ro
      rw [hf (b + 6) (by omega), hL.2.2.1, ro.2.2.2.2.2, ro.1, ro.2.2.1, hf (b + 9) (by omega), hf (b + 10) (by omega), hf b (by omega), h4, hL.2.2.2.2 4 (by omega), (hL.2.2.2.1 i hij).2.2]
      refine ⟨fun z => absurd z (by omega), fun _ => ⟨hx, hx, hx, fun _ => hx, hx, ?_⟩⟩
      rw [gw_w1 (by omega)]
      refine ih (i + 1) _ _ (by omega) ?_ (fun o ho => by rw [gw_up_ne ho]; exact hf o ho)
      have hu := gc_Rr_up hq (o := 132) (by omega) i (gw_w (gd_spk g i 132 i + gd_nr (gd_spk g i) i (if gd_spk g i 125 i = 1 then 3 else 1)))
      have e : (if 0 ≤ g 131 (i : Int) then (0 : Int) else if (if g 125 (i : Int) = 0 then g 122 4 else gw_w (3 * g 122 4)) < gw_w (g 117 16 - g 129 i) then 0 else 1) = gd_nr (gd_spk g i) i (if gd_spk g i 125 i = 1 then 3 else 1) := by
        have r4 := hJ.2.2.2.2.2.2.2.1.2.2.2.2
        have rb := (hJ.2.2.2.2.2.1 i hij).2.2
        unfold gd_nr
        rw [gd_spk_ne g i (o := 125) (by omega), gd_spk_ne g i (o := 131) (by omega), gd_spk_ne g i (o := 122) (by omega), gd_spk_ne g i (o := 117) (by omega), gd_spk_ne g i (o := 129) (by omega)]
        have e1 : (if g 125 (i : Int) = 0 then g 122 4 else gw_w (3 * g 122 4)) = gw_w ((if g 125 (i : Int) = 1 then 3 else 1) * g 122 4) := by
          rcases rb with rb | rb
          · rw [if_pos rb, if_neg (by omega), gw_w_id (by omega)]; omega
          · rw [if_neg (by omega), if_pos rb]
        rw [e1]
        by_cases hl : g 131 (i : Int) < 0
        · rw [if_neg (by omega), if_pos hl]
        · rw [if_pos (by omega), if_neg hl]
      rw [e]
      exact hu
  apply r_X10_speak_0 b hb
  exact key (gd_n g) 0 none m (by omega) hR (fun _ _ => rfl)
theorem gd_sh_done {g : gw_Mem} (hJ : gd_JP g) (hV : gd_V g) (h : 0 ≤ gd_sh g) : gd_sh (gd_done g (gd_sh g)) = -4 ∧ gd_V (gd_done g (gd_sh g)) := by
  have hp := gd_sh_pos hJ h
  have hr := gd_sh_rng hJ
  have hbit := gd_bit hV.2.2.1 (k := gd_sh g) ⟨h, hr.2⟩
  have hmk := gd_mk_rng hJ (k := 0) (by omega) (g 117 16)
  have hma := (gd_ma_rng g 0 (g 117 16) (g 118 0).toNat).2.2.2
  have hpl : g 119 (gd_sh g) = g 117 16 := by
    have z := hma (by show 0 ≤ gd_mk g 0 (g 117 16); rw [← hp.2.2.1]; exact h)
    rw [show 8 * (0 : Int) + gd_ma g 0 (g 117 16) (g 118 0).toNat = gd_mk g 0 (g 117 16) by unfold gd_mk; omega] at z
    rw [hp.2.2.1]; exact z
  generalize hk : gd_sh g = k at *
  refine ⟨?_, ?_⟩
  · unfold gd_sh gd_sq gd_done
    have e1 : gd_mk (gw_up g 117 22 (gw_or (g 117 22) (gw_shl 1 k))) 0 (g 117 16) = k := by
      rw [hp.2.2.1]
      unfold gd_mk
      rw [gw_up_ne (by omega), gd_ma_congr (by rw [gw_up_ne (by omega)])]
    simp only [gw_up_at]
    rw [if_neg (show ¬ ((16 : Int) = 22) by omega), if_neg (show ¬ ((0 : Int) = 22) by omega), if_pos hp.2.2.2, e1, if_neg (show ¬ k < 0 by omega), if_pos trivial]
    rw [if_neg]
    intro z
    exact ((hbit.2 k ⟨h, hr.2⟩).mp z).2 rfl
  · unfold gd_V gd_done at *
    simp (disch := omega) only [gw_up_ne, gw_up_at]
    simp only [show ((16 : Int) = 22) = False by simp, show ((0 : Int) = 22) = False by simp, show ((6 : Int) = 22) = False by simp, if_false, if_true]
    refine ⟨hV.1, hV.2.1, hbit.1, fun j hj => ?_⟩
    by_cases e : j = k
    · exact Or.inr (by rw [e, hpl]; exact Int.le_refl _)
    · rcases hV.2.2.2 j hj with z | z
      · exact Or.inl ((hbit.2 j hj).mpr ⟨z, e⟩)
      · exact Or.inr z
/-- a minute at a stop, once she has begun -/
theorem gc_kA (b : Nat) (hb : gw_isWalk b) (g m : gw_Mem) (h : gc_Q g m b) (hs : 0 ≤ gd_sh g) (h17 : g 117 17 ≠ 0) (Γ : gw_Ga) (m0 : gw_Mem) (hf : gc_fr b m0 m) (R1 : Int) (R2 : gw_Mem) (hR : gd_kA g (gd_sh g) = (R1, R2)) :
    gw_G M_X10_isKept 12 (fun r m' => ∃ v, r = some (gI v) ∧ v = R1 ∧ gc_Q R2 m' b ∧ gc_fr b m0 m') Γ 40 [some (gR b)] [] m := by
  have hQ := h
  obtain ⟨hJ, hV, hL, hRr, ht, h8, hH⟩ := h
  apply r_X10_isKept_40 b hb
  have hp := gd_sh_pos hJ hs
  have hend := hJ.1
  have hg := hV.1
  have h4 : m b 4 = g 117 16 := hH.1
  have hw : m (b + 2) (g 117 16) = gd_wl g 0 (g 117 16) := hL.2.1 0 (by omega) _ (by omega)
  obtain ⟨hA, hB⟩ := hH.2.2.2.2.2 hp.1
  rw [h4, hw, hp.2.1, hH.2.2.2.1, hH.2.2.2.2.1, hB, hL.2.2.2.2 2 (by omega), hL.2.2.2.2 3 (by omega)]
  have dn : (0, gd_done g (gd_sh g)) = (R1, R2) → gw_G M_X10_isKept 12 (fun r m' => ∃ v, r = some (gI v) ∧ v = R1 ∧ gc_Q R2 m' b ∧ gc_fr b m0 m') Γ 113 [some (gR b)] [] m := by
    intro e
    obtain ⟨e1, e2⟩ := Prod.mk.inj e
    subst e1
    subst e2
    apply r_X10_isKept_113 b hb
    have hd := gd_sh_done hJ hV hs
    have hwf : gd_wf g (gd_done g (gd_sh g)) := gd_wf_uf (gd_wf_rfl g) (by omega) _
    have ne : ∀ o : Nat, o ≠ 117 → gd_done g (gd_sh g) o = g o := fun o ho => gw_up_ne ho
    have at' : ∀ j : Int, j ≠ 22 → gd_done g (gd_sh g) 117 j = g 117 j := fun j hj => by unfold gd_done; rw [gw_up_at, if_neg hj]
    refine ⟨0, rfl, rfl, ⟨gd_wf_JP hwf hJ, hd.2, gc_L_m (gc_L_g hL (gd_pq_wf hwf)) (fun o _ _ => gw_up_ne (by omega)), gc_Rr_m (gc_Rr_g hRr (fun o _ => ne o (by omega)) (at' 6 (by omega))) (fun o _ _ => gw_up_ne (by omega)), gc_tn_congr ht (at' 6 (by omega)) (ne 123 (by omega)) (by rw [gw_up_ne (by omega)]), ?_, ?_⟩, gc_fr_up hf (by omega) _ _⟩
    · show (gw_up m (b + 11) 1 1) b 8 = (gd_done g (gd_sh g)) 117 6 - gd_alive (gd_done g (gd_sh g)) (gd_n (gd_done g (gd_sh g)))
      rw [gw_up_ne (by omega), at' 6 (by omega), gd_wf_n hwf, gd_alive_congr (g := g) (gd_n g) (fun i _ => by rw [ne 131 (by omega)])]
      exact h8
    · refine ⟨?_, ?_, ?_, ?_, ?_, fun hpos => ?_⟩
      · rw [gw_up_ne (by omega), at' 16 (by omega)]; exact h4
      · rw [gw_up_at, if_neg (by omega), at' 17 (by omega)]; exact hH.2.1
      · rw [gw_up_at, if_neg (by omega), at' 18 (by omega)]; exact hH.2.2.1
      · rw [gw_up_at, if_neg (by omega), at' 19 (by omega)]; exact hH.2.2.2.1
      · rw [gw_up_at, if_neg (by omega), at' 20 (by omega)]; exact hH.2.2.2.2.1
      · rw [gw_up_at, if_pos rfl, gw_up_at, if_neg (by omega), at' 21 (by omega)]
        exact ⟨⟨fun z => absurd z (by omega), fun z => by have := hd.1; omega⟩, hB⟩
  unfold gd_kA at hR
  rw [if_neg h17] at hR
  refine ⟨gw_inm (by omega) (by omega), fun h1 => ?_, fun h1 => ?_⟩
  · rw [if_pos h1] at hR
    refine ⟨fun h2 => ?_, fun h2 => ?_⟩
    · rw [if_pos h2] at hR
      exact dn hR
    · rw [if_neg h2] at hR
      refine ⟨fun h3 => ?_, fun h3 => ?_⟩
      · rw [if_pos h3] at hR
        obtain ⟨e1, e2⟩ := Prod.mk.inj hR
        subst e1
        subst e2
        refine ⟨1, rfl, rfl, gc_Q_h hQ (fun o ho => gw_up_ne ho) (fun j hj => by rw [gw_up_at, if_neg (by omega)]) (fun o ho => gw_up_ne ho) ?_, gc_fr_up hf (by omega) _ _⟩
        have es : gd_sh (gw_up g 117 20 (gw_w (g 117 20 + 1))) = gd_sh g := gd_sh_congr (by rw [gw_up_at, if_neg (by omega)]) (by rw [gw_up_at, if_neg (by omega)]) (by rw [gw_up_at, if_neg (by omega)]) (gw_up_ne (by omega)) (gw_up_ne (by omega))
        refine ⟨?_, ?_, ?_, ?_, ?_, fun hpos => ?_⟩
        · rw [gw_up_ne (by omega), gw_up_at, if_neg (by omega)]; exact h4
        · rw [gw_up_at, if_neg (by omega), gw_up_at, if_neg (by omega)]; exact hH.2.1
        · rw [gw_up_at, if_neg (by omega), gw_up_at, if_neg (by omega)]; exact hH.2.2.1
        · rw [gw_up_at, if_neg (by omega), gw_up_at, if_neg (by omega)]; exact hH.2.2.2.1
        · rw [gw_up_at, if_pos rfl, gw_up_at, if_pos rfl]
        · rw [es, gw_up_at, if_neg (by omega), gw_up_at, if_neg (by omega), gw_up_at, if_neg (by omega)]
          exact ⟨hA, hB⟩
      · rw [if_neg h3] at hR
        exact dn hR
  · rw [if_neg h1] at hR
    obtain ⟨e1, e2⟩ := Prod.mk.inj hR
    subst e1
    subst e2
    generalize hg1 : gw_up g 117 19 (gw_w (g 117 19 + 1)) = g1
    generalize hm1 : gw_up m (b + 11) 3 (gw_w (g 117 19 + 1)) = m1
    have no : ∀ o : Nat, o ≠ 117 → g1 o = g o := fun o ho => by rw [← hg1, gw_up_ne ho]
    have nj : ∀ j : Int, j ≠ 19 → g1 117 j = g 117 j := fun j hj => by rw [← hg1, gw_up_at, if_neg hj]
    have mo : ∀ o : Nat, o ≠ b + 11 → m1 o = m o := fun o ho => by rw [← hm1, gw_up_ne ho]
    have mj : ∀ j : Int, j ≠ 3 → m1 (b + 11) j = m (b + 11) j := fun j hj => by rw [← hm1, gw_up_at, if_neg hj]
    have hwf : gd_wf g g1 := gd_wf_ne117 no (fun j hj => nj j (by omega))
    have es : gd_sh g1 = gd_sh g := gd_sh_congr (nj 0 (by omega)) (nj 16 (by omega)) (nj 22 (by omega)) (no 118 (by omega)) (no 119 (by omega))
    have hH1 : gc_H g1 m1 b := by
      refine ⟨?_, ?_, ?_, ?_, ?_, fun hpos => ?_⟩
      · rw [mo b (by omega), nj 16 (by omega)]; exact h4
      · rw [mj 0 (by omega), nj 17 (by omega)]; exact hH.2.1
      · rw [mj 2 (by omega), nj 18 (by omega)]; exact hH.2.2.1
      · rw [← hm1, ← hg1, gw_up_at, if_pos rfl, gw_up_at, if_pos rfl]
      · rw [mj 4 (by omega), nj 20 (by omega)]; exact hH.2.2.2.2.1
      · rw [mj 1 (by omega), mj 5 (by omega), nj 21 (by omega), es]; exact ⟨hA, hB⟩
    have hQ1 : gc_Q g1 m1 b := gc_Q_h hQ no (fun j hj => nj j (by omega)) mo hH1
    refine gw_CV.of (sp_X10_speak b hb g1 m1 hQ1.1 hQ1.2.2.1 hQ1.2.2.2.1 hH1.1) rfl (fun m2 _ h2 => ?_)
    rw [gd_wf_n hwf] at h2
    have sn : ∀ o : Nat, o ≠ 132 → gd_spk g1 (gd_n g) o = g1 o := fun o ho => gd_spk_ne g1 (gd_n g) ho
    have hw2 := gd_spk_wf g1 (gd_n g)
    obtain ⟨a1, a2, a3, a4, a5, a6, a7⟩ := hQ1
    refine ⟨1, rfl, rfl, ⟨gd_wf_JP hw2 a1, gd_V_congr a2 (by rw [sn 117 (by omega)]) (by rw [sn 117 (by omega)]) (by rw [sn 117 (by omega)]) (by rw [sn 117 (by omega)]) (sn 119 (by omega)) (sn 123 (by omega)) (sn 129 (by omega)) (sn 130 (by omega)), gc_L_m (gc_L_g a3 (gd_pq_wf hw2)) (fun o _ _ => h2.2 o (by omega)), h2.1, gc_tn_congr a5 (by rw [sn 117 (by omega)]) (sn 123 (by omega)) (by rw [h2.2 b (by omega)]), ?_, ?_⟩, ?_⟩
    · rw [h2.2 b (by omega), sn 117 (by omega), gd_wf_n hw2, gd_alive_congr (g := g1) (gd_n g1) (fun i _ => by rw [sn 131 (by omega)])]
      exact a6
    · have es2 : gd_sh (gd_spk g1 (gd_n g)) = gd_sh g1 := gd_sh_congr (by rw [sn 117 (by omega)]) (by rw [sn 117 (by omega)]) (by rw [sn 117 (by omega)]) (sn 118 (by omega)) (sn 119 (by omega))
      unfold gc_H
      rw [es2, gd_wl_pq (gd_pq_wf hw2), sn 117 (by omega), h2.2 b (by omega), h2.2 (b + 11) (by omega)]
      exact a7
    · refine gc_fr_tr hf (gc_fr_ne (fun o ho => ?_))
      rw [h2.2 o (by omega), mo o (by omega)]
