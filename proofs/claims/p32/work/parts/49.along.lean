/-! the class: the walk as things are -/
def gc_Res (w m : gw_Mem) (b N : Nat) : Prop := (∀ o : Nat, 129 ≤ o ∧ o ≤ 134 → ∀ j : Int, 0 ≤ j ∧ j < N → m (b + gd_cr o) j = w o j) ∧ m b 5 = w 117 29 ∧ m b 6 = w 117 30 ∧ m (b + 6) 0 = N
def gc_row (m : gw_Mem) (t : Int) : Int := max 0 (min t (m 0 10 - 1))
def gc_W (g m : gw_Mem) : Prop := m 0 8 ≠ 0 → gc_Res (gd_walks g) m 65 (gd_n g) ∧ (0 ≤ m 0 10 ∧ m 0 10 ≤ 300) ∧ ∀ t : Int, 0 ≤ t ∧ t < 300 → m 1 (12 * gc_row m t) = gd_walks g 135 (12 * t + 1) ∧ m 1 (12 * gc_row m t + 1) = gd_walks g 135 (12 * t) ∧ ∀ i : Int, 0 ≤ i ∧ i < gd_n g → m 1 (12 * gc_row m t + 2 + i) = gd_walks g 135 (12 * t + 2 + i)
theorem gc_W_pq {g g' m : gw_Mem} (hJ : gd_JP g) (h : gc_W g m) (hg : gd_pq g g') : gc_W g' m := by
  intro h0
  obtain ⟨⟨r1, r2, r3, r4⟩, h2, h3⟩ := h h0
  have hn := gd_n_cast hJ
  have hE := gd_E_walks hg hn.1.symm hn.2
  have hnn : gd_n g' = gd_n g := by unfold gd_n; rw [hg.2.2]
  refine ⟨⟨fun o ho j hj => ?_, ?_, ?_, ?_⟩, h2, fun t ht => ?_⟩
  · rw [hnn] at hj
    rw [hE.2.2.1 o ho j hj]; exact r1 o ho j hj
  · rw [hE.2.1 29 (by omega)]; exact r2
  · rw [hE.2.1 30 (by omega)]; exact r3
  · rw [hnn]; exact r4
  · obtain ⟨a, b, c⟩ := h3 t ht
    refine ⟨?_, ?_, fun i hi => ?_⟩
    · rw [hE.2.2.2.1 _ (by omega) (by omega) (by omega)]; exact a
    · rw [hE.2.2.2.1 _ (by omega) (by omega) (by omega)]; exact b
    · rw [hnn] at hi
      rw [hE.2.2.2.1 _ (by omega) (by omega) (by omega)]; exact c i hi
theorem gc_W_m {g m m' : gw_Mem} (h : gc_W g m) (h8 : m' 0 8 = m 0 8) (h10 : m' 0 10 = m 0 10) (h1 : m' 1 = m 1) (hw : ∀ o : Nat, 65 ≤ o ∧ o ≤ 82 → m' o = m o) : gc_W g m' := by
  intro h0
  rw [h8] at h0
  obtain ⟨⟨r1, r2, r3, r4⟩, h2, h3⟩ := h h0
  have hr : ∀ t : Int, gc_row m' t = gc_row m t := fun t => by unfold gc_row; rw [h10]
  refine ⟨⟨fun o ho j hj => ?_, ?_, ?_, ?_⟩, by rw [h10]; exact h2, fun t ht => ?_⟩
  · have := gd_cr_rng ho
    rw [hw _ (by omega)]; exact r1 o ho j hj
  · rw [hw 65 (by omega)]; exact r2
  · rw [hw 65 (by omega)]; exact r3
  · rw [hw (65 + 6) (by omega)]; exact r4
  · rw [hr, h1]; exact h3 t ht
/-- what going along leaves -/
def gc_fa (m m' : gw_Mem) : Prop := (∀ o : Nat, o ≠ 0 → o ≠ 1 → ¬ (65 ≤ o ∧ o ≤ 82) → m' o = m o) ∧ ∀ j : Int, j ≠ 8 → j ≠ 10 → m' 0 j = m 0 j
theorem gw_isWalk65 : gw_isWalk 65 := Or.inl rfl
theorem gw_isWalk83 : gw_isWalk 83 := Or.inr rfl
theorem sp_X11_writeTrail (w m : gw_Mem) (k : Nat) (hk : k < 300) (h : gc_Z w m 65) : gw_SpecV M_X11_writeTrail 11 [gR 0, gI (12 * (k : Int))] m (fun m' => (∀ o : Nat, o ≠ 1 → m' o = m o) ∧ m' 1 (12 * k) = gd_o w ∧ m' 1 (12 * k + 1) = w 117 16 ∧ (∀ i : Int, 0 ≤ i ∧ i < gd_n w → m' 1 (12 * k + 2 + i) = w 129 i) ∧ ∀ j : Int, j < 12 * k → m' 1 j = m 1 j) := by
  refine gw_intro pl_X11_writeTrail rfl (fun Γ => ?_)
  have hJ := h.1.1
  have hn := gd_n_cast hJ
  apply r_X11_writeTrail_0
  refine gw_CI.eq (sp_X10_out 65 gw_isWalk65 w m hJ h.1.2.1 h.1.2.2.2.2.2.2.1 h.2.2.2) rfl ?_
  have e4 : (gw_up m 1 (12 * (k : Int)) (gd_o w)) 65 4 = w 117 16 := by rw [gw_up_ne (by omega)]; exact h.1.2.2.2.2.2.2.1
  rw [e4, gw_w_id (x := 12 * (k : Int) + 1) (by omega)]
  refine ⟨gw_inm (by omega) (by omega), gw_inm (by omega) (by omega), ?_⟩
  have key : ∀ (j i : Nat) (q : gw_Mem), i + j = gd_n w → (∀ o : Nat, o ≠ 1 → q o = m o) → q 1 (12 * k) = gd_o w → q 1 (12 * k + 1) = w 117 16 → (∀ a : Int, 0 ≤ a ∧ a < i → q 1 (12 * k + 2 + a) = w 129 a) → (∀ a : Int, a < 12 * k → q 1 a = m 1 a) →
      gw_G M_X11_writeTrail 11 (fun r m' => r = none ∧ (∀ o : Nat, o ≠ 1 → m' o = m o) ∧ m' 1 (12 * k) = gd_o w ∧ m' 1 (12 * k + 1) = w 117 16 ∧ (∀ i : Int, 0 ≤ i ∧ i < gd_n w → m' 1 (12 * k + 2 + i) = w 129 i) ∧ ∀ j : Int, j < 12 * k → m' 1 j = m 1 j) Γ 30 [some (gR 0), some (gI (12 * (k : Int))), some (gI (i : Int))] [] q := by
    intro j
    induction j with
    | zero =>
      intro i q hi q1 q2 q3 q4 q5
      apply r_X11_writeTrail_30
      have h71 : q 71 0 = w 117 6 := by rw [q1 71 (by omega)]; exact h.1.2.2.1.2.2.1
      rw [h71]
      exact ⟨fun _ => ⟨rfl, q1, q2, q3, fun a ha => q4 a (by omega), q5⟩, fun z => absurd (by omega) z⟩
    | succ j ih =>
      intro i q hi q1 q2 q3 q4 q5
      apply r_X11_writeTrail_30
      have h71 : q 71 0 = w 117 6 := by rw [q1 71 (by omega)]; exact h.1.2.2.1.2.2.1
      have h77 : q 77 (i : Int) = w 129 i := by rw [q1 77 (by omega)]; exact h.1.2.2.2.1 129 (by omega) i (by omega)
      rw [h71, h77, gw_w_id (x := 12 * (k : Int) + 2) (by omega), gw_w_id (x := 12 * (k : Int) + 2 + i) (by omega), gw_w1 (by omega)]
      refine ⟨fun z => absurd z (by omega), fun _ => ⟨gw_inm (by omega) (by omega), gw_inm (by omega) (by omega), ?_⟩⟩
      refine ih (i + 1) _ (by omega) (fun o ho => by rw [gw_up_ne ho]; exact q1 o ho) ?_ ?_ (fun a ha => ?_) (fun a ha => ?_)
      · rw [gw_up_at, if_neg (by omega)]; exact q2
      · rw [gw_up_at, if_neg (by omega)]; exact q3
      · rw [gw_up_at]
        by_cases e : a = i
        · rw [if_pos (by omega), e]
        · rw [if_neg (by omega)]; exact q4 a (by omega)
      · rw [gw_up_at, if_neg (by omega)]; exact q5 a ha
  refine key (gd_n w) 0 _ (by omega) (fun o ho => by rw [gw_up_ne ho, gw_up_ne ho]) ?_ ?_ (fun a ha => by omega) (fun a ha => ?_)
  · rw [gw_up_at, if_neg (by omega), gw_up_at, if_pos rfl]
  · rw [gw_up_at, if_pos rfl]
  · rw [gw_up_at, if_neg (by omega), gw_up_at, if_neg (by omega)]
/-- the film of the whole walk, minute by minute -/
theorem gd_walks_film {g : gw_Mem} (hJ : gd_JP g) (t : Nat) (ht : t < 300) : gd_walks g 135 (12 * t) = gd_run (gd_beg g) (t + 1) 117 16 ∧ gd_walks g 135 (12 * t + 1) = gd_o (gd_run (gd_beg g) (t + 1)) ∧ ∀ i : Int, 0 ≤ i ∧ i < gd_n g → gd_walks g 135 (12 * t + 2 + i) = gd_run (gd_beg g) (t + 1) 129 i := by
  have hn := gd_n_cast hJ
  have hnb : gd_n (gd_beg g) = gd_n g := gd_wf_n (gd_beg_wf g)
  have hnr : gd_n (gd_run (gd_beg g) t) = gd_n g := by rw [gd_wf_n (gd_run_wf _ _), hnb]
  have e : ∀ j : Int, 12 * (t : Int) ≤ j ∧ j < 12 * t + 12 → gd_walks g 135 j = gd_min (gd_run (gd_beg g) t) t 135 j := by
    intro j hj
    have h := gd_run_film (g0 := gd_beg g) (by omega) t j hj (299 - t)
    rw [show t + 1 + (299 - t) = 300 by omega] at h
    unfold gd_walks
    rw [h]
    rfl
  have er : gd_run (gd_beg g) (t + 1) = gd_min (gd_run (gd_beg g) t) t := rfl
  rw [er]
  refine ⟨?_, ?_, fun i hi => ?_⟩
  · rw [e _ (by omega), gd_min_film, if_pos rfl]
  · rw [e _ (by omega), gd_min_film, if_neg (by omega), if_pos rfl]
  · rw [e _ (by omega), gd_min_film, if_neg (by omega), if_neg (by omega), if_pos (by omega)]
    congr 1
    omega
theorem sp_X11_goAlong (g m : gw_Mem) (hJ : gd_JP g) (hP : gc_P g m 4) (hW : gc_W g m) : gw_SpecV M_X11_goAlong 16 [gR 0] m (fun m' => gc_W g m' ∧ m' 0 8 ≠ 0 ∧ gc_fa m m') := by
  refine gw_intro pl_X11_goAlong rfl (fun Γ => ?_)
  have hn := gd_n_cast hJ
  have hend := hJ.1
  have hbw := gd_beg_wf g
  have hnb : gd_n (gd_beg g) = gd_n g := gd_wf_n hbw
  apply r_X11_goAlong_0
  refine ⟨fun h0 => ?_, fun h0 => ⟨rfl, hW, h0, fun _ _ _ _ => rfl, fun _ _ _ => rfl⟩⟩
  refine gw_CV.of (sp_X10_load 65 gw_isWalk65 g m hJ hP) rfl (fun m1 _ h1 => ?_)
  refine gw_CV.of (sp_X10_start 65 gw_isWalk65 g m1 hJ h1.1) rfl (fun m2 _ h2 => ?_)
  have last : ∀ (k : Nat) (mm : gw_Mem), 1 ≤ k → k ≤ 300 → gc_Y (gd_run (gd_beg g) k) mm 65 → (∀ t : Nat, k ≤ t → t ≤ 300 → gd_S (gd_run (gd_beg g) k) (gd_run (gd_beg g) t)) → mm 0 10 = k → (∀ t : Nat, t < k → mm 1 (12 * t) = gd_o (gd_run (gd_beg g) (t + 1)) ∧ mm 1 (12 * t + 1) = gd_run (gd_beg g) (t + 1) 117 16 ∧ ∀ i : Int, 0 ≤ i ∧ i < gd_n g → mm 1 (12 * t + 2 + i) = gd_run (gd_beg g) (t + 1) 129 i) → gc_fa m mm →
      gw_G M_X11_goAlong 16 (fun r m' => r = none ∧ gc_W g m' ∧ m' 0 8 ≠ 0 ∧ gc_fa m m') Γ 79 [some (gR 0), some (gI (k : Int))] [] mm := by
    intro k mm hk1 hk2 hY hS h10 hT hf
    apply r_X11_goAlong_79
    have hnr : gd_n (gd_run (gd_beg g) k) = gd_n g := by rw [gd_wf_n (gd_run_wf _ _), hnb]
    have h6 : gd_run (gd_beg g) k 117 6 = g 117 6 := (gd_wf_tr hbw (gd_run_wf _ k)).2 6 (by omega)
    refine ⟨rfl, ?_, by rw [gw_up_at, if_pos rfl]; omega, fun o a c d => by rw [gw_up_ne a]; exact hf.1 o a c d, fun j a c => by rw [gw_up_at, if_neg a]; exact hf.2 j a c⟩
    intro _
    obtain ⟨⟨hQ, z5, z6, z9⟩, _⟩ := hY
    have hS3 := hS 300 hk2 (Nat.le_refl _)
    have u10 : (gw_up mm 0 8 1) 0 10 = k := by rw [gw_up_at, if_neg (by omega)]; exact h10
    refine ⟨⟨fun o ho j hj => ?_, ?_, ?_, ?_⟩, by rw [u10]; omega, fun t ht => ?_⟩
    · have hc := gd_cr_rng ho
      rw [gw_up_ne (by omega)]
      show mm (65 + gd_cr o) j = gd_run (gd_beg g) 300 o j
      rw [hS3.1 o (by omega) (by omega)]
      exact hQ.2.2.2.1 o ho j (by omega)
    · rw [gw_up_ne (by omega)]
      show mm 65 5 = gd_run (gd_beg g) 300 117 29
      rw [hS3.2 29 (by omega)]; exact z5
    · rw [gw_up_ne (by omega)]
      show mm 65 6 = gd_run (gd_beg g) 300 117 30
      rw [hS3.2 30 (by omega)]; exact z6
    · rw [gw_up_ne (by omega), hQ.2.2.1.2.2.1, h6]; exact hn.1.symm
    · obtain ⟨s, rfl⟩ := gw_nat ht.1
      obtain ⟨f1, f2, f3⟩ := gd_walks_film hJ s (by omega)
      have hrow : gc_row (gw_up mm 0 8 1) (s : Int) = ((min s (k - 1) : Nat) : Int) := by unfold gc_row; rw [u10]; omega
      rw [hrow, f1, f2, gw_up_ne (by omega)]
      obtain ⟨t1, t2, t3⟩ := hT (min s (k - 1)) (by omega)
      have same : gd_o (gd_run (gd_beg g) (min s (k - 1) + 1)) = gd_o (gd_run (gd_beg g) (s + 1)) ∧ gd_run (gd_beg g) (min s (k - 1) + 1) 117 16 = gd_run (gd_beg g) (s + 1) 117 16 ∧ gd_run (gd_beg g) (min s (k - 1) + 1) 129 = gd_run (gd_beg g) (s + 1) 129 := by
        by_cases hs : s < k
        · rw [show min s (k - 1) = s by omega]; exact ⟨rfl, rfl, rfl⟩
        · rw [show min s (k - 1) + 1 = k by omega]
          have q := hS (s + 1) (by omega) (by omega)
          have hnq : gd_n (gd_run (gd_beg g) (s + 1)) = gd_n g := by rw [gd_wf_n (gd_run_wf _ _), hnb]
          refine ⟨?_, (q.2 16 (by omega)).symm, (q.1 129 (by omega) (by omega)).symm⟩
          unfold gd_o
          rw [hnr, hnq, q.2 16 (by omega), gd_ll_congr (gd_n g) (q.1 131 (by omega) (by omega)) (q.1 129 (by omega) (by omega))]
      rw [same.1] at t1
      rw [same.2.1] at t2
      refine ⟨t1, t2, fun i hi => ?_⟩
      rw [f3 i hi, ← same.2.2]
      exact t3 i hi
  have key : ∀ (j k : Nat) (mm : gw_Mem), k + j = 300 → gc_Y (gd_run (gd_beg g) k) mm 65 → (0 < k → gd_M (gd_run (gd_beg g) k)) → mm 0 10 = k → (∀ t : Nat, t < k → mm 1 (12 * t) = gd_o (gd_run (gd_beg g) (t + 1)) ∧ mm 1 (12 * t + 1) = gd_run (gd_beg g) (t + 1) 117 16 ∧ ∀ i : Int, 0 ≤ i ∧ i < gd_n g → mm 1 (12 * t + 2 + i) = gd_run (gd_beg g) (t + 1) 129 i) → gc_fa m mm →
      gw_G M_X11_goAlong 16 (fun r m' => r = none ∧ gc_W g m' ∧ m' 0 8 ≠ 0 ∧ gc_fa m m') Γ 33 [some (gR 0), some (gI (k : Int))] [] mm := by
    intro j
    induction j with
    | zero =>
      intro k mm hk hY hM h10 hT hf
      apply r_X11_goAlong_33
      refine ⟨fun _ => ?_, fun z => absurd (by omega) z⟩
      refine last k mm (by omega) (by omega) hY (fun t h1 h2 => ?_) h10 hT hf
      rw [show t = k by omega]; exact gd_S_rfl _
    | succ j ih =>
      intro k mm hk hY hM h10 hT hf
      apply r_X11_goAlong_33
      refine ⟨fun z => absurd z (by omega), fun _ => ?_⟩
      refine gw_CI.of (sp_X10_isOver 65 gw_isWalk65 _ mm hY.1) rfl (fun v m' _ _ hv => ?_)
      obtain ⟨hv, rfl⟩ := hv
      refine ⟨fun h2 => ?_, fun h2 => ?_⟩
      · refine gw_CV.of (sp_X10_live 65 gw_isWalk65 _ _ (k : Int) (by omega) hY) rfl (fun m4 _ h4 => ?_)
        rw [show gw_w ((k : Int) * 12) = 12 * (k : Int) by rw [gw_w_id (by omega)]; omega, gw_w1 (by omega)]
        have h4Y : gc_Y (gd_run (gd_beg g) (k + 1)) m4 65 := h4.1
        refine gw_CV.of (sp_X11_writeTrail (gd_run (gd_beg g) (k + 1)) m4 k (by omega) h4Y.1) rfl (fun m5 _ h5 => ?_)
        obtain ⟨a1, a2, a3, a4, a5⟩ := h5
        have hnk : gd_n (gd_run (gd_beg g) (k + 1)) = gd_n g := by rw [gd_wf_n (gd_run_wf _ _), hnb]
        have e1 : ∀ o : Nat, 65 ≤ o → (gw_up m5 0 10 ((k + 1 : Nat) : Int)) o = m4 o := fun o ho => by rw [gw_up_ne (by omega), a1 o (by omega)]
        have eY : gc_Y (gd_run (gd_beg g) (k + 1)) (gw_up m5 0 10 ((k + 1 : Nat) : Int)) 65 := by
          obtain ⟨⟨hQ, z5, z6, z9⟩, hWW⟩ := h4Y
          refine ⟨⟨?_, by rw [e1 65 (by omega)]; exact z5, by rw [e1 65 (by omega)]; exact z6, by unfold gc_9 at z9 ⊢; rw [e1 65 (by omega)]; exact z9⟩, hWW⟩
          obtain ⟨q1, q2, q3, q4, q5, q6, q7⟩ := hQ
          refine ⟨q1, q2, gc_L_m q3 (fun o _ _ => e1 o (by omega)), gc_Rr_m q4 (fun o _ _ => e1 o (by omega)), ?_, by rw [e1 65 (by omega)]; exact q6, ?_⟩
          · unfold gc_tn at q5 ⊢; rw [e1 65 (by omega)]; exact q5
          · unfold gc_H at q7 ⊢; rw [e1 65 (by omega), e1 (65 + 11) (by omega)]; exact q7
        refine ih (k + 1) _ (by omega) eY (fun _ => ?_) (by rw [gw_up_at, if_pos rfl]) (fun t ht => ?_) ⟨fun o b c d => ?_, fun i b c => ?_⟩
        · have hq := hY.1.1
          have hw : gd_wf (gd_run (gd_beg g) k) (gd_pp (gd_gg (gd_run (gd_beg g) k) k) k (gd_n (gd_run (gd_beg g) k))) := gd_wf_tr (gd_gg_wf _ _) (gd_pp_wf _ _ _)
          exact gd_M_bh (gd_wf_JP hw hq.1) (k : Int) (by omega)
        · rw [gw_up_ne (by omega)]
          by_cases e : t = k
          · subst e
            refine ⟨a2, a3, fun i hi => a4 i (by omega)⟩
          · obtain ⟨t1, t2, t3⟩ := hT t (by omega)
            have hm1 : ∀ x : Int, x < 12 * k → m5 1 x = m' 1 x := fun x hx => by rw [a5 x hx, h4.2 1 (by omega)]
            refine ⟨by rw [hm1 _ (by omega)]; exact t1, by rw [hm1 _ (by omega)]; exact t2, fun i hi => by rw [hm1 _ (by omega)]; exact t3 i hi⟩
        · rw [gw_up_ne b, a1 o c, h4.2 o (by omega)]; exact hf.1 o b c d
        · rw [gw_up_at, if_neg c, a1 0 (by omega), h4.2 0 (by omega)]; exact hf.2 i b c
      · have hov : gd_ov (gd_run (gd_beg g) k) := by
          rcases hv with z | z
          · exact absurd z.1 h2
          · exact z.2
        have hk0 : 0 < k := by
          refine Nat.pos_of_ne_zero (fun z => ?_)
          subst z
          have b := gd_beg_at g
          have o1 : gd_beg g 117 16 = gd_beg g 117 0 := hov.1
          rw [b.2.2.1 16 (by omega), b.2.2.2.2.2.1] at o1
          omega
        refine last k _ (by omega) (by omega) hY (fun t h3 h4 => ?_) h10 hT hf
        have q := gd_still_run hY.1.1.1 hY.1.1.2.1 (hM hk0) hov (t - k)
        rw [show k + (t - k) = t by omega] at q
        exact q
  refine key 300 0 _ (by omega) ?_ (fun z => absurd z (by omega)) (by rw [gw_up_at, if_pos rfl]; rfl) (fun t ht => absurd ht (by omega)) ⟨fun o b c d => ?_, fun i b c => ?_⟩
  · obtain ⟨⟨hQ, z5, z6, z9⟩, hWW⟩ := h2.1
    have e1 : ∀ o : Nat, 65 ≤ o → (gw_up m2 0 10 0) o = m2 o := fun o ho => gw_up_ne (by omega)
    refine ⟨⟨?_, by rw [e1 65 (by omega)]; exact z5, by rw [e1 65 (by omega)]; exact z6, by unfold gc_9 at z9 ⊢; rw [e1 65 (by omega)]; exact z9⟩, hWW⟩
    obtain ⟨q1, q2, q3, q4, q5, q6, q7⟩ := hQ
    refine ⟨q1, q2, gc_L_m q3 (fun o _ _ => e1 o (by omega)), gc_Rr_m q4 (fun o _ _ => e1 o (by omega)), ?_, by rw [e1 65 (by omega)]; exact q6, ?_⟩
    · unfold gc_tn at q5 ⊢; rw [e1 65 (by omega)]; exact q5
    · unfold gc_H at q7 ⊢; rw [e1 65 (by omega), e1 (65 + 11) (by omega)]; exact q7
  · rw [gw_up_ne b, h2.2 o (by omega), h1.2 o (by omega)]
  · rw [gw_up_at, if_neg c, h2.2 0 (by omega), h1.2 0 (by omega)]
