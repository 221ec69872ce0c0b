/-! the class: what one is worth -/
/-- what a trial leaves -/
def gc_ft (m m' : gw_Mem) : Prop := (∀ o : Nat, o ≠ 0 → o ≠ 1 → ¬ (65 ≤ o ∧ o ≤ 100) → m' o = m o) ∧ ∀ j : Int, j ≠ 8 → j ≠ 10 → m' 0 j = m 0 j
theorem gc_Res_of {g m : gw_Mem} {b k : Nat} (hJ : gd_JP g) (hY : gc_Y (gd_run (gd_beg g) k) m b) (hS : gd_S (gd_run (gd_beg g) k) (gd_run (gd_beg g) 300)) : gc_Res (gd_walks g) m b (gd_n g) := by
  have hn := gd_n_cast hJ
  have hbw := gd_beg_wf g
  have h6 : gd_run (gd_beg g) k 117 6 = g 117 6 := (gd_wf_tr hbw (gd_run_wf _ k)).2 6 (by omega)
  obtain ⟨⟨hQ, z5, z6, z9⟩, _⟩ := hY
  refine ⟨fun o ho j hj => ?_, ?_, ?_, ?_⟩
  · show m (b + gd_cr o) j = gd_run (gd_beg g) 300 o j
    rw [hS.1 o (by omega) (by omega)]
    exact hQ.2.2.2.1 o ho j (by omega)
  · show m b 5 = gd_run (gd_beg g) 300 117 29
    rw [hS.2 29 (by omega)]; exact z5
  · show m b 6 = gd_run (gd_beg g) 300 117 30
    rw [hS.2 30 (by omega)]; exact z6
  · rw [hQ.2.2.1.2.2.1, h6]; exact hn.1.symm
theorem gd_ov_beg {g : gw_Mem} (hJ : gd_JP g) : ¬ gd_ov (gd_run (gd_beg g) 0) := by
  intro hov
  have b := gd_beg_at g
  have he := hJ.1
  have o1 : gd_beg g 117 16 = gd_beg g 117 0 := hov.1
  rw [b.2.2.1 16 (by omega), b.2.2.2.2.2.1] at o1
  omega
theorem gd_M_run {g : gw_Mem} (k : Nat) (hJ : gd_JP (gd_run (gd_beg g) k)) : gd_M (gd_run (gd_beg g) (k + 1)) := by
  have hw : gd_wf (gd_run (gd_beg g) k) (gd_pp (gd_gg (gd_run (gd_beg g) k) k) k (gd_n (gd_run (gd_beg g) k))) := gd_wf_tr (gd_gg_wf _ _) (gd_pp_wf _ _ _)
  exact gd_M_bh (gd_wf_JP hw hJ) (k : Int) (by omega)
theorem gd_S_ov {g : gw_Mem} {k : Nat} (hk : k ≤ 300) (hJ : gd_JP g) (hY : gd_JP (gd_run (gd_beg g) k) ∧ gd_V (gd_run (gd_beg g) k)) (hM : 0 < k → gd_M (gd_run (gd_beg g) k)) (hov : gd_ov (gd_run (gd_beg g) k)) : gd_S (gd_run (gd_beg g) k) (gd_run (gd_beg g) 300) := by
  have hk0 : 0 < k := Nat.pos_of_ne_zero (fun z => by subst z; exact gd_ov_beg hJ hov)
  have q := gd_still_run hY.1 hY.2 (hM hk0) hov (300 - k)
  rw [show k + (300 - k) = 300 by omega] at q
  exact q
theorem gd_ha_cg {w w' : gw_Mem} (n : Nat) (h : ∀ i : Nat, i < n → w' 132 i = w 132 i) : gd_ha w' n = gd_ha w n := by
  induction n with
  | zero => rfl
  | succ n ih => rw [gd_ha, gd_ha, ih (fun i hi => h i (by omega)), h n (by omega)]
theorem gd_wq_pq {g q : gw_Mem} (h : gd_wf g q) (x : Int) : gd_pq (gd_wq g g x) (gd_wq q g x) := by
  refine ⟨fun o ho => ?_, ?_, ?_⟩
  · unfold gd_wq
    funext j
    have e : q o = g o := h.1 o (by omega) (by omega)
    unfold gw_up
    rw [e]
  · unfold gd_wq
    simp (disch := omega) only [gw_up_ne]
    exact h.2 0 (by omega)
  · unfold gd_wq
    simp (disch := omega) only [gw_up_ne]
    exact h.2 6 (by omega)
theorem gd_wq_pq' (g : gw_Mem) (x : Int) : gd_wl (gd_wq g g x) = gd_wl g ∧ gd_wq g g x 117 = g 117 ∧ gd_wq g g x 122 = g 122 ∧ gd_wq g g x 124 = g 124 := by
  have ne : ∀ o : Nat, o ≠ 123 → o ≠ 125 → gd_wq g g x o = g o := fun o h1 h2 => by unfold gd_wq; rw [gw_up_ne h2, gw_up_ne h1]
  refine ⟨?_, ne 117 (by omega) (by omega), ne 122 (by omega) (by omega), ne 124 (by omega) (by omega)⟩
  funext k y
  unfold gd_wl gd_mk
  rw [ne 117 (by omega) (by omega), ne 118 (by omega) (by omega), ne 120 (by omega) (by omega), gd_ma_congr (ne 119 (by omega) (by omega))]
theorem sp_X11_worth (g m : gw_Mem) (hJ : gd_JP g) (hP : gc_P g m 4) (hW : gc_W g m) (x : Int) : gw_SpecI M_X11_worth 20 [gR 0, gI x] m (fun r m' => r = ga_worth g x ∧ gc_W g m' ∧ gc_ft m m') := by
  refine gw_intro pl_X11_worth rfl (fun Γ => ?_)
  have hnc := gd_n_cast hJ
  have hb83 := gw_isWalk83
  have same : gc_ft m m := ⟨fun _ _ _ _ => rfl, fun _ _ _ => rfl⟩
  apply r_X11_worth_0
  refine gw_CI.eq (sp_X11_isPerson g m hJ hP x) rfl (gw_b_tf (fun h => ?_) (fun h1 => ?_))
  · exact ⟨_, rfl, by rw [ga_worth, if_neg h], hW, same⟩
  have hin : gw_in x 10 := gw_inm (by omega) (by omega)
  have hpk := hP.2.2.2.2.2.1 x (by omega)
  have e19 : m 19 x = g 123 x := hpk.1
  have e21 : m 21 x = g 125 x := hpk.2.2
  have main : ¬ (g 123 x ≠ 3 ∧ g 125 x = 0) → gw_G M_X11_worth 20 (fun r m' => ∃ v, r = some (gI v) ∧ v = ga_worth g x ∧ gc_W g m' ∧ gc_ft m m') Γ 55 [some (gR 0), some (gI x), some (gI (if g 123 x = 3 then 1 else 0)), none] [] m := by
    intro hno
    apply r_X11_worth_55
    refine gw_CV.of (sp_X11_goAlong g m hJ hP hW) rfl (fun m1 _ hm1 => ?_)
    obtain ⟨hW1, h8, hf1⟩ := hm1
    have hP1 : gc_P g m1 4 := gc_P_m hP (fun o _ _ => hf1.1 o (by omega) (by omega) (by omega))
    refine gw_CV.of (sp_X10_load 83 hb83 g m1 hJ hP1) rfl (fun m2 _ hm2 => ?_)
    obtain ⟨hL2, hf2⟩ := hm2
    have hJw : gd_JP (gd_wq g g x) := gd_JP_worth hJ x
    obtain ⟨wl, w117, w122, w124⟩ := gd_wq_pq' g x
    have wn : gd_n (gd_wq g g x) = gd_n g := by unfold gd_n; rw [w117]
    -- from the changed plan on
    have go : ∀ m3 : gw_Mem, gc_L (gd_wq g g x) m3 83 → (∀ o : Nat, ¬ (84 ≤ o ∧ o ≤ 93) → m3 o = m1 o) → gw_G M_X11_worth 20 (fun r m' => ∃ v, r = some (gI v) ∧ v = ga_worth g x ∧ gc_W g m' ∧ gc_ft m m') Γ 103 [some (gR 0), some (gI x), some (gI (if g 123 x = 3 then 1 else 0)), none] [] m3 := by
      intro m3 hL3 hf3
      apply r_X11_worth_103
      refine gw_CV.of (sp_X10_start 83 hb83 (gd_wq g g x) m3 hJw hL3) rfl (fun m4 _ hm4 => ?_)
      have fin : ∀ (k : Nat) (mm : gw_Mem) (y : Int), gc_Y (gd_run (gd_beg (gd_wq g g x)) k) mm 83 → gd_S (gd_run (gd_beg (gd_wq g g x)) k) (gd_run (gd_beg (gd_wq g g x)) 300) → (∀ o : Nat, ¬ (83 ≤ o ∧ o ≤ 100) → mm o = m1 o) → gw_G M_X11_worth 20 (fun r m' => ∃ v, r = some (gI v) ∧ v = ga_worth g x ∧ gc_W g m' ∧ gc_ft m m') Γ 143 [some (gR 0), some (gI x), some (gI (if g 123 x = 3 then 1 else 0)), some (gI y)] [] mm := by
        intro k mm y hY hS hf
        apply r_X11_worth_143
        have hWm : gc_W g mm := gc_W_m hW1 (by rw [hf 0 (by omega)]) (by rw [hf 0 (by omega)]) (hf 1 (by omega)) (fun o ho => hf o (by omega))
        have h8m : mm 0 8 ≠ 0 := by rw [hf 0 (by omega)]; exact h8
        refine gw_CI.eq (sp_X10_heardTogether 65 gw_isWalk65 _ mm _ hnc.2 (hWm h8m).1) rfl ?_
        have hR := gc_Res_of hJw hY hS
        refine gw_CI.eq (sp_X10_heardTogether 83 hb83 _ mm _ (by omega) hR) rfl ⟨_, rfl, ?_, hWm, fun o a c d => ?_, fun j a c => ?_⟩
        · rw [ga_worth, if_pos h1, if_neg hno, wn]
          have hE := gd_E_walks (gd_wq_pq (gd_walks_wf g) x) (N := gd_n g) (by rw [w117]; exact hnc.1.symm) hnc.2
          have e := gd_ha_cg (gd_n g) (fun i hi => gd_E_p hE 132 (by omega) i hi)
          rw [e]
        · rw [hf o (by omega)]; exact hf1.1 o a c (by omega)
        · rw [hf 0 (by omega)]; exact hf1.2 j a c
      have key : ∀ (j k : Nat) (mm : gw_Mem), k + j = 300 → gc_Y (gd_run (gd_beg (gd_wq g g x)) k) mm 83 → (0 < k → gd_M (gd_run (gd_beg (gd_wq g g x)) k)) → (∀ o : Nat, ¬ (83 ≤ o ∧ o ≤ 100) → mm o = m1 o) → gw_G M_X11_worth 20 (fun r m' => ∃ v, r = some (gI v) ∧ v = ga_worth g x ∧ gc_W g m' ∧ gc_ft m m') Γ 112 [some (gR 0), some (gI x), some (gI (if g 123 x = 3 then 1 else 0)), some (gI (k : Int))] [] mm := by
        intro j
        induction j with
        | zero =>
          intro k mm hk hY hM hf
          apply r_X11_worth_112
          refine ⟨fun _ => fin k mm _ hY ?_ hf, fun z => absurd (by omega) z⟩
          rw [show k = 300 by omega]; exact gd_S_rfl _
        | succ j ih =>
          intro k mm hk hY hM hf
          apply r_X11_worth_112
          refine ⟨fun z => absurd z (by omega), fun _ => gw_CI.of (sp_X10_isOver 83 hb83 _ mm hY.1) rfl (fun v m' _ _ hv => ?_)⟩
          obtain ⟨hv, rfl⟩ := hv
          refine ⟨fun h2 => ?_, fun h2 => ?_⟩
          · refine gw_CV.of (sp_X10_live 83 hb83 _ _ (k : Int) (by omega) hY) rfl (fun m5 _ h5 => ?_)
            rw [gw_w1 (by omega)]
            refine ih (k + 1) m5 (by omega) h5.1 (fun _ => gd_M_run k hY.1.1.1) (fun o ho => ?_)
            rw [h5.2 o (by omega)]; exact hf o ho
          · have hov : gd_ov (gd_run (gd_beg (gd_wq g g x)) k) := hv.elim (fun z => absurd z.1 h2) (fun z => z.2)
            exact fin k _ _ hY (gd_S_ov (by omega) hJw ⟨hY.1.1.1, hY.1.1.2.1⟩ hM hov) hf
      refine key 300 0 m4 (by omega) hm4.1 (fun z => absurd z (by omega)) (fun o ho => ?_)
      rw [hm4.2 o (by omega), hf3 o (by omega)]
    have kk : ∀ j : Int, gd_wq g g x 123 j = (if j = x then (if g 123 x = 3 then 0 else g 123 x) else g 123 j) := fun j => by
      unfold gd_wq; rw [gw_up_ne (by omega), gw_up_at]
    have ke : ∀ j : Int, gd_wq g g x 125 j = (if j = x then (if g 123 x = 3 then g 125 x else 0) else g 125 j) := fun j => by
      unfold gd_wq; rw [gw_up_at, gw_up_ne (by omega)]
    obtain ⟨l1, l2, l3, l4, l5⟩ := hL2
    by_cases h3 : g 123 x = 3
    · rw [if_pos h3] at go ⊢
      refine ⟨fun z => absurd z (by omega), fun _ => ⟨hin, go _ ?_ (fun o ho => by rw [gw_up_ne (by omega)]; exact hf2 o (by omega))⟩⟩
      refine ⟨by rw [gw_up_ne (by omega), w117]; exact l1, fun k hk y hy => by rw [gw_up_ne (by omega), wl]; exact l2 k hk y hy, by rw [gw_up_ne (by omega), w117]; exact l3, fun j hj => ?_, fun j hj => by rw [gw_up_ne (by omega), w122]; exact l5 j hj⟩
      rw [w117] at hj
      obtain ⟨q1, q2, q3⟩ := l4 j hj
      rw [kk, ke, w124, if_pos h3, if_pos h3]
      refine ⟨?_, by rw [gw_up_ne (by omega)]; exact q2, ?_⟩
      · show gw_up m2 90 x 0 90 j = _
        rw [gw_up_at]
        split
        · rfl
        · exact q1
      · rw [gw_up_ne (by omega), q3]
        split
        · rename_i e; rw [e]
        · rfl
    · rw [if_neg h3] at go ⊢
      refine ⟨fun _ => ⟨hin, go _ ?_ (fun o ho => by rw [gw_up_ne (by omega)]; exact hf2 o (by omega))⟩, fun z => absurd rfl z⟩
      refine ⟨by rw [gw_up_ne (by omega), w117]; exact l1, fun k hk y hy => by rw [gw_up_ne (by omega), wl]; exact l2 k hk y hy, by rw [gw_up_ne (by omega), w117]; exact l3, fun j hj => ?_, fun j hj => by rw [gw_up_ne (by omega), w122]; exact l5 j hj⟩
      rw [w117] at hj
      obtain ⟨q1, q2, q3⟩ := l4 j hj
      rw [kk, ke, w124, if_neg h3, if_neg h3]
      refine ⟨?_, by rw [gw_up_ne (by omega)]; exact q2, ?_⟩
      · rw [gw_up_ne (by omega), q1]
        split
        · rename_i e; rw [e]
        · rfl
      · show gw_up m2 92 x 0 92 j = _
        rw [gw_up_at]
        split
        · rfl
        · exact q3
  rw [e19, e21]
  refine ⟨hin, fun h2 => ⟨hin, fun h3 => ?_, fun h3 => ?_⟩, fun h2 => ?_⟩
  · have hne : g 123 x ≠ 3 := fun z => by rw [if_pos z] at h2; omega
    exact ⟨_, rfl, by rw [ga_worth, if_pos h1, if_pos (And.intro hne h3)], hW, same⟩
  · exact main (fun z => h3 z.2)
  · exact main (fun z => by rw [if_neg z.1] at h2; exact h2 rfl)
