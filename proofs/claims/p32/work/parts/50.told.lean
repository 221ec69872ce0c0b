/-! the class: what is told of the walk -/
theorem gd_spk_at (g : gw_Mem) (n : Nat) (h : ∀ j : Int, 0 ≤ j ∧ j < n → 0 ≤ g 132 j ∧ g 132 j ≤ 1000) : ∀ j : Int, 0 ≤ j → (j < n → g 132 j ≤ gd_spk g n 132 j ∧ gd_spk g n 132 j ≤ g 132 j + 1) ∧ (n ≤ j → gd_spk g n 132 j = g 132 j) := by
  induction n with
  | zero => exact fun j h0 => ⟨fun z => by omega, fun _ => rfl⟩
  | succ n ih =>
    intro j hj
    have q := ih (fun i hi => h i (by omega)) j hj
    rw [gd_spk, gw_up_at]
    have hnr := gd_nr01 (gd_spk g n) n (if gd_spk g n 125 n = 1 then 3 else 1)
    by_cases e : j = n
    · subst e
      rw [if_pos rfl]
      have hz := h n (by omega)
      rw [q.2 (by omega), gw_w_id (by omega)]
      exact ⟨fun _ => by omega, fun z => by omega⟩
    · rw [if_neg e]
      exact ⟨fun z => q.1 (by omega), fun z => q.2 (by omega)⟩
/-- how much one can have heard -/
def gd_X (g : gw_Mem) (k : Int) : Prop := ∀ j : Int, 0 ≤ j ∧ j < gd_n g → 0 ≤ g 132 j ∧ g 132 j ≤ k
theorem gd_kA_132 {g : gw_Mem} (k : Int) (h : ∀ j : Int, 0 ≤ j ∧ j < gd_n g → 0 ≤ g 132 j ∧ g 132 j ≤ 1000) : ∀ j : Int, 0 ≤ j ∧ j < gd_n g → g 132 j ≤ (gd_kA g k).2 132 j ∧ (gd_kA g k).2 132 j ≤ g 132 j + 1 := by
  intro j hj
  unfold gd_kA gd_done
  repeat' split
  all_goals dsimp only
  · exact ⟨Int.le_refl _, by omega⟩
  · rw [gw_up_ne (by omega)]; exact ⟨Int.le_refl _, by omega⟩
  · rw [gw_up_ne (by omega)]; exact ⟨Int.le_refl _, by omega⟩
  · rw [gw_up_ne (by omega)]; exact ⟨Int.le_refl _, by omega⟩
  · have q := (gd_spk_at (gw_up g 117 19 (gw_w (g 117 19 + 1))) (gd_n g) (fun i hi => by rw [gw_up_ne (by omega)]; exact h i hi) j hj.1).1 hj.2
    rw [gw_up_ne (o := 117) (q := 132) (by omega)] at q
    exact q
theorem gd_gg_132 {g : gw_Mem} (t : Int) (h : ∀ j : Int, 0 ≤ j ∧ j < gd_n g → 0 ≤ g 132 j ∧ g 132 j ≤ 1000) : ∀ j : Int, 0 ≤ j ∧ j < gd_n g → g 132 j ≤ gd_gg g t 132 j ∧ gd_gg g t 132 j ≤ g 132 j + 1 := by
  intro j hj
  have hk : g 132 j ≤ (gd_kp g).2 132 j ∧ (gd_kp g).2 132 j ≤ g 132 j + 1 := by
    unfold gd_kp
    have b132 : gd_bgm g 132 = g 132 := by unfold gd_bgm; rw [gw_up_ne (by omega), gw_up_ne (by omega)]
    have bn : gd_n (gd_bgm g) = gd_n g := gd_wf_n (gd_bgm_wf g)
    repeat' split
    · have q := gd_kA_132 (g := gd_bgm g) (gd_sh g) (fun i hi => by rw [bn] at hi; rw [b132]; exact h i hi) j (by rw [bn]; exact hj)
      rw [b132] at q
      exact q
    · exact gd_kA_132 _ h j hj
    · exact ⟨Int.le_refl _, by dsimp only; omega⟩
  unfold gd_gg
  repeat' split
  · exact ⟨Int.le_refl _, by omega⟩
  · unfold gd_gA gd_ar
    rw [gw_up_ne (by omega)]
    split
    · rw [(gd_gs_at _ t _).1 132 (by omega)]; exact hk
    · rw [(gd_clr_at _).1 132 (by omega), (gd_gs_at _ t _).1 132 (by omega)]; exact hk
  · exact hk
theorem gd_min_132 (g : gw_Mem) (t : Int) : gd_min g t 132 = gd_gg g t 132 := by
  unfold gd_min
  rw [(gd_bh_at _ t).1 132 (by omega) (by omega), gd_bs_ne _ t _ 132 (by omega) (by omega), gd_pp_ne _ t _ 132 (by omega)]
theorem gd_X_run (g : gw_Mem) (k : Nat) (hk : k ≤ 300) : gd_X (gd_run (gd_beg g) k) k := by
  induction k with
  | zero =>
    intro j hj
    have hnb : gd_n (gd_run (gd_beg g) 0) = gd_n g := gd_wf_n (gd_beg_wf g)
    rw [hnb] at hj
    have := (gd_beg_at g).2.1 132 (by omega) j hj
    show 0 ≤ gd_beg g 132 j ∧ gd_beg g 132 j ≤ 0
    rw [this]
    simp [gd_iv]
  | succ k ih =>
    intro j hj
    have h := ih (by omega)
    have hn : gd_n (gd_run (gd_beg g) (k + 1)) = gd_n (gd_run (gd_beg g) k) := gd_wf_n (gd_min_wf _ _)
    rw [hn] at hj
    have q := gd_gg_132 (g := gd_run (gd_beg g) k) (k : Int) (fun i hi => by have := h i hi; omega) j hj
    have hj2 := h j hj
    show 0 ≤ gd_min (gd_run (gd_beg g) k) k 132 j ∧ gd_min (gd_run (gd_beg g) k) k 132 j ≤ ((k + 1 : Nat) : Int)
    rw [gd_min_132]
    omega
theorem sp_X10_heardTogether (b : Nat) (hb : gw_isWalk b) (w m : gw_Mem) (N : Nat) (hN : N ≤ 10) (h : gc_Res w m b N) : gw_SpecI M_X10_heardTogether 10 [gR b] m (fun r m' => r = gd_ha w N ∧ m' = m) := by
  refine gw_intro pl_X10_heardTogether rfl (fun Γ => ?_)
  apply r_X10_heardTogether_0 b hb
  have key : ∀ (j i : Nat), i + j = N → gw_G M_X10_heardTogether 10 (fun r m' => ∃ v, r = some (gI v) ∧ v = gd_ha w N ∧ m' = m) Γ 4 [some (gR b), some (gI (gd_ha w i)), some (gI (i : Int))] [] m := by
    intro j
    induction j with
    | zero =>
      intro i hi
      apply r_X10_heardTogether_4 b hb
      rw [h.2.2.2]
      refine ⟨fun _ => gw_rE ?_ rfl, fun z => absurd (by omega) z⟩
      rw [show i = N by omega]
    | succ j ih =>
      intro i hi
      apply r_X10_heardTogether_4 b hb
      have e : m (b + 14) (i : Int) = w 132 i := h.1 132 (by omega) i (by omega)
      rw [h.2.2.2, e, gw_w1 (by omega)]
      exact ⟨fun z => absurd z (by omega), fun _ => ⟨gw_inm (by omega) (by omega), ih (i + 1) (by omega)⟩⟩
  exact key N 0 (by omega)
theorem gd_lof_pos {w : gw_Mem} (n : Nat) (h : ∀ j : Int, 0 ≤ j ∧ j < n → 0 ≤ w 132 j) : 0 < n → 0 ≤ gd_lof w n := by
  induction n with
  | zero => intro z; omega
  | succ n ih =>
    intro _
    have a := h n (by omega)
    rw [gd_lof]
    split
    · exact a
    · split <;> omega
theorem sp_X10_leastHeard (b : Nat) (hb : gw_isWalk b) (w m : gw_Mem) (N : Nat) (hN : N ≤ 10) (h : gc_Res w m b N) (hx : ∀ j : Int, 0 ≤ j ∧ j < N → 0 ≤ w 132 j) : gw_SpecI M_X10_leastHeard 10 [gR b] m (fun r m' => r = gd_lof w N ∧ m' = m) := by
  refine gw_intro pl_X10_leastHeard rfl (fun Γ => ?_)
  apply r_X10_leastHeard_0 b hb _ (by decide)
  have key : ∀ (j i : Nat), i + j = N → gw_G M_X10_leastHeard 10 (fun r m' => ∃ v, r = some (gI v) ∧ v = gd_lof w N ∧ m' = m) Γ 5 [some (gR b), some (gI (gd_lof w i)), some (gI (i : Int))] [] m := by
    intro j
    induction j with
    | zero =>
      intro i hi
      apply r_X10_leastHeard_5 b hb _ _ _ (by decide)
      rw [h.2.2.2]
      refine ⟨fun _ => gw_rE ?_ rfl, fun z => absurd (by omega) z⟩
      rw [show i = N by omega]
    | succ j ih =>
      intro i hi
      apply r_X10_leastHeard_5 b hb _ _ _ (by decide)
      have e : m (b + 14) (i : Int) = w 132 i := h.1 132 (by omega) i (by omega)
      have hin : gw_in (i : Int) 10 := gw_inm (by omega) (by omega)
      rw [h.2.2.2, e, gw_w1 (by omega)]
      refine ⟨fun z => absurd z (by omega), fun _ => ⟨fun _ => hin, fun _ => hin, ?_⟩⟩
      have h1 := ih (i + 1) (by omega)
      have e2 : gd_lof w (i + 1) = if (i : Int) = 0 then w 132 i else min (gd_lof w i) (w 132 i) := by
        rw [gd_lof]
        by_cases z : i = 0
        · subst z
          rw [if_pos (by show (-4 : Int) < 0; omega), if_pos (by omega)]
        · have p := gd_lof_pos i (fun k hk => hx k (by omega)) (by omega)
          rw [if_neg (show ¬ gd_lof w i < 0 by omega), if_neg (show ¬ (i : Int) = 0 by omega)]
          split <;> omega
      rw [e2] at h1
      exact h1
  exact key N 0 (by omega)
theorem sp_X10_allThere (b : Nat) (hb : gw_isWalk b) (w m : gw_Mem) (N : Nat) (hN : N ≤ 10) (hw : gd_n w = N) (h : gc_Res w m b N) : gw_SpecI M_X10_allThere 10 [gR b] m (fun r m' => r = gd_alt w ∧ m' = m) := by
  refine gw_intro pl_X10_allThere rfl (fun Γ => ?_)
  apply r_X10_allThere_0 b hb _ (by decide)
  have key : ∀ (j i : Nat), i + j = N → gd_nt w i = 0 → gw_G M_X10_allThere 10 (fun r m' => ∃ v, r = some (gI v) ∧ v = gd_alt w ∧ m' = m) Γ 5 [some (gR b), some (gI (gd_mx w i)), some (gI (i : Int))] [] m := by
    intro j
    induction j with
    | zero =>
      intro i hi h0
      apply r_X10_allThere_5 b hb _ _ _ (by decide)
      rw [h.2.2.2]
      refine ⟨fun _ => gw_rE ?_ rfl, fun z => absurd (by omega) z⟩
      have ei : i = N := by omega
      rw [gd_alt, hw, ← ei, if_pos h0]
    | succ j ih =>
      intro i hi h0
      apply r_X10_allThere_5 b hb _ _ _ (by decide)
      have e : m (b + 16) (i : Int) = w 134 i := h.1 134 (by omega) i (by omega)
      have hin : gw_in (i : Int) 10 := gw_inm (by omega) (by omega)
      rw [h.2.2.2, e, gw_w1 (by omega)]
      have z : gd_nt w (i + 1) = gd_nt w i + (if w 134 (i : Int) < 0 then 1 else 0) := rfl
      refine ⟨fun q => absurd q (by omega), fun _ => ⟨hin, fun h1 => ⟨hin, ?_⟩, fun h1 => gw_rE ?_ rfl⟩⟩
      · have e2 : max (gd_mx w i) (w 134 (i : Int)) = gd_mx w (i + 1) := by
          rw [gd_mx]
          split <;> omega
        rw [e2]
        exact ih (i + 1) (by omega) (by rw [z, if_neg (by omega)]; omega)
      · have q := gd_nt_mono w (i + 1) j
        rw [z, if_pos (by omega), show i + 1 + j = N by omega] at q
        rw [gd_alt, hw, if_neg (by omega)]
  exact key N 0 (by omega) rfl
theorem sp_X10_lostSet (b : Nat) (hb : gw_isWalk b) (w m : gw_Mem) (N : Nat) (hN : N ≤ 10) (h : gc_Res w m b N) : gw_SpecI M_X10_lostSet 10 [gR b] m (fun r m' => r = gd_ls w N ∧ m' = m) := by
  refine gw_intro pl_X10_lostSet rfl (fun Γ => ?_)
  apply r_X10_lostSet_0 b hb
  have key : ∀ (j i : Nat), i + j = N → gw_G M_X10_lostSet 10 (fun r m' => ∃ v, r = some (gI v) ∧ v = gd_ls w N ∧ m' = m) Γ 4 [some (gR b), some (gI (gd_ls w i)), some (gI (i : Int))] [] m := by
    intro j
    induction j with
    | zero =>
      intro i hi
      apply r_X10_lostSet_4 b hb
      rw [h.2.2.2]
      refine ⟨fun _ => gw_rE ?_ rfl, fun z => absurd (by omega) z⟩
      rw [show i = N by omega]
    | succ j ih =>
      intro i hi
      apply r_X10_lostSet_4 b hb
      have e : m (b + 17) (i : Int) = w 131 i := h.1 131 (by omega) i (by omega)
      rw [h.2.2.2, e, gw_w1 (by omega)]
      refine ⟨fun z => absurd z (by omega), fun _ => ⟨gw_inm (by omega) (by omega), ?_⟩⟩
      have h1 := ih (i + 1) (by omega)
      have e2 : gd_ls w (i + 1) = gw_or (gd_ls w i) (if w 131 (i : Int) < 0 then 0 else gw_shl 1 i) := by
        rw [gd_ls]
        simp only [gd_lostz]
      rw [e2] at h1
      exact h1
  exact key N 0 (by omega)
theorem gd_walks_n (g : gw_Mem) : gd_n (gd_walks g) = gd_n g := gd_wf_n (gd_walks_wf g)
theorem gd_walks_heard (g : gw_Mem) : ∀ j : Int, 0 ≤ j ∧ j < gd_n g → 0 ≤ gd_walks g 132 j ∧ gd_walks g 132 j ≤ 300 := by
  intro j hj
  have h := gd_X_run g 300 (Nat.le_refl _)
  have e := gd_walks_n g
  unfold gd_walks at e ⊢
  exact h j (by rw [e]; exact hj)
theorem sp_X11_fate (g m : gw_Mem) (hJ : gd_JP g) (hP : gc_P g m 4) (hW : gc_W g m) (x w : Int) : gw_SpecI M_X11_fate 20 [gR 0, gI x, gI w] m (fun r m' => r = ga_fate g x w ∧ gc_W g m' ∧ gc_fa m m') := by
  refine gw_intro pl_X11_fate rfl (fun Γ => ?_)
  have hn := hJ.2.2.2.2.1
  have hnc := gd_n_cast hJ
  have same : gc_fa m m := ⟨fun _ _ _ _ => rfl, fun _ _ _ => rfl⟩
  have h18 : m 18 0 = g 117 6 := hP.2.2.2.2.1
  apply r_X11_fate_0
  refine gw_CI.eq (sp_X11_isPerson g m hJ hP x) rfl (gw_b_tf (fun h => ?_) (fun h1 => ?_))
  · exact ⟨_, rfl, by rw [ga_fate, if_neg (fun z => h z.1)], hW, same⟩
  refine gw_CI.eq (sp_X11_within w 0 3 m) rfl (gw_b_tf (fun h => ?_) (fun h2 => ?_))
  · exact ⟨_, rfl, by rw [ga_fate, if_neg (fun z => h z.2)], hW, same⟩
  refine gw_CV.of (sp_X11_goAlong g m hJ hP hW) rfl (fun m1 _ hm1 => ?_)
  obtain ⟨hW1, h8, hf⟩ := hm1
  have hR := (hW1 h8).1.1
  have ha : (0 ≤ x ∧ x ≤ g 117 6 - 1) ∧ 0 ≤ w ∧ w ≤ 3 := ⟨h1, h2⟩
  have hin : gw_in x 10 := gw_inm (by omega) (by omega)
  have e32 : m1 79 x = gd_walks g 132 x := hR 132 (by omega) x (by omega)
  have e33 : m1 80 x = gd_walks g 133 x := hR 133 (by omega) x (by omega)
  have e34 : m1 81 x = gd_walks g 134 x := hR 134 (by omega) x (by omega)
  have e31 : m1 82 x = gd_walks g 131 x := hR 131 (by omega) x (by omega)
  rw [e32, e33, e34, e31]
  refine ⟨fun z => ⟨hin, _, rfl, ?_, hW1, hf⟩, fun z => ⟨hin, _, rfl, ?_, hW1, hf⟩, fun z => ⟨hin, _, rfl, ?_, hW1, hf⟩, fun z => ⟨hin, _, rfl, ?_, hW1, hf⟩⟩
  · rw [ga_fate, if_pos ha, if_pos z]
  · rw [ga_fate, if_pos ha, if_neg (by omega), if_pos z]
  · rw [ga_fate, if_pos ha, if_neg (by omega), if_neg (by omega), if_pos z]
  · rw [ga_fate, if_pos ha, if_neg (by omega), if_neg (by omega), if_neg (by omega)]
theorem sp_X11_at (g m : gw_Mem) (hJ : gd_JP g) (hP : gc_P g m 4) (hW : gc_W g m) (t x : Int) : gw_SpecI M_X11_at 20 [gR 0, gI t, gI x] m (fun r m' => r = ga_at g t x ∧ gc_W g m' ∧ gc_fa m m') := by
  refine gw_intro pl_X11_at rfl (fun Γ => ?_)
  have hn := hJ.2.2.2.2.1
  have hnc := gd_n_cast hJ
  have same : gc_fa m m := ⟨fun _ _ _ _ => rfl, fun _ _ _ => rfl⟩
  have h18 : m 18 0 = g 117 6 := hP.2.2.2.2.1
  apply r_X11_at_0 _ _ _ (by decide)
  refine gw_CI.eq (sp_X11_within t 0 299 m) rfl (gw_b_tf (fun h => ?_) (fun h1 => ?_))
  · exact ⟨_, rfl, by rw [ga_at, if_neg (fun z => h z.1)], hW, same⟩
  rw [h18, gw_w_id (x := g 117 6 - 1) (by omega)]
  refine gw_CI.eq (sp_X11_within x (-2) (g 117 6 - 1) m) rfl (gw_b_tf (fun h => ?_) (fun h2 => ?_))
  · exact ⟨_, rfl, by rw [ga_at, if_neg (fun z => h z.2)], hW, same⟩
  refine gw_CV.of (sp_X11_goAlong g m hJ hP hW) rfl (fun m1 _ hm1 => ?_)
  obtain ⟨hW1, h8, hf⟩ := hm1
  obtain ⟨_, h10, hT⟩ := hW1 h8
  have ha : (0 ≤ t ∧ t ≤ 299) ∧ -2 ≤ x ∧ x ≤ g 117 6 - 1 := ⟨h1, h2⟩
  have hrow : 0 ≤ gc_row m1 t ∧ gc_row m1 t ≤ 299 := by unfold gc_row; omega
  have e : gw_w (gw_w (gw_w (max 0 (min t (gw_w (m1 0 10 - 1))) * 12) + x) + 2) = 12 * gc_row m1 t + x + 2 := by
    rw [gw_w_id (x := m1 0 10 - 1) (by omega)]
    have q : max 0 (min t (m1 0 10 - 1)) = gc_row m1 t := rfl
    rw [q, gw_w_id (x := gc_row m1 t * 12) (by omega), gw_w_id (x := gc_row m1 t * 12 + x) (by omega), gw_w_id (by omega)]
    omega
  rw [e]
  refine ⟨gw_inm (by omega) (by omega), _, rfl, ?_, hW1, hf⟩
  rw [ga_at, if_pos ha]
  obtain ⟨t1, t2, t3⟩ := hT t (by omega)
  by_cases x1 : x = -1
  · rw [if_pos x1, x1, show 12 * gc_row m1 t + -1 + 2 = 12 * gc_row m1 t + 1 by omega, Int.add_zero]; exact t2
  · rw [if_neg x1]
    by_cases x2 : x = -2
    · rw [if_pos x2, x2, show 12 * gc_row m1 t + -2 + 2 = 12 * gc_row m1 t by omega]; exact t1
    · rw [if_neg x2, show 12 * gc_row m1 t + x + 2 = 12 * gc_row m1 t + 2 + x by omega, show 12 * t + (2 + x) = 12 * t + 2 + x by omega]
      exact t3 x (by omega)
theorem sp_X11_all (g m : gw_Mem) (hJ : gd_JP g) (hP : gc_P g m 4) (hW : gc_W g m) (w : Int) : gw_SpecI M_X11_all 20 [gR 0, gI w] m (fun r m' => r = ga_all g w ∧ gc_W g m' ∧ gc_fa m m') := by
  refine gw_intro pl_X11_all rfl (fun Γ => ?_)
  have hnc := gd_n_cast hJ
  have same : gc_fa m m := ⟨fun _ _ _ _ => rfl, fun _ _ _ => rfl⟩
  apply r_X11_all_0
  refine gw_CI.eq (sp_X11_within w 0 5 m) rfl (gw_b_tf (fun h => ?_) (fun h1 => ?_))
  · exact ⟨_, rfl, by rw [ga_all, if_neg h], hW, same⟩
  refine gw_CV.of (sp_X11_goAlong g m hJ hP hW) rfl (fun m1 _ hm1 => ?_)
  obtain ⟨hW1, h8, hf⟩ := hm1
  have hR := (hW1 h8).1
  have hwn := gd_walks_n g
  rw [ga_all, if_pos h1]
  refine ⟨fun z => ?_, fun z => ?_, fun z => ?_, fun z => ?_, fun z => ?_, fun z => ?_⟩
  · rw [if_pos z]
    exact gw_CI.eq (sp_X10_heardTogether 65 gw_isWalk65 _ m1 _ hnc.2 hR) rfl ⟨_, rfl, rfl, hW1, hf⟩
  · rw [if_neg (by omega), if_pos z]
    exact gw_CI.eq (sp_X10_leastHeard 65 gw_isWalk65 _ m1 _ hnc.2 hR (fun j hj => (gd_walks_heard g j hj).1)) rfl ⟨_, rfl, rfl, hW1, hf⟩
  · rw [if_neg (by omega), if_neg (by omega), if_pos z]
    exact ⟨_, rfl, hR.2.1, hW1, hf⟩
  · rw [if_neg (by omega), if_neg (by omega), if_neg (by omega), if_pos z]
    exact gw_CI.eq (sp_X10_allThere 65 gw_isWalk65 _ m1 _ hnc.2 hwn hR) rfl ⟨_, rfl, rfl, hW1, hf⟩
  · rw [if_neg (by omega), if_neg (by omega), if_neg (by omega), if_neg (by omega), if_pos z]
    exact ⟨_, rfl, hR.2.2.1, hW1, hf⟩
  · rw [if_neg (by omega), if_neg (by omega), if_neg (by omega), if_neg (by omega), if_neg (by omega)]
    exact gw_CI.eq (sp_X10_lostSet 65 gw_isWalk65 _ m1 _ hnc.2 hR) rfl ⟨_, rfl, rfl, hW1, hf⟩
