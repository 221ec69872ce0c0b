/-! the class: the best rule -/
theorem sp_X10_takeRule (b : Nat) (hb : gw_isWalk b) (x y z : Int) (m : gw_Mem) : gw_SpecV M_X10_takeRule 10 [gR b, gI x, gI y, gI z] m (fun m' => m' = gw_up (gw_up (gw_up m (b + 10) 0 x) (b + 10) 1 y) (b + 10) 2 z) := by
  refine gw_intro pl_X10_takeRule rfl (fun Γ => ?_)
  apply r_X10_takeRule_0 b hb
  exact ⟨rfl, rfl⟩
theorem sp_X11_noteBest (x y z v : Int) (m : gw_Mem) : gw_SpecV M_X11_noteBest 10 [gR 0, gI x, gI y, gI z, gI v] m (fun m' => m' = gw_up (gw_up (gw_up (gw_up m 2 0 x) 2 1 y) 2 2 z) 2 3 v) := by
  refine gw_intro pl_X11_noteBest rfl (fun Γ => ?_)
  apply r_X11_noteBest_0
  exact ⟨rfl, rfl⟩
/-- what is laid, but for the first three rules -/
def gc_Lx (g m : gw_Mem) (b : Nat) : Prop := m (b + 1) 0 = g 117 0 ∧ (∀ k : Nat, k ≤ 3 → ∀ x : Int, 0 ≤ x ∧ x < 100 → m (b + 2 + k) x = gd_wl g k x) ∧ m (b + 6) 0 = g 117 6 ∧
  (∀ j : Int, 0 ≤ j ∧ j < g 117 6 → m (b + 7) j = g 123 j ∧ m (b + 8) j = g 124 j ∧ m (b + 9) j = g 125 j) ∧ (∀ j : Int, 3 ≤ j ∧ j < 5 → m (b + 10) j = g 122 j)
theorem gc_Lx_m {g m m' : gw_Mem} {b : Nat} (h : gc_Lx g m b) (hm : ∀ o : Nat, b + 1 ≤ o → o ≤ b + 9 → m' o = m o) (hr : ∀ j : Int, 3 ≤ j ∧ j < 5 → m' (b + 10) j = m (b + 10) j) : gc_Lx g m' b := by
  obtain ⟨a1, a2, a3, a4, a5⟩ := h
  refine ⟨by rw [hm _ (by omega) (by omega)]; exact a1, fun k hk x hx => by rw [hm _ (by omega) (by omega)]; exact a2 k hk x hx, by rw [hm _ (by omega) (by omega)]; exact a3, fun j hj => ?_, fun j hj => by rw [hr j hj]; exact a5 j hj⟩
  rw [hm (b + 7) (by omega) (by omega), hm (b + 8) (by omega) (by omega), hm (b + 9) (by omega) (by omega)]
  exact a4 j hj
theorem gc_Lx_L {g m : gw_Mem} {b c : Nat} (h : gc_Lx g m b) (h0 : m (b + 10) 0 = 1 + (c : Int) / 55) (h1 : m (b + 10) 1 = (c : Int) / 5 % 11) (h2 : m (b + 10) 2 = (c : Int) % 5) : gc_L (gd_bq g c) m b := by
  obtain ⟨a1, a2, a3, a4, a5⟩ := h
  have q := gd_bq_at g c
  have wl : gd_wl (gd_bq g c) = gd_wl g := by
    funext k y
    unfold gd_wl gd_mk
    rw [q.1 117 (by omega), q.1 118 (by omega), q.1 120 (by omega), gd_ma_congr (q.1 119 (by omega))]
  unfold gc_L
  rw [wl, q.1 117 (by omega), q.1 123 (by omega), q.1 124 (by omega), q.1 125 (by omega)]
  refine ⟨a1, a2, a3, a4, fun j hj => ?_⟩
  by_cases hj3 : 3 ≤ j
  · rw [a5 j ⟨hj3, hj.2⟩, q.2.2.2.2 j (by omega)]
  · have hc : j = 0 ∨ j = 1 ∨ j = 2 := by omega
    rcases hc with rfl | rfl | rfl
    · rw [h0, q.2.1]
    · rw [h1, q.2.2.1]
    · rw [h2, q.2.2.2.1]
/-- what was found so far -/
def gc_bv (v : Int × Int) (m : gw_Mem) : Prop := m 2 3 = v.2 ∧ (0 ≤ v.1 → m 2 0 = 1 + v.1 / 55 ∧ m 2 1 = v.1 / 5 % 11 ∧ m 2 2 = v.1 % 5)
def gc_sb (m m' : gw_Mem) : Prop := ∀ o : Nat, o ≠ 2 → ¬ (83 ≤ o ∧ o ≤ 100) → m' o = m o
theorem sp_X11_seekBest (g m : gw_Mem) (hJ : gd_JP g) (hP : gc_P g m 4) (T : Nat) (hT : T < 300) (hn1 : 0 < g 117 6) : gw_SpecV M_X11_seekBest 18 [gR 0, gI (T : Int)] m (fun m' => gc_bv (gd_vb g T 220) m' ∧ gc_sb m m') := by
  refine gw_intro pl_X11_seekBest rfl (fun Γ => ?_)
  have hn := gd_n_cast hJ
  have hb83 := gw_isWalk83
  have hwr : gd_wr g g := ⟨fun _ _ _ _ => rfl, fun _ _ => rfl, fun _ _ => rfl⟩
  apply r_X11_seekBest_0 _ _ (by decide)
  have hP0 : gc_P g (gw_up m 2 3 (-1)) 4 := gc_P_m hP (fun o _ _ => gw_up_ne (by omega))
  refine gw_CV.of (sp_X10_load 83 hb83 g _ hJ hP0) rfl (fun m1 _ h1 => ?_)
  have hP1 : gc_P g m1 4 := gc_P_m hP0 (fun o _ _ => h1.2 o (by omega))
  refine gw_CI.eq (sp_X6_minutesSpoken 4 (by simp [gw_isPlan]) g m1 hJ hP1) rfl ?_
  have h18 : m1 18 0 = g 117 6 := hP1.2.2.2.2.1
  have emb : min 10 (m1 18 0) = ((gd_n g : Nat) : Int) := by rw [h18]; omega
  rw [emb]
  have fin : ∀ (mm : gw_Mem), gc_bv (gd_vb g T 220) mm → gc_sb m mm → (none : Option gw_SV) = none ∧ gc_bv (gd_vb g T 220) mm ∧ gc_sb m mm := fun mm a b => ⟨rfl, a, b⟩
  have loopP : ∀ (jp p : Nat) (mm : gw_Mem) (y5 y6 y7 : Option gw_SV), p + jp = 4 → gc_Lx g mm 83 → gc_bv (gd_vb g T (55 * p)) mm → gc_sb m mm →
      gw_G M_X11_seekBest 18 (fun r m' => r = none ∧ gc_bv (gd_vb g T 220) m' ∧ gc_sb m m') Γ 49 [some (gR 0), some (gI (T : Int)), some (gI (gd_spoken g)), some (gI ((gd_n g : Nat) : Int)), some (gI (1 + (p : Int))), y5, y6, y7] [] mm := by
    intro jp
    induction jp with
    | zero =>
      intro p mm y5 y6 y7 hp hL hv hf
      apply r_X11_seekBest_49 _ _ _ _ _ _ _ _ (by decide)
      refine ⟨fun _ => fin mm ?_ hf, fun z => absurd (show (4 : Int) < 1 + (p : Int) by omega) z⟩
      rw [show 55 * p = 220 by omega] at hv
      exact hv
    | succ jp ihp =>
      intro p mm y5 y6 y7 hp hL hv hf
      apply r_X11_seekBest_49 _ _ _ _ _ _ _ _ (by decide)
      refine ⟨fun z => absurd (show (4 : Int) < 1 + (p : Int) from z) (by omega), fun _ => ?_⟩
      have loopB : ∀ (jb b : Nat) (mm : gw_Mem) (y6 y7 : Option gw_SV), b + jb = gd_n g + 1 → gc_Lx g mm 83 → gc_bv (gd_vb g T (55 * p + 5 * b)) mm → gc_sb m mm →
          gw_G M_X11_seekBest 18 (fun r m' => r = none ∧ gc_bv (gd_vb g T 220) m' ∧ gc_sb m m') Γ 62 [some (gR 0), some (gI (T : Int)), some (gI (gd_spoken g)), some (gI ((gd_n g : Nat) : Int)), some (gI (1 + (p : Int))), some (gI (b : Int)), y6, y7] [] mm := by
        intro jb
        induction jb with
        | zero =>
          intro b mm y6 y7 hb hL hv hf
          apply r_X11_seekBest_62 _ _ _ _ _ _ _ _ (by decide)
          refine ⟨fun _ => ?_, fun z => absurd (by omega) z⟩
          have eb : b = gd_n g + 1 := by omega
          have sk := gd_vb_skip hJ T p (by omega) (55 - 5 * (gd_n g + 1)) hn.2 (by omega)
          rw [show 55 * p + 5 * (gd_n g + 1) + (55 - 5 * (gd_n g + 1)) = 55 * (p + 1) by omega] at sk
          rw [show gw_w (1 + (p : Int) + 1) = 1 + ((p + 1 : Nat) : Int) by rw [gw_w_id (by omega)]; omega]
          refine ihp (p + 1) mm _ _ _ (by omega) hL ?_ hf
          rw [sk, ← eb]
          exact hv
        | succ jb ihb =>
          intro b mm y6 y7 hb hL hv hf
          apply r_X11_seekBest_62 _ _ _ _ _ _ _ _ (by decide)
          refine ⟨fun z => absurd z (by omega), fun _ => ?_⟩
          have loopS : ∀ (js s : Nat) (mm : gw_Mem) (y7 : Option gw_SV), s + js = 5 → gc_Lx g mm 83 → gc_bv (gd_vb g T (55 * p + 5 * b + s)) mm → gc_sb m mm →
              gw_G M_X11_seekBest 18 (fun r m' => r = none ∧ gc_bv (gd_vb g T 220) m' ∧ gc_sb m m') Γ 71 [some (gR 0), some (gI (T : Int)), some (gI (gd_spoken g)), some (gI ((gd_n g : Nat) : Int)), some (gI (1 + (p : Int))), some (gI (b : Int)), some (gI (s : Int)), y7] [] mm := by
            intro js
            induction js with
            | zero =>
              intro s mm y7 hs hL hv hf
              apply r_X11_seekBest_71 _ _ _ _ _ _ _ _ (by decide)
              refine ⟨fun _ => ?_, fun z => absurd (by omega) z⟩
              rw [gw_w1 (by omega)]
              refine ihb (b + 1) mm _ _ (by omega) hL ?_ hf
              rw [show 55 * p + 5 * (b + 1) = 55 * p + 5 * b + s by omega]
              exact hv
            | succ js ihs =>
              intro s mm y7 hs hL hv hf
              apply r_X11_seekBest_71 _ _ _ _ _ _ _ _ (by decide)
              refine ⟨fun z => absurd z (by omega), fun _ => ?_⟩
              refine gw_CV.eq (sp_X10_takeRule 83 hb83 _ _ _ mm) rfl ?_
              generalize hc : 55 * p + 5 * b + s = c at hv
              have hc220 : c < 220 := by omega
              generalize hm2 : gw_up (gw_up (gw_up mm (83 + 10) 0 (1 + (p : Int))) (83 + 10) 1 (b : Int)) (83 + 10) 2 (s : Int) = m2
              have m2o : ∀ o : Nat, o ≠ 93 → m2 o = mm o := fun o ho => by rw [← hm2, gw_up_ne ho, gw_up_ne ho, gw_up_ne ho]
              have hLx2 : gc_Lx g m2 83 := gc_Lx_m hL (fun o _ _ => m2o o (by omega)) (fun j hj => by rw [← hm2, gw_up_at, if_neg (by omega), gw_up_at, if_neg (by omega), gw_up_at, if_neg (by omega)])
              have hL2 : gc_L (gd_bq g c) m2 83 := by
                refine gc_Lx_L hLx2 ?_ ?_ ?_
                · rw [← hm2, gw_up_at, if_neg (by omega), gw_up_at, if_neg (by omega), gw_up_at, if_pos rfl]; omega
                · rw [← hm2, gw_up_at, if_neg (by omega), gw_up_at, if_pos rfl]; omega
                · rw [← hm2, gw_up_at, if_pos rfl]; omega
              have hJq := gd_bq_JP hJ hwr c hc220
              have qn : 0 < gd_bq g c 117 6 := by rw [(gd_bq_at g c).1 117 (by omega)]; exact hn1
              refine gw_CI.of (sp_X10_leastHeardInTime (gd_bq g c) m2 hJq hL2 T hT qn) rfl (fun v m3 _ _ h3 => ?_)
              obtain ⟨hv3, hf3⟩ := h3
              rw [hv3]
              have m3o : ∀ o : Nat, ¬ (83 ≤ o ∧ o ≤ 100) → m3 o = mm o := fun o ho => by rw [hf3 o (by omega), m2o o (by omega)]
              have hLx3 : gc_Lx g m3 83 := gc_Lx_m hLx2 (fun o _ _ => hf3 o (by omega)) (fun j _ => by rw [hf3 93 (by omega)])
              have hf3' : gc_sb m m3 := fun o a d => by rw [m3o o d]; exact hf o a d
              -- the end of the round
              have nxt : ∀ m4 : gw_Mem, gc_Lx g m4 83 → gc_bv (gd_vb g T (c + 1)) m4 → gc_sb m m4 → gw_G M_X11_seekBest 18 (fun r m' => r = none ∧ gc_bv (gd_vb g T 220) m' ∧ gc_sb m m') Γ 123 [some (gR 0), some (gI (T : Int)), some (gI (gd_spoken g)), some (gI ((gd_n g : Nat) : Int)), some (gI (1 + (p : Int))), some (gI (b : Int)), some (gI (s : Int)), some (gI (gd_inT (gd_bq g c) T))] [] m4 := by
                intro m4 l4 v4 f4
                apply r_X11_seekBest_123 _ _ _ _ _ _ _ _ (by decide)
                refine ⟨fun _ => ?_, fun h5 => fin m4 ?_ f4⟩
                · rw [gw_w1 (by omega)]
                  refine ihs (s + 1) m4 _ (by omega) l4 ?_ f4
                  rw [show 55 * p + 5 * b + (s + 1) = c + 1 by omega]
                  exact v4
                · have ge := gd_vb_ge g T (c + 1) c (by omega)
                  have st := gd_vb_stay hJ hn1 T (c + 1) (by omega) (220 - (c + 1)) (by omega)
                  rw [show c + 1 + (220 - (c + 1)) = 220 by omega] at st
                  rw [st]
                  exact v4
              have e23 : m3 2 3 = (gd_vb g T c).2 := by rw [m3o 2 (by omega)]; exact hv.1
              rw [e23]
              refine ⟨fun h5 => nxt m3 hLx3 ?_ hf3', fun h5 => ?_⟩
              · rw [gd_vb, if_neg (by omega)]
                unfold gc_bv at hv ⊢
                rw [m3o 2 (by omega)]
                exact hv
              · refine gw_CV.eq (sp_X11_noteBest _ _ _ _ m3) rfl (nxt _ (gc_Lx_m hLx3 (fun o _ _ => by rw [gw_up_ne (by omega), gw_up_ne (by omega), gw_up_ne (by omega), gw_up_ne (by omega)]) (fun j _ => by rw [gw_up_ne (by omega), gw_up_ne (by omega), gw_up_ne (by omega), gw_up_ne (by omega)])) ?_ (fun o a d => by rw [gw_up_ne a, gw_up_ne a, gw_up_ne a, gw_up_ne a]; exact hf3' o a d))
                rw [gd_vb, if_pos (by omega)]
                generalize gd_inT (gd_bq g c) T = v
                unfold gc_bv
                dsimp only
                simp only [gw_up_at]
                refine ⟨by simp, fun _ => ⟨?_, ?_, ?_⟩⟩
                · simp; omega
                · simp; omega
                · simp; omega
          exact loopS 5 0 mm y7 (by omega) hL hv hf
      exact loopB (gd_n g + 1) 0 mm y6 y7 (by omega) hL hv hf
  have hLx1 : gc_Lx g m1 83 := ⟨h1.1.1, h1.1.2.1, h1.1.2.2.1, h1.1.2.2.2.1, fun j hj => h1.1.2.2.2.2 j (by omega)⟩
  refine loopP 4 0 m1 none none none (by omega) hLx1 ⟨?_, fun z => absurd z (by show ¬ 0 ≤ (-4 : Int); omega)⟩ (fun o a d => ?_)
  · rw [h1.2 2 (by omega), gw_up_at, if_pos rfl]; rfl
  · rw [h1.2 o (by omega), gw_up_ne a]
/-- the best that was found, as it lasts -/
def gc_B (g m : gw_Mem) : Prop := 0 ≤ m 0 12 → 0 < g 117 6 ∧ ∃ T : Nat, T < 300 ∧ m 0 12 = T ∧ gc_bv (gd_vb g T 220) m
theorem sp_X11_best (g m : gw_Mem) (hJ : gd_JP g) (hP : gc_P g m 4) (hB : gc_B g m) (t w : Int) : gw_SpecI M_X11_best 20 [gR 0, gI t, gI w] m (fun r m' => r = ga_best g t w ∧ gc_B g m' ∧ (∀ o : Nat, o ≠ 0 → o ≠ 2 → ¬ (83 ≤ o ∧ o ≤ 100) → m' o = m o) ∧ ∀ j : Int, j ≠ 12 → m' 0 j = m 0 j) := by
  refine gw_intro pl_X11_best rfl (fun Γ => ?_)
  have h18 : m 18 0 = g 117 6 := hP.2.2.2.2.1
  have hn := hJ.2.2.2.2.1
  apply r_X11_best_0
  refine gw_CI.eq (sp_X11_within t 0 299 m) rfl (gw_b_tf (fun h => ?_) (fun h1 => ?_))
  · exact ⟨_, rfl, by rw [ga_best, if_neg (fun z => h z.1)], hB, fun _ _ _ _ => rfl, fun _ _ => rfl⟩
  refine gw_CI.eq (sp_X11_within w 0 3 m) rfl (gw_b_tf (fun h => ?_) (fun h2 => ?_))
  · exact ⟨_, rfl, by rw [ga_best, if_neg (fun z => h z.2)], hB, fun _ _ _ _ => rfl, fun _ _ => rfl⟩
  have ha : (0 ≤ t ∧ t ≤ 299) ∧ 0 ≤ w ∧ w ≤ 3 := ⟨h1, h2⟩
  rw [h18]
  refine ⟨fun h3 => ⟨_, rfl, by rw [ga_best, if_pos ha, if_pos h3], hB, fun _ _ _ _ => rfl, fun _ _ => rfl⟩, fun h3 => ?_⟩
  obtain ⟨T, rfl⟩ := gw_nat h1.1
  have tell : ∀ mm : gw_Mem, mm 0 12 = T → gc_bv (gd_vb g T 220) mm → (∀ o : Nat, o ≠ 0 → o ≠ 2 → ¬ (83 ≤ o ∧ o ≤ 100) → mm o = m o) → (∀ j : Int, j ≠ 12 → mm 0 j = m 0 j) → gw_G M_X11_best 20 (fun r m' => ∃ v, r = some (gI v) ∧ v = ga_best g T w ∧ gc_B g m' ∧ (∀ o : Nat, o ≠ 0 → o ≠ 2 → ¬ (83 ≤ o ∧ o ≤ 100) → m' o = m o) ∧ ∀ j : Int, j ≠ 12 → m' 0 j = m 0 j) Γ 56 [some (gR 0), some (gI (T : Int)), some (gI w)] [] mm := by
    intro mm h12 hv hf hf0
    apply r_X11_best_56
    refine ⟨fun _ => gw_inm h2.1 (by omega), _, rfl, ?_, fun _ => ⟨by omega, T, by omega, h12, hv⟩, hf, hf0⟩
    rw [ga_best, if_pos ha, if_neg h3, gd_bst_vb hJ]
    have r := gd_vb_rng g T 220
    unfold gc_bv at hv
    generalize gd_vb g T 220 = v at *
    by_cases hp : 0 ≤ v.1
    · have q := hv.2 hp
      rw [hv.1, if_pos (show 0 ≤ v.2 by omega), if_pos hp]
      have hc : w = 0 ∨ w = 1 ∨ w = 2 ∨ w = 3 := by omega
      rcases hc with rfl | rfl | rfl | rfl
      · rw [if_pos rfl, q.1]
      · rw [if_neg (by omega), if_pos rfl, q.2.1]
      · rw [if_neg (by omega), if_neg (by omega), if_pos rfl, q.2.2]
      · rw [if_neg (by omega), if_neg (by omega), if_neg (by omega), hv.1]
    · rw [hv.1, if_neg (show ¬ 0 ≤ v.2 by omega), if_neg hp]
  refine ⟨fun h4 => ?_, fun h4 => ?_⟩
  · obtain ⟨_, T', hT', e, hv⟩ := hB (by omega)
    have et : T' = T := by omega
    subst et
    exact tell m h4 hv (fun _ _ _ _ => rfl) (fun _ _ => rfl)
  · refine gw_CV.of (sp_X11_seekBest g m hJ hP T (by omega) (by omega)) rfl (fun m1 _ hm1 => ?_)
    refine tell _ (by rw [gw_up_at, if_pos rfl]) ?_ (fun o a c d => by rw [gw_up_ne a]; exact hm1.2 o c d) (fun j hj => by rw [gw_up_at, if_neg hj, hm1.2 0 (by omega) (by omega)])
    have z := hm1.1
    unfold gc_bv at z ⊢
    rw [gw_up_ne (by omega)]
    exact z
