/-! nobody hears more than is spoken -/
def gd_sk (g : gw_Mem) (x : Int) : Nat → Int := gw_sum (fun k => if g 119 k < x then g 120 k else 0)
theorem gd_sk_s (g : gw_Mem) (x : Int) (n : Nat) : gd_sk g x (n + 1) = gd_sk g x n + (if g 119 (n : Int) < x then g 120 (n : Int) else 0) := rfl
theorem gd_sk_mono {g : gw_Mem} (hJ : gd_JP g) {x y : Int} (h : x ≤ y) (n : Nat) (hn : (n : Int) ≤ g 118 0) : 0 ≤ gd_sk g x n ∧ gd_sk g x n ≤ gd_sk g y n := by
  induction n with
  | zero => exact ⟨Int.le_refl _, Int.le_refl _⟩
  | succ n ih =>
    have q := ih (by omega)
    have l := (hJ.2.2.1 0 n (by omega) (by omega)).2.1
    rw [show 8 * (0 : Int) + n = n by omega] at l
    have e : gd_lo 0 = 1 := rfl
    rw [gd_sk_s, gd_sk_s]
    repeat' split
    all_goals omega
theorem gd_sk_step {g : gw_Mem} (hJ : gd_JP g) {x y : Int} (h : x < y) {k : Int} (hk : 0 ≤ k) (hp : g 119 k = x) (n : Nat) (hn : (n : Int) ≤ g 118 0) : gd_sk g x n + (if k < n then g 120 k else 0) ≤ gd_sk g y n := by
  induction n with
  | zero => rw [if_neg (by omega)]; exact Int.le_refl _
  | succ n ih =>
    have q := ih (by omega)
    have l := (hJ.2.2.1 0 n (by omega) (by omega)).2.1
    rw [show 8 * (0 : Int) + n = n by omega] at l
    have e : gd_lo 0 = 1 := rfl
    rw [gd_sk_s, gd_sk_s]
    by_cases en : k = n
    · subst en
      rw [if_neg (show ¬ ((n : Int) < n) by omega)] at q
      rw [if_pos (show (n : Int) < ((n + 1 : Nat) : Int) by omega), hp, if_neg (show ¬ x < x by omega), if_pos h]
      omega
    · have ec : (if k < ((n + 1 : Nat) : Int) then g 120 k else 0) = (if k < (n : Int) then g 120 k else 0) := by
        by_cases z : k < n
        · rw [if_pos (by omega), if_pos z]
        · rw [if_neg (by omega), if_neg z]
      rw [ec]
      generalize (if k < (n : Int) then g 120 k else 0) = u at *
      repeat' split
      all_goals omega
theorem gd_sk_wl {g : gw_Mem} (hJ : gd_JP g) {x y : Int} (h : x < y) : gd_sk g x (g 118 0).toNat + gd_wl g 0 x ≤ gd_sk g y (g 118 0).toNat := by
  have hs := hJ.2.1 0 (by omega)
  have hw := gd_wl_rng hJ (k := 0) (by omega) x
  by_cases hp : 0 < gd_wl g 0 x
  · have hc := hw.2.2.mp hp
    have hmk := gd_mk_rng hJ (k := 0) (by omega) x
    have hma := (gd_ma_rng g 0 x (g 118 0).toNat).2.2.2 hc.2
    have hpl : g 119 (gd_mk g 0 x) = x := by
      rw [show 8 * (0 : Int) + gd_ma g 0 x (g 118 0).toNat = gd_mk g 0 x by unfold gd_mk; omega] at hma
      exact hma
    have q := gd_sk_step hJ h hc.2 hpl (g 118 0).toNat (by omega)
    have e : gd_wl g 0 x = g 120 (gd_mk g 0 x) := by
      rw [gd_wl, if_pos hc, show 8 * (0 : Int) + gd_mk g 0 x = gd_mk g 0 x by omega]
    rw [if_pos (by omega), ← e] at q
    exact q
  · have q := (gd_sk_mono hJ (show x ≤ y by omega) (g 118 0).toNat (by omega)).2
    omega
/-- how much can have been heard so far -/
def gd_Hd (g : gw_Mem) : Prop := (0 ≤ g 117 19 ∧ g 117 19 ≤ gd_wl g 0 (g 117 16)) ∧ (∀ j : Int, 0 ≤ j ∧ j < gd_n g → g 132 j ≤ gd_sk g (g 117 16) (g 118 0).toNat + g 117 19) ∧ 0 ≤ g 117 16 ∧ g 117 16 ≤ g 117 0
theorem gd_sk_congr {g g' : gw_Mem} (h1 : g' 119 = g 119) (h2 : g' 120 = g 120) (x : Int) (n : Nat) : gd_sk g' x n = gd_sk g x n := by
  unfold gd_sk
  rw [h1, h2]
theorem gd_Hd_congr {g g' : gw_Mem} (h : gd_Hd g) (hw : gd_wf g g') (h19 : g' 117 19 = g 117 19) (h16 : g' 117 16 = g 117 16) (h132 : g' 132 = g 132) : gd_Hd g' := by
  unfold gd_Hd at *
  rw [h19, h16, h132, gd_wl_pq (gd_pq_wf hw), gd_wf_n hw, gd_sk_congr (hw.1 119 (by omega) (by omega)) (hw.1 120 (by omega) (by omega)), hw.1 118 (by omega) (by omega), hw.2 0 (by omega)]
  exact h
theorem gd_Hd_kA {g : gw_Mem} (hJ : gd_JP g) (h : gd_Hd g) (hs : 0 ≤ gd_sh g) (hx : ∀ j : Int, 0 ≤ j ∧ j < gd_n g → 0 ≤ g 132 j ∧ g 132 j ≤ 1000) : gd_Hd (gd_kA g (gd_sh g)).2 := by
  have hp := gd_sh_pos hJ hs
  have hwr := (gd_wl_rng hJ (k := 0) (by omega) (g 117 16)).2.1
  unfold gd_kA
  by_cases h1 : g 117 17 = 0
  · rw [if_pos h1]; exact h
  rw [if_neg h1]
  have d : gd_Hd (gd_done g (gd_sh g)) := gd_Hd_congr h (gd_wf_uf (gd_wf_rfl g) (by omega) _) (by unfold gd_done; rw [gw_up_at, if_neg (by omega)]) (by unfold gd_done; rw [gw_up_at, if_neg (by omega)]) (by unfold gd_done; rw [gw_up_ne (by omega)])
  by_cases h2 : g 120 (gd_sh g) ≤ g 117 19
  · rw [if_pos h2]
    by_cases h3 : g 122 2 ≤ g 117 21
    · rw [if_pos h3]; exact d
    · rw [if_neg h3]
      by_cases h4 : g 117 20 < g 122 3
      · rw [if_pos h4]
        dsimp only
        exact gd_Hd_congr h (gd_wf_uf (gd_wf_rfl g) (by omega) _) (by rw [gw_up_at, if_neg (by omega)]) (by rw [gw_up_at, if_neg (by omega)]) (by rw [gw_up_ne (by omega)])
      · rw [if_neg h4]; exact d
  · rw [if_neg h2]
    dsimp only
    generalize hu : gw_up g 117 19 (gw_w (g 117 19 + 1)) = u
    have u19 : u 117 19 = g 117 19 + 1 := by
      rw [← hu, gw_up_at, if_pos rfl, gw_w_id]
      have := h.1
      omega
    have uj : ∀ j : Int, j ≠ 19 → u 117 j = g 117 j := fun j hj => by rw [← hu, gw_up_at, if_neg hj]
    have uo : ∀ o : Nat, o ≠ 117 → u o = g o := fun o ho => by rw [← hu, gw_up_ne ho]
    have hwu : gd_wf g u := by rw [← hu]; exact gd_wf_uf (gd_wf_rfl g) (by omega) _
    have hw2 := gd_wf_tr hwu (gd_spk_wf u (gd_n g))
    have sa := gd_spk_at u (gd_n g) (fun i hi => by rw [uo 132 (by omega)]; exact hx i hi)
    have s117 : gd_spk u (gd_n g) 117 = u 117 := gd_spk_ne u (gd_n g) (by omega)
    unfold gd_Hd
    rw [gd_wl_pq (gd_pq_wf hw2), gd_wf_n hw2, gd_sk_congr (hw2.1 119 (by omega) (by omega)) (hw2.1 120 (by omega) (by omega)), hw2.1 118 (by omega) (by omega), s117, u19, uj 16 (by omega), uj 0 (by omega)]
    refine ⟨⟨by have := h.1; omega, by have := h.1; omega⟩, fun j hj => ?_, h.2.2⟩
    have q := (sa j hj.1).1 hj.2
    rw [uo 132 (by omega)] at q
    have := h.2.1 j hj
    omega
theorem gd_Hd_gg {g : gw_Mem} (hJ : gd_JP g) (h : gd_Hd g) (t : Int) (hx : ∀ j : Int, 0 ≤ j ∧ j < gd_n g → 0 ≤ g 132 j ∧ g 132 j ≤ 1000) : gd_Hd (gd_gg g t) := by
  have hk : gd_Hd (gd_kp g).2 := by
    unfold gd_kp
    by_cases hs : 0 ≤ gd_sh g
    · rw [if_pos hs]
      by_cases h0 : g 117 17 = 0
      · rw [if_pos h0]
        have no : ∀ o : Nat, o ≠ 117 → gd_bgm g o = g o := fun o ho => by unfold gd_bgm; rw [gw_up_ne ho, gw_up_ne ho]
        have nj : ∀ j : Int, j ≠ 17 → j ≠ 18 → gd_bgm g 117 j = g 117 j := fun j h1 h2 => by unfold gd_bgm; rw [gw_up_at, if_neg h2, gw_up_at, if_neg h1]
        have es : gd_sh (gd_bgm g) = gd_sh g := gd_sh_congr (nj 0 (by omega) (by omega)) (nj 16 (by omega) (by omega)) (nj 22 (by omega) (by omega)) (no 118 (by omega)) (no 119 (by omega))
        have hb := gd_Hd_congr h (gd_bgm_wf g) (nj 19 (by omega) (by omega)) (nj 16 (by omega) (by omega)) (no 132 (by omega))
        rw [← es]
        exact gd_Hd_kA (gd_wf_JP (gd_bgm_wf g) hJ) hb (by rw [es]; exact hs) (fun j hj => by rw [gd_wf_n (gd_bgm_wf g)] at hj; rw [no 132 (by omega)]; exact hx j hj)
      · rw [if_neg h0]; exact gd_Hd_kA hJ h hs hx
    · rw [if_neg hs]; exact h
  have hkw := gd_kp_wf g
  have hJk := gd_wf_JP hkw hJ
  unfold gd_gg
  split
  · exact h
  · split
    · unfold gd_gA
      generalize (gd_kp g).2 = q at hk hkw hJk
      have gs : ∀ (k : Nat) (u : gw_Mem), gd_wf q u → u 132 = q 132 → u 117 19 = q 117 19 → q 117 16 ≤ u 117 16 → u 117 16 ≤ q 117 0 → q 117 16 ≤ gd_gs u t k 117 16 ∧ gd_gs u t k 117 16 ≤ q 117 0 := by
        intro k
        induction k with
        | zero => intro u _ _ _ h1 h2; exact ⟨h1, h2⟩
        | succ k ih =>
          intro u h1 h2 h3 h4 h5
          have u0 := h1.2 0 (by omega)
          have hend := hJk.1
          have hu0 := hk.2.2
          rw [gd_gs]
          repeat' split
          · exact ⟨h4, h5⟩
          · exact ⟨h4, h5⟩
          · have ew : gw_w (u 117 16 + 1) = u 117 16 + 1 := gw_w_id (by omega)
            refine ih _ (gd_wf_uf h1 (by omega) _) (by rw [gw_up_ne (by omega)]; exact h2) (by rw [gw_up_at, if_neg (by omega)]; exact h3) ?_ ?_
            · rw [gw_up_at, if_pos rfl, ew]; omega
            · rw [gw_up_at, if_pos rfl, ew]; omega
          · exact ⟨h4, h5⟩
      have hr := gs (q 122 0).toNat q (gd_wf_rfl q) rfl rfl (Int.le_refl _) hk.2.2.2
      have hs := gd_gs_at q t (q 122 0).toNat
      have hsw := gd_gs_wf q t (q 122 0).toNat
      generalize gd_gs q t (q 122 0).toNat = s at hr hs hsw
      have ar : ∀ v : gw_Mem, gd_Hd v → gd_Hd (gd_ar v t) := fun v hv => gd_Hd_congr hv (gd_ar_wf v t) (by unfold gd_ar; rw [gw_up_at, if_neg (by omega)]) (by unfold gd_ar; rw [gw_up_at, if_neg (by omega)]) (by unfold gd_ar; rw [gw_up_ne (by omega)])
      by_cases hm : s 117 16 = q 117 16
      · rw [if_pos hm]
        exact ar s (gd_Hd_congr hk hsw (hs.2 19 (by omega)) hm (hs.1 132 (by omega)))
      · rw [if_neg hm]
        refine ar _ ?_
        have hc := gd_clr_at s
        have hw2 := gd_wf_tr hsw (gd_clr_wf s)
        have hwl := gd_wl_rng hJk (k := 0) (by omega) (s 117 16)
        have st := gd_sk_wl hJk (show q 117 16 < s 117 16 by omega)
        unfold gd_Hd
        rw [gd_wl_pq (gd_pq_wf hw2), gd_wf_n hw2, gd_sk_congr (hw2.1 119 (by omega) (by omega)) (hw2.1 120 (by omega) (by omega)), hw2.1 118 (by omega) (by omega), hw2.2 0 (by omega), hc.2.2 19 (by omega), hc.2.1 16 (by omega), hc.1 132 (by omega), hs.1 132 (by omega)]
        have hk0 := hk.2.2.1
        refine ⟨⟨by omega, by omega⟩, fun j hj => ?_, by omega, by omega⟩
        have h1 := hk.2.1 j hj
        have h2 := hk.1
        omega
    · exact hk
theorem gd_Hd_min {g : gw_Mem} (hJ : gd_JP g) (h : gd_Hd g) (t : Int) (hx : ∀ j : Int, 0 ≤ j ∧ j < gd_n g → 0 ≤ g 132 j ∧ g 132 j ≤ 1000) : gd_Hd (gd_min g t) := by
  have h1 := gd_Hd_gg hJ h t hx
  have hw := gd_gg_wf g t
  have p117 : gd_pp (gd_gg g t) t (gd_n g) 117 = gd_gg g t 117 := gd_pp_ne _ t _ 117 (by omega)
  have p132 : gd_pp (gd_gg g t) t (gd_n g) 132 = gd_gg g t 132 := gd_pp_ne _ t _ 132 (by omega)
  have hw2 : gd_wf (gd_gg g t) (gd_min g t) := gd_wf_tr (gd_pp_wf _ t (gd_n g)) (gd_bh_wf _ t)
  obtain ⟨_, b2, _⟩ := gd_bh_at (gd_pp (gd_gg g t) t (gd_n g)) t
  refine gd_Hd_congr h1 hw2 ?_ ?_ (gd_min_132 g t)
  · show gd_bh (gd_pp (gd_gg g t) t (gd_n g)) t 117 19 = _
    rw [b2 19 (by omega) (by omega), p117]
  · show gd_bh (gd_pp (gd_gg g t) t (gd_n g)) t 117 16 = _
    rw [b2 16 (by omega) (by omega), p117]
theorem gd_Hd_run {g : gw_Mem} (hJ : gd_JP g) (k : Nat) (hk : k ≤ 300) : gd_Hd (gd_run (gd_beg g) k) := by
  have hb := gd_beg_wf g
  induction k with
  | zero =>
    have b := gd_beg_at g
    have hJb := gd_wf_JP hb hJ
    have hs := hJb.2.1 0 (by omega)
    show gd_Hd (gd_beg g)
    unfold gd_Hd
    rw [b.2.2.1 19 (by omega), b.2.2.1 16 (by omega)]
    have hwl := gd_wl_rng hJb (k := 0) (by omega) 0
    have he := hJb.1
    refine ⟨⟨by omega, by omega⟩, fun j hj => ?_, by omega, by omega⟩
    rw [gd_wf_n hb] at hj
    rw [b.2.1 132 (by omega) j hj]
    have q := (gd_sk_mono hJb (x := 0) (y := 0) (Int.le_refl _) (gd_beg g 118 0).toNat (by omega)).1
    have e : gd_iv 132 = 0 := rfl
    omega
  | succ k ih =>
    have h := ih (by omega)
    have hw := gd_wf_tr hb (gd_run_wf (gd_beg g) k)
    refine gd_Hd_min (gd_wf_JP hw hJ) h (k : Int) (fun j hj => ?_)
    have x := gd_X_run g k (by omega) j hj
    omega
theorem gd_sk_sp (g : gw_Mem) (n : Nat) : gd_sk g (g 117 0) n = gd_sp g n := by
  induction n with
  | zero => rfl
  | succ n ih =>
    rw [gd_sk_s, ih]
    have z : gd_sp g (n + 1) = gd_sp g n + (if g 117 0 ≤ g 119 (n : Int) then 0 else g 120 (n : Int)) := rfl
    rw [z]
    split <;> split <;> omega
/-- nobody hears more than is spoken -/
theorem gd_heard_sp {g : gw_Mem} (hJ : gd_JP g) : ∀ j : Int, 0 ≤ j ∧ j < gd_n g → gd_walks g 132 j ≤ gd_spoken g := by
  intro j hj
  have h := gd_Hd_run hJ 300 (Nat.le_refl _)
  have hw := gd_walks_wf g
  have hn := gd_walks_n g
  have e : gd_run (gd_beg g) 300 = gd_walks g := rfl
  rw [e] at h
  generalize gd_walks g = w at *
  have hJw := gd_wf_JP hw hJ
  have hs := hJw.2.1 0 (by omega)
  have a := h.2.1 j (by omega)
  have sp : gd_spoken g = gd_sk w (w 117 0) (w 118 0).toNat := by
    rw [gd_sk_congr (hw.1 119 (by omega) (by omega)) (hw.1 120 (by omega) (by omega)), hw.1 118 (by omega) (by omega), hw.2 0 (by omega), gd_sk_sp]
    rfl
  rw [sp]
  by_cases hlt : w 117 16 < w 117 0
  · have st := gd_sk_wl hJw hlt
    have := h.1
    omega
  · have hwl := gd_wl_rng hJw (k := 0) (by omega) (w 117 16)
    have e0 : ¬ 0 < gd_wl w 0 (w 117 16) := fun z => hlt (hwl.2.2.mp z).1
    have m := (gd_sk_mono hJw (show w 117 16 ≤ w 117 0 from h.2.2.2) (w 118 0).toNat (by omega)).2
    have := h.1
    omega
