/-! calls of both: flags, slots, the square, the parsers -/
theorem gl_R_m {g m m' : gw_Mem} (h : gl_R g m) (hP : gc_P g m' 4) (hm : ∀ o : Nat, o ≠ 23 → (o < 83 ∨ (109 ≤ o ∧ o < 117)) → ¬ (48 ≤ o ∧ o < 65) → m' o = m o) : gl_R g m' :=
  gl_R_gen h h.1.1 hP (gl_ps_rfl g) (fun o ho => hm o (by omega) (by omega) (by omega)) (by rw [hm 0 (by omega) (by omega) (by omega)]) (gc_W_m h.2.2.2.2.2.1 (by rw [hm 0 (by omega) (by omega) (by omega)]) (by rw [hm 0 (by omega) (by omega) (by omega)]) (hm 1 (by omega) (by omega) (by omega)) (fun o ho => hm o (by omega) (by omega) (by omega))) (gc_B_m h.2.2.2.2.2.2 (by rw [hm 0 (by omega) (by omega) (by omega)]) (hm 2 (by omega) (by omega) (by omega)))
theorem gl_o_colours {M : gw_Mem} (h : gl_R M M) (n pr i : Int) (hp : gw_inR pr) : gl_Op M_X11_colours M_X12_colours [gI n, gI pr, gI i] M := by
  refine ⟨30, _, by decide, sp_X11_colours n pr i hp M, fun v1 m1 _ hq => ⟨20, _, by decide, sp_X12_colours n pr i m1, fun v2 m2 _ hq2 => ⟨gd_isc_uniq hq.1 hq2.1, ?_⟩⟩⟩
  have h1 : gl_R M m1 := gl_R_m h (gc_P_m h.2.1 (fun o h1 h2 => hq.2 o (by omega) (by omega) (by omega))) (fun o h0 h1 h2 => hq.2 o (by omega) (by omega) (by omega))
  have hg : ∀ o : Nat, 117 ≤ o → o ≠ 136 → m2 o = M o := fun o h2 h3 => (hq2.2 o h3).trans (hq.2 o (by omega) (by omega) (by omega))
  refine gl_R_congr h1 ?_ (fun o ho => hq2.2 o (by omega))
  refine ⟨?_, ?_, ?_, ?_, ?_, ?_, ?_, ?_, ?_, ?_, ?_, ?_, ?_, ?_, ?_, ?_, ?_, ?_⟩ <;> rw [hg _ (by omega) (by omega)]
theorem gl_isl_x {M : gw_Mem} (lo : gw_Mem) (s l i n k v : Int) : gd_isl (gl_x lo M) s l i n k v ↔ gd_isl M s l i n k v := by
  unfold gd_isl
  exact Iff.rfl
theorem gl_o_slots {M : gw_Mem} (h : gl_R M M) (s l i n k : Int) : gl_Op M_X11_slots M_X12_slots [gI s, gI l, gI i, gI n, gI k] M := by
  refine ⟨30, _, by decide, sp_X11_slots M M h.1.2.2.2 h.2.2.2.2.1 s l i n k, fun v1 m1 _ hq => ?_⟩
  have he : ∀ o : Nat, 117 ≤ o → m1 o = M o := fun o ho => hq.2 o (by omega)
  have hJ : gd_J m1 := gl_per_J (gl_x_per he) h.1
  refine ⟨20, _, by decide, sp_X12_slots m1 hJ.2.2.2 s l i n k, fun v2 m2 _ hq2 => ?_⟩
  have hi : gd_isl M s l i n k v2 := by
    have h1 := hq2.1
    rw [gl_x_eq he] at h1
    exact (gl_isl_x m1 s l i n k v2).mp h1
  refine ⟨gd_isl_uniq hq.1 hi, ?_⟩
  have h1 : gl_R M m1 := gl_R_m h (gc_P_m h.2.1 (fun o h1 h2 => hq.2 o (by omega))) (fun o h0 h1 h2 => hq.2 o (by omega))
  have hg : ∀ o : Nat, 117 ≤ o → o ≠ 142 → o ≠ 143 → m2 o = M o := fun o h2 h3 h4 => (hq2.2 o h3 h4).trans (he o h2)
  refine gl_R_congr h1 ?_ (fun o ho => hq2.2 o (by omega) (by omega))
  refine ⟨?_, ?_, ?_, ?_, ?_, ?_, ?_, ?_, ?_, ?_, ?_, ?_, ?_, ?_, ?_, ?_, ?_, ?_⟩ <;> rw [hg _ (by omega) (by omega) (by omega)]
theorem gl_hj_c {g g' : gw_Mem} (h : g' 126 = g 126) (h2 : g' 122 = g 122) (p k : Int) (n : Nat) : gd_hj g' p k n = gd_hj g p k n := by
  induction n with
  | zero => rw [gd_hj, gd_hj, h2]
  | succ n ih => rw [gd_hj, gd_hj, ih, h]
theorem gl_fv_c {g g' : gw_Mem} (h : g' 126 = g 126) (h2 : g' 122 = g 122) (p : Int) (n : Nat) : gd_fv g' p n = gd_fv g p n := by
  induction n with
  | zero => rfl
  | succ n ih =>
    have e : gd_hz g' p n = gd_hz g p n := by
      unfold gd_hz
      rw [gl_hj_c h h2, gl_hj_c h h2]
    rw [gd_fv, gd_fv, ih, h, e]
theorem gl_sd_c {g g' : gw_Mem} (h : g' 126 = g 126) (h2 : g' 122 = g 122) (n : Nat) : gd_sd g' n = gd_sd g n := by
  induction n with
  | zero => rfl
  | succ n ih =>
    have e : gd_far g' n = gd_far g n := by
      unfold gd_far
      rw [gl_fv_c h h2, h]
    rw [gd_sd, gd_sd, ih, e]
theorem gl_P_23 {g m m' : gw_Mem} (h : gc_P g m 4) (hm : ∀ o : Nat, 4 ≤ o → o < 25 → o ≠ 23 → m' o = m o) : gc_P g m' 4 := by
  obtain ⟨h1, h2, h3, h4, h5, h6, h7, h8⟩ := h
  refine ⟨by rw [hm 4 (by omega) (by omega) (by omega)]; exact h1, fun k hk => by rw [hm (4 + 2) (by omega) (by omega) (by omega)]; exact h2 k hk, fun k j hk hj => ?_, fun j hj => by rw [hm (4 + 5) (by omega) (by omega) (by omega)]; exact h4 j hj, by rw [hm (4 + 14) (by omega) (by omega) (by omega)]; exact h5, fun j hj => ?_, fun j hj => by rw [hm (4 + 18) (by omega) (by omega) (by omega)]; exact h7 j hj, fun j hj => by rw [hm (4 + 20) (by omega) (by omega) (by omega)]; exact h8 j hj⟩
  · rw [hm (4 + 6 + k.toNat) (by omega) (by omega) (by omega), hm (4 + 10 + k.toNat) (by omega) (by omega) (by omega)]
    exact h3 k j hk hj
  · rw [hm (4 + 15) (by omega) (by omega) (by omega), hm (4 + 16) (by omega) (by omega) (by omega), hm (4 + 17) (by omega) (by omega) (by omega)]
    exact h6 j hj
theorem gl_o_stand {M : gw_Mem} (h : gl_R M M) (w : Int) : gl_Op M_X11_stand M_X12_stand [gI w] M := by
  refine ⟨20, _, by decide, sp_X11_stand M M h.1.1 h.2.1 w, fun v1 m1 _ hq => ⟨20, _, by decide, sp_X12_stand m1 w, fun v2 m2 _ hq2 => ?_⟩⟩
  obtain ⟨rfl, hm⟩ := hq
  obtain ⟨rfl, rfl⟩ := hq2
  have h1 : gl_R M m2 := gl_R_m h (gl_P_23 h.2.1 (fun o _ _ h2 => hm o h2)) (fun o h0 _ _ => hm o h0)
  refine ⟨?_, gl_R_congr h1 (gl_x_per (fun o ho => hm o (by omega))) (fun o _ => rfl)⟩
  unfold ga_stand
  rw [gl_sd_c (g := M) (hm 126 (by omega)) (hm 122 (by omega))]
/-- the tape is read -/
theorem gl_R_taped {g m g' m' : gw_Mem} (h : gl_R g m) (hJ : gd_JP g') (hP : gc_P g' m' 4) (h12 : g' 117 12 = 0) (h46 : m' 46 1 = 0) (h34 : g' 117 34 = g 117 34) (hg : ∀ o : Nat, 137 ≤ o → o < 141 → g' o = g o) (hm : ∀ o : Nat, (25 ≤ o ∧ o < 46) ∨ (109 ≤ o ∧ o < 117) → m' o = m o) (h02 : m' 0 2 = m 0 2) (hW : gc_W g' m') (hB : gc_B g' m') : gl_R g' m' := by
  obtain ⟨⟨j1, j2, j3, j4⟩, r1, r2, r3, r4, -, -⟩ := h
  exact ⟨⟨hJ, ⟨by rw [h12]; omega, fun j hj => by rw [h12] at hj; omega⟩, gd_JI_congr j3 h34 (hg 137 (by omega) (by omega)), gd_JS_congr j4 (hg 138 (by omega) (by omega)) (hg 139 (by omega) (by omega))⟩, hP, ⟨by rw [h46, h12], fun j hj => by rw [h12] at hj; omega⟩, gc_I_congr r3 h02 (fun o h1 h2 => hm o (by omega)) h34 (hg 137 (by omega) (by omega)), gc_S_congr r4 (fun o h1 h2 => hm o (by omega)) (hg 138 (by omega) (by omega)) (hg 139 (by omega) (by omega)) (hg 140 (by omega) (by omega)), hW, hB⟩
theorem gl_wm_x {M : gw_Mem} (lo : gw_Mem) (r : Int → Int) (n : Nat) : gd_wm (gl_x lo M) r n = gl_x lo (gd_wm M r n) := by
  induction n with
  | zero =>
    funext o j
    show (if o = 118 ∧ 0 ≤ j ∧ j < 4 then 0 else gl_x lo M o j) = gl_x lo (fun o j => if o = 118 ∧ 0 ≤ j ∧ j < 4 then 0 else M o j) o j
    by_cases ho : o < 117
    · rw [gl_x_lo ho, gl_x_lo ho, if_neg (by omega)]
    · rw [gl_x_hi (by omega), gl_x_hi (by omega)]
  | succ n ih => rw [gd_wm, gd_wm, ih, gl_comes_x]
theorem gl_gm_x {M : gw_Mem} (lo : gw_Mem) (r : Int → Int) (n : Nat) : gd_gm (gl_x lo M) r n = gl_x lo (gd_gm M r n) := by
  induction n with
  | zero =>
    rw [gd_gm, gd_gm, gl_x_up (by omega)]
  | succ n ih =>
    rw [gd_gm, gd_gm, ih]
    unfold gd_joins
    rw [gl_x_up (by omega), gl_x_up (by omega), gl_x_up (by omega), gl_x_up (by omega)]
    rfl
theorem gl_rw_x {M : gw_Mem} (lo : gw_Mem) : ga_rw (gl_x lo M) = ga_rw M := by
  unfold ga_rw
  rfl
theorem gl_rg_x {M : gw_Mem} (lo : gw_Mem) : ga_rg (gl_x lo M) = ga_rg M := by
  unfold ga_rg
  rfl
theorem gl_o_way {M : gw_Mem} (h : gl_R M M) : gl_Op M_X11_way M_X12_way [] M := by
  refine ⟨20, _, by decide, sp_X11_way M M h.1.1 h.2.1 h.1.2.1 h.2.2.1, fun v1 m1 _ hq => ?_⟩
  obtain ⟨rfl, hq⟩ := hq
  have he : ∀ o : Nat, 117 ≤ o → m1 o = M o := fun o ho => by
    unfold gc_wq at hq
    split at hq
    · exact hq.2.2.2 o (by omega) (by omega) (by omega) (by omega)
    · exact hq.2 o (by omega) (by omega)
  have hx := gl_x_eq he
  have hJ : gd_J m1 := gl_per_J (gl_x_per he) h.1
  refine ⟨20, _, by decide, sp_X12_way m1 hJ.1 hJ.2.1, fun v2 m2 _ hq2 => ?_⟩
  obtain ⟨rfl, k1, k2, k3⟩ := hq2
  have hrw : ga_rw m1 = ga_rw M := by
    rw [hx]
    exact gl_rw_x _
  rw [hrw] at k1
  refine ⟨by rw [hrw], ?_⟩
  unfold gc_wq at hq
  split at hq
  · rename_i hpos
    rw [if_pos hpos] at k1
    obtain ⟨q1, q2, ⟨q3, q4, q5⟩, q6⟩ := hq
    have hgood := ga_rw_good h.1.2.1
    have hwm : gd_wm m1 (ga_rw M).2 (ga_rw M).1.toNat = gl_x m1 (gd_wm M (ga_rw M).2 (ga_rw M).1.toNat) := by
      rw [hx, gl_wm_x, ← hx]
    generalize hG : gd_wm M (ga_rw M).2 (ga_rw M).1.toNat = G at q1 hwm
    rw [hwm] at k1
    have hGJ : gd_JP G := by
      rw [← hG]
      refine gd_wm_JP h.1.1 _ _ (by omega) (fun k hk => ?_)
      rcases hgood with z | z
      · omega
      · exact z.2 k (by omega)
    have hGne : ∀ o : Nat, o ≠ 118 → o ≠ 119 → o ≠ 120 → o ≠ 121 → G o = M o := fun o h1 h2 h3 h4 => by
      rw [← hG]
      exact gd_wm_ne M _ _ h1 h2 h3 h4
    have hhi : ∀ o : Nat, 118 ≤ o → o ≠ 128 → m2 o = G o := fun o h1 h2 => (k1 o (by omega) h2).trans (gl_x_hi (by omega))
    have hlo : ∀ o : Nat, o < 117 → m2 o = m1 o := fun o h1 => (k1 o (by omega) (by omega)).trans (gl_x_lo h1)
    have f : ∀ j : Int, j ≠ 12 → j ≠ 13 → j ≠ 14 → m2 117 j = G 117 j := fun j h1 h2 h3 => by rw [k2 j h1 h2 h3, he 117 (by omega), hGne 117 (by omega) (by omega) (by omega) (by omega)]
    have hJ2 : gd_JP m2 := gd_JP_congr hGJ (f 0 (by omega) (by omega) (by omega)) (f 6 (by omega) (by omega) (by omega)) (hhi _ (by omega) (by omega)) (hhi _ (by omega) (by omega)) (hhi _ (by omega) (by omega)) (hhi _ (by omega) (by omega)) (hhi _ (by omega) (by omega)) (hhi _ (by omega) (by omega)) (hhi _ (by omega) (by omega)) (hhi _ (by omega) (by omega)) (hhi _ (by omega) (by omega))
    have hP2 : gc_P m2 m2 4 := gc_P_congr q1 (fun o h1 h2 => hlo o (by omega)) (f 0 (by omega) (by omega) (by omega)) (f 6 (by omega) (by omega) (by omega)) (hhi _ (by omega) (by omega)) (hhi _ (by omega) (by omega)) (hhi _ (by omega) (by omega)) (hhi _ (by omega) (by omega)) (hhi _ (by omega) (by omega)) (hhi _ (by omega) (by omega)) (hhi _ (by omega) (by omega)) (hhi _ (by omega) (by omega)) (hhi _ (by omega) (by omega))
    refine gl_R_taped h hJ2 hP2 k3 (by rw [hlo 46 (by omega)]; exact q2) ?_ (fun o h1 h2 => ?_) (fun o ho => (hlo o (by omega)).trans (q6 o (by omega) (by omega) (by omega) (by omega))) (by rw [hlo 0 (by omega)]; exact q5 2 (by omega) (by omega)) (gl_W0 (by rw [hlo 0 (by omega)]; exact q3)) (gl_B0 (by rw [hlo 0 (by omega)]; exact q4))
    · rw [f 34 (by omega) (by omega) (by omega), hGne 117 (by omega) (by omega) (by omega) (by omega)]
    · rw [hhi o (by omega) (by omega), hGne o (by omega) (by omega) (by omega) (by omega)]
  · rename_i hpos
    rw [if_neg hpos] at k1
    obtain ⟨q1, q2⟩ := hq
    have hhi : ∀ o : Nat, 118 ≤ o → o ≠ 128 → m2 o = M o := fun o h1 h2 => (k1 o (by omega) h2).trans (he o (by omega))
    have hlo : ∀ o : Nat, o < 117 → m2 o = m1 o := fun o h1 => k1 o (by omega) (by omega)
    have f : ∀ j : Int, j ≠ 12 → j ≠ 13 → j ≠ 14 → m2 117 j = M 117 j := fun j h1 h2 h3 => by rw [k2 j h1 h2 h3, he 117 (by omega)]
    have hJ2 : gd_JP m2 := gd_JP_congr h.1.1 (f 0 (by omega) (by omega) (by omega)) (f 6 (by omega) (by omega) (by omega)) (hhi _ (by omega) (by omega)) (hhi _ (by omega) (by omega)) (hhi _ (by omega) (by omega)) (hhi _ (by omega) (by omega)) (hhi _ (by omega) (by omega)) (hhi _ (by omega) (by omega)) (hhi _ (by omega) (by omega)) (hhi _ (by omega) (by omega)) (hhi _ (by omega) (by omega))
    have hl : ∀ o : Nat, o < 117 → o ≠ 46 → ¬ (48 ≤ o ∧ o < 61) → m2 o = M o := fun o h1 h2 h3 => (hlo o h1).trans (q2 o h2 h3)
    have hP2 : gc_P m2 m2 4 := gc_P_congr h.2.1 (fun o h1 h2 => hl o (by omega) (by omega) (by omega)) (f 0 (by omega) (by omega) (by omega)) (f 6 (by omega) (by omega) (by omega)) (hhi _ (by omega) (by omega)) (hhi _ (by omega) (by omega)) (hhi _ (by omega) (by omega)) (hhi _ (by omega) (by omega)) (hhi _ (by omega) (by omega)) (hhi _ (by omega) (by omega)) (hhi _ (by omega) (by omega)) (hhi _ (by omega) (by omega)) (hhi _ (by omega) (by omega))
    have hqq : gd_pq M m2 := ⟨fun o ho => hhi o (by omega) (by omega), f 0 (by omega) (by omega) (by omega), f 6 (by omega) (by omega) (by omega)⟩
    have h0 := hl 0 (by omega) (by omega) (by omega)
    exact gl_R_taped h hJ2 hP2 k3 (by rw [hlo 46 (by omega)]; exact q1) (f 34 (by omega) (by omega) (by omega)) (fun o h1 h2 => hhi o (by omega) (by omega)) (fun o ho => hl o (by omega) (by omega) (by omega)) (by rw [h0]) (gc_W_m (gc_W_pq h.1.1 h.2.2.2.2.2.1 hqq) (by rw [h0]) (by rw [h0]) (hl 1 (by omega) (by omega) (by omega)) (fun o ho => hl o (by omega) (by omega) (by omega))) (gc_B_m (gc_B_pq h.1.1 h.2.2.2.2.2.2 hqq) (by rw [h0]) (hl 2 (by omega) (by omega) (by omega)))
theorem gl_o_group {M : gw_Mem} (h : gl_R M M) : gl_Op M_X11_group M_X12_group [] M := by
  refine ⟨20, _, by decide, sp_X11_group M M h.1.1 h.2.1 h.1.2.1 h.2.2.1, fun v1 m1 _ hq => ?_⟩
  obtain ⟨rfl, hq⟩ := hq
  have he : ∀ o : Nat, 117 ≤ o → m1 o = M o := fun o ho => by
    unfold gc_gq at hq
    split at hq
    · exact hq.2.2.2 o (by omega) (by omega) (by omega) (by omega)
    · exact hq.2 o (by omega) (by omega)
  have hx := gl_x_eq he
  have hJ : gd_J m1 := gl_per_J (gl_x_per he) h.1
  refine ⟨20, _, by decide, sp_X12_group m1 hJ.1 hJ.2.1, fun v2 m2 _ hq2 => ?_⟩
  obtain ⟨rfl, k1, k2, k3⟩ := hq2
  have hrw : ga_rg m1 = ga_rg M := by
    rw [hx]
    exact gl_rg_x _
  rw [hrw] at k1 k2
  refine ⟨by rw [hrw], ?_⟩
  unfold gc_gq at hq
  split at hq
  · rename_i hpos
    rw [if_pos hpos] at k1 k2
    obtain ⟨q1, q2, ⟨q3, q4, q5⟩, q6⟩ := hq
    have hgood := ga_rg_good h.1.2.1
    have hwm : gd_gm m1 (ga_rg M).2 (ga_rg M).1.toNat = gl_x m1 (gd_gm M (ga_rg M).2 (ga_rg M).1.toNat) := by
      rw [hx, gl_gm_x, ← hx]
    generalize hG : gd_gm M (ga_rg M).2 (ga_rg M).1.toNat = G at q1 hwm
    rw [hwm] at k1 k2
    have hGJ : gd_JP G := by
      rw [← hG]
      refine gd_gm_JP h.1.1 _ _ (by omega) (fun k hk => ?_)
      rcases hgood with z | z
      · omega
      · exact z.2 k (by omega)
    have hGne : ∀ o : Nat, o ≠ 117 → o ≠ 123 → o ≠ 124 → o ≠ 125 → G o = M o := fun o h1 h2 h3 h4 => by
      rw [← hG]
      exact gd_gm_ne M _ _ h1 h2 h3 h4
    have hG34 : G 117 34 = M 117 34 := by
      rw [← hG, gd_gm_117, if_neg (by omega)]
    have hhi : ∀ o : Nat, 118 ≤ o → o ≠ 128 → m2 o = G o := fun o h1 h2 => (k1 o (by omega) h2).trans (gl_x_hi (by omega))
    have hlo : ∀ o : Nat, o < 117 → m2 o = m1 o := fun o h1 => (k1 o (by omega) (by omega)).trans (gl_x_lo h1)
    have f : ∀ j : Int, j ≠ 12 → j ≠ 13 → j ≠ 14 → m2 117 j = G 117 j := fun j h1 h2 h3 => by rw [k2 j h1 h2 h3, gl_x_hi (by omega)]
    have hJ2 : gd_JP m2 := gd_JP_congr hGJ (f 0 (by omega) (by omega) (by omega)) (f 6 (by omega) (by omega) (by omega)) (hhi _ (by omega) (by omega)) (hhi _ (by omega) (by omega)) (hhi _ (by omega) (by omega)) (hhi _ (by omega) (by omega)) (hhi _ (by omega) (by omega)) (hhi _ (by omega) (by omega)) (hhi _ (by omega) (by omega)) (hhi _ (by omega) (by omega)) (hhi _ (by omega) (by omega))
    have hP2 : gc_P m2 m2 4 := gc_P_congr q1 (fun o h1 h2 => hlo o (by omega)) (f 0 (by omega) (by omega) (by omega)) (f 6 (by omega) (by omega) (by omega)) (hhi _ (by omega) (by omega)) (hhi _ (by omega) (by omega)) (hhi _ (by omega) (by omega)) (hhi _ (by omega) (by omega)) (hhi _ (by omega) (by omega)) (hhi _ (by omega) (by omega)) (hhi _ (by omega) (by omega)) (hhi _ (by omega) (by omega)) (hhi _ (by omega) (by omega))
    refine gl_R_taped h hJ2 hP2 k3 (by rw [hlo 46 (by omega)]; exact q2) ?_ (fun o h1 h2 => ?_) (fun o ho => (hlo o (by omega)).trans (q6 o (by omega) (by omega) (by omega) (by omega))) (by rw [hlo 0 (by omega)]; exact q5 2 (by omega) (by omega)) (gl_W0 (by rw [hlo 0 (by omega)]; exact q3)) (gl_B0 (by rw [hlo 0 (by omega)]; exact q4))
    · rw [f 34 (by omega) (by omega) (by omega), hG34]
    · rw [hhi o (by omega) (by omega), hGne o (by omega) (by omega) (by omega) (by omega)]
  · rename_i hpos
    rw [if_neg hpos] at k1 k2
    obtain ⟨q1, q2⟩ := hq
    have hhi : ∀ o : Nat, 118 ≤ o → o ≠ 128 → m2 o = M o := fun o h1 h2 => (k1 o (by omega) h2).trans (he o (by omega))
    have hlo : ∀ o : Nat, o < 117 → m2 o = m1 o := fun o h1 => k1 o (by omega) (by omega)
    have f : ∀ j : Int, j ≠ 12 → j ≠ 13 → j ≠ 14 → m2 117 j = M 117 j := fun j h1 h2 h3 => by rw [k2 j h1 h2 h3, he 117 (by omega)]
    have hJ2 : gd_JP m2 := gd_JP_congr h.1.1 (f 0 (by omega) (by omega) (by omega)) (f 6 (by omega) (by omega) (by omega)) (hhi _ (by omega) (by omega)) (hhi _ (by omega) (by omega)) (hhi _ (by omega) (by omega)) (hhi _ (by omega) (by omega)) (hhi _ (by omega) (by omega)) (hhi _ (by omega) (by omega)) (hhi _ (by omega) (by omega)) (hhi _ (by omega) (by omega)) (hhi _ (by omega) (by omega))
    have hl : ∀ o : Nat, o < 117 → o ≠ 46 → ¬ (61 ≤ o ∧ o < 65) → m2 o = M o := fun o h1 h2 h3 => (hlo o h1).trans (q2 o h2 h3)
    have hP2 : gc_P m2 m2 4 := gc_P_congr h.2.1 (fun o h1 h2 => hl o (by omega) (by omega) (by omega)) (f 0 (by omega) (by omega) (by omega)) (f 6 (by omega) (by omega) (by omega)) (hhi _ (by omega) (by omega)) (hhi _ (by omega) (by omega)) (hhi _ (by omega) (by omega)) (hhi _ (by omega) (by omega)) (hhi _ (by omega) (by omega)) (hhi _ (by omega) (by omega)) (hhi _ (by omega) (by omega)) (hhi _ (by omega) (by omega)) (hhi _ (by omega) (by omega))
    have hqq : gd_pq M m2 := ⟨fun o ho => hhi o (by omega) (by omega), f 0 (by omega) (by omega) (by omega), f 6 (by omega) (by omega) (by omega)⟩
    have h0 := hl 0 (by omega) (by omega) (by omega)
    exact gl_R_taped h hJ2 hP2 k3 (by rw [hlo 46 (by omega)]; exact q1) (f 34 (by omega) (by omega) (by omega)) (fun o h1 h2 => hhi o (by omega) (by omega)) (fun o ho => hl o (by omega) (by omega) (by omega)) (by rw [h0]) (gc_W_m (gc_W_pq h.1.1 h.2.2.2.2.2.1 hqq) (by rw [h0]) (by rw [h0]) (hl 1 (by omega) (by omega) (by omega)) (fun o ho => hl o (by omega) (by omega) (by omega))) (gc_B_m (gc_B_pq h.1.1 h.2.2.2.2.2.2 hqq) (by rw [h0]) (hl 2 (by omega) (by omega) (by omega)))
