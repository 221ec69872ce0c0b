/-! from call to call: the relation that lasts -/
def gl_R (g m : gw_Mem) : Prop := gd_J g ∧ gc_P g m 4 ∧ gc_T g m ∧ gc_I g m ∧ gc_S g m ∧ gc_W g m ∧ gc_B g m
theorem gd_vb_pq {g g' : gw_Mem} (h : gd_pq g g') (h0 : 0 ≤ g 117 6) (hN : g 117 6 ≤ 10) (T : Int) (c : Nat) : gd_vb g' T c = gd_vb g T c := by
  induction c with
  | zero => rfl
  | succ c ih =>
    have e : gd_inT (gd_bq g' c) T = gd_inT (gd_bq g c) T := by
      have hq : gd_pq (gd_bq g c) (gd_bq g' c) := by
        refine ⟨fun o ho => ?_, ?_, ?_⟩
        · unfold gd_bq
          funext j
          by_cases h2 : o = 122
          · subst h2
            simp only [gw_up_at]
            rw [h.1 122 (by omega)]
          · rw [gw_up_ne h2, gw_up_ne h2, gw_up_ne h2, gw_up_ne h2, gw_up_ne h2, gw_up_ne h2, h.1 o ho]
        · exact h.2.1
        · exact h.2.2
      have h6 : (gd_bq g c) 117 6 = g 117 6 := rfl
      exact (gd_inT_pb (N := (g 117 6).toNat) (gd_pb_pq _ hq) (by rw [h6]; omega) (by omega) T).2.2
    rw [gd_vb, gd_vb, ih, e]
theorem gc_B_pq {g g' m : gw_Mem} (hJ : gd_JP g) (h : gc_B g m) (hg : gd_pq g g') : gc_B g' m := by
  intro h12
  obtain ⟨h1, T, h2, h3, h4⟩ := h h12
  have h5 := hJ.2.2.2.2.1
  exact ⟨by rw [hg.2.2]; exact h1, T, h2, h3, by rw [gd_vb_pq hg (by omega) (by omega)]; exact h4⟩
theorem gc_B_m {g m m' : gw_Mem} (h : gc_B g m) (h12 : m' 0 12 = m 0 12) (h2 : m' 2 = m 2) : gc_B g m' := by
  intro h0
  rw [h12] at h0 ⊢
  obtain ⟨h1, T, h3, h4, h5⟩ := h h0
  refine ⟨h1, T, h3, h4, ?_⟩
  unfold gc_bv at h5 ⊢
  rw [h2]
  exact h5
theorem gl_per_pq {g g' : gw_Mem} (h : gd_per g g') : gd_pq g g' := by
  obtain ⟨h0, h6, h12, h34, a8, a9, b0, b1, b2, b3, b4, b5, b6, b7, c7, c8, c9, d0⟩ := h
  refine ⟨fun o ho => ?_, h0, h6⟩
  have : o = 118 ∨ o = 119 ∨ o = 120 ∨ o = 122 ∨ o = 123 ∨ o = 124 ∨ o = 125 := by omega
  rcases this with rfl | rfl | rfl | rfl | rfl | rfl | rfl <;> assumption
theorem gl_per_JP {g g' : gw_Mem} (h : gd_per g g') (hJ : gd_JP g) : gd_JP g' := by
  obtain ⟨h0, h6, h12, h34, a8, a9, b0, b1, b2, b3, b4, b5, b6, b7, c7, c8, c9, d0⟩ := h
  exact gd_JP_congr hJ h0 h6 a8 a9 b0 b1 b2 b3 b4 b5 b6
theorem gl_per_J {g g' : gw_Mem} (h : gd_per g g') (hJ : gd_J g) : gd_J g' := by
  obtain ⟨h0, h6, h12, h34, a8, a9, b0, b1, b2, b3, b4, b5, b6, b7, c7, c8, c9, d0⟩ := h
  exact ⟨gd_JP_congr hJ.1 h0 h6 a8 a9 b0 b1 b2 b3 b4 b5 b6, gd_JT_congr hJ.2.1 h12 b7, gd_JI_congr hJ.2.2.1 h34 c7, gd_JS_congr hJ.2.2.2 c8 c9⟩
/-- what a change of the plan leaves -/
def gl_ps (g g' : gw_Mem) : Prop := g' 117 12 = g 117 12 ∧ g' 127 = g 127 ∧ g' 117 34 = g 117 34 ∧ g' 137 = g 137 ∧ g' 138 = g 138 ∧ g' 139 = g 139 ∧ g' 140 = g 140
def gl_ms (m m' : gw_Mem) : Prop := ∀ o : Nat, (25 ≤ o ∧ o < 48) ∨ (109 ≤ o ∧ o < 117) → m' o = m o
theorem gl_R_gen {g m g' m' : gw_Mem} (h : gl_R g m) (hJ : gd_JP g') (hP : gc_P g' m' 4) (hp : gl_ps g g') (hm : gl_ms m m') (h02 : m' 0 2 = m 0 2) (hW : gc_W g' m') (hB : gc_B g' m') : gl_R g' m' := by
  obtain ⟨⟨j1, j2, j3, j4⟩, r1, r2, r3, r4, -, -⟩ := h
  obtain ⟨p12, p127, p34, p137, p138, p139, p140⟩ := hp
  exact ⟨⟨hJ, gd_JT_congr j2 p12 p127, gd_JI_congr j3 p34 p137, gd_JS_congr j4 p138 p139⟩, hP, gc_T_congr r2 (hm 46 (by omega)) (hm 47 (by omega)) p12 p127, gc_I_congr r3 h02 (fun o h1 h2 => hm o (by omega)) p34 p137, gc_S_congr r4 (fun o h1 h2 => hm o (by omega)) p138 p139 p140, hW, hB⟩
theorem gl_W0 {g m : gw_Mem} (h : m 0 8 = 0) : gc_W g m := fun h8 => absurd h h8
theorem gl_B0 {g m : gw_Mem} (h : m 0 12 = -1) : gc_B g m := fun h12 => by omega
theorem gl_R_fg {g m g' m1 : gw_Mem} (h : gl_R g m) (hJ : gd_JP g') (hP : gc_P g' m1 4) (hp : gl_ps g g') (hm : ∀ o : Nat, (o < 4 ∨ 25 ≤ o) → m1 o = m o) : gl_R g' (gc_fg m1) := by
  have hf : ∀ o : Nat, o ≠ 0 → gc_fg m1 o = m1 o := fun o ho => by
    unfold gc_fg
    rw [gw_up_ne ho, gw_up_ne ho]
  refine gl_R_gen h hJ (gc_P_m hP (fun o h1 h2 => hf o (by omega))) hp (fun o ho => by rw [hf o (by omega), hm o (by omega)]) ?_ (gl_W0 rfl) (gl_B0 rfl)
  show m1 0 2 = m 0 2
  rw [hm 0 (by omega)]
theorem gl_R_congr {g m g' m' : gw_Mem} (h : gl_R g m) (hg : gd_per g g') (hm : ∀ o : Nat, o < 117 → m' o = m o) : gl_R g' m' := by
  have hq := gl_per_pq hg
  have hJ := gl_per_JP hg h.1.1
  have hW : gc_W g' m' := gc_W_m (gc_W_pq h.1.1 h.2.2.2.2.2.1 hq) (by rw [hm 0 (by omega)]) (by rw [hm 0 (by omega)]) (hm 1 (by omega)) (fun o ho => hm o (by omega))
  have hB : gc_B g' m' := gc_B_m (gc_B_pq h.1.1 h.2.2.2.2.2.2 hq) (by rw [hm 0 (by omega)]) (hm 2 (by omega))
  obtain ⟨h0, h6, h12, h34, a8, a9, b0, b1, b2, b3, b4, b5, b6, b7, c7, c8, c9, d0⟩ := hg
  exact gl_R_gen h hJ (gc_P_congr h.2.1 (fun o h1 h2 => hm o (by omega)) h0 h6 a8 a9 b0 b1 b2 b3 b4 b5 b6) ⟨h12, b7, h34, c7, c8, c9, d0⟩ (fun o ho => hm o (by omega)) (by rw [hm 0 (by omega)]) hW hB
/-- one memory's class part, another's reference part -/
def gl_x (lo hi : gw_Mem) : gw_Mem := fun o => if o < 117 then lo o else hi o
theorem gl_x_lo {lo hi : gw_Mem} {o : Nat} (h : o < 117) : gl_x lo hi o = lo o := if_pos h
theorem gl_x_hi {lo hi : gw_Mem} {o : Nat} (h : 117 ≤ o) : gl_x lo hi o = hi o := if_neg (by omega)
theorem gl_x_eq {m M : gw_Mem} (h : ∀ o : Nat, 117 ≤ o → m o = M o) : m = gl_x m M := by
  funext o
  by_cases ho : o < 117
  · rw [gl_x_lo ho]
  · rw [gl_x_hi (by omega), h o (by omega)]
theorem gl_x_per {m M : gw_Mem} (h : ∀ o : Nat, 117 ≤ o → m o = M o) : gd_per M m := by
  refine ⟨?_, ?_, ?_, ?_, ?_, ?_, ?_, ?_, ?_, ?_, ?_, ?_, ?_, ?_, ?_, ?_, ?_, ?_⟩ <;> rw [h _ (by omega)]
theorem gl_x_up {lo hi : gw_Mem} {o : Nat} {j v : Int} (h : 117 ≤ o) : gw_up (gl_x lo hi) o j v = gl_x lo (gw_up hi o j v) := by
  funext q
  by_cases hq : q < 117
  · rw [gw_up_ne (by omega), gl_x_lo hq, gl_x_lo hq]
  · rw [gl_x_hi (by omega)]
    funext i
    unfold gw_up
    rw [gl_x_hi (by omega)]
theorem gl_x_cp {lo hi : gw_Mem} {o o' : Nat} {a b n : Int} (h : 117 ≤ o) (h' : 117 ≤ o') : gw_cp (gl_x lo hi) o a o' b n = gl_x lo (gw_cp hi o a o' b n) := by
  funext q
  by_cases hq : q < 117
  · rw [gw_cp_ne (by omega), gl_x_lo hq, gl_x_lo hq]
  · rw [gl_x_hi (by omega)]
    funext i
    unfold gw_cp
    rw [gl_x_hi h, gl_x_hi (show 117 ≤ q by omega)]
theorem gl_x_fill {lo hi : gw_Mem} {o : Nat} {a n v : Int} (h : 117 ≤ o) : gw_fill (gl_x lo hi) o a n v = gl_x lo (gw_fill hi o a n v) := by
  funext q
  by_cases hq : q < 117
  · rw [gw_fill_ne (by omega), gl_x_lo hq, gl_x_lo hq]
  · rw [gl_x_hi (by omega)]
    funext i
    unfold gw_fill
    rw [gl_x_hi (by omega)]
/-- what a call of both must bring -/
def gl_Op (c1 c2 : gw_MT) (a : List gw_SV) (M : gw_Mem) : Prop := ∃ (d1 : Nat) (P1 : Int → gw_Mem → Prop), d1 ≤ 40 ∧ gw_SpecI c1 d1 (gR 0 :: a) M P1 ∧ ∀ (v1 : Int) (m1 : gw_Mem), gw_okM m1 → P1 v1 m1 → ∃ (d2 : Nat) (P2 : Int → gw_Mem → Prop), d2 ≤ 40 ∧ gw_SpecI c2 d2 (gR 117 :: a) m1 P2 ∧ ∀ (v2 : Int) (m2 : gw_Mem), gw_okM m2 → P2 v2 m2 → v1 = v2 ∧ gl_R m2 m2
theorem gl_fun {c1 c2 : gw_MT} {a : List gw_SV} {M m1 : gw_Mem} {d1 d2 : Nat} (ga : gw_Mem → Int) (gu : gw_Mem → gw_Mem) (h1 : gw_SpecI c1 d1 (gR 0 :: a) M (fun v m' => v = ga M ∧ m' = m1)) (h2 : gd_J m1 → gw_SpecI c2 d2 (gR 117 :: a) m1 (fun v m' => v = ga m1 ∧ m' = gu m1)) (hd1 : d1 ≤ 40) (hd2 : d2 ≤ 40) (hM : gd_J M) (he : ∀ o : Nat, 117 ≤ o → m1 o = M o) (hga : ∀ lo : gw_Mem, ga (gl_x lo M) = ga M) (hgu : ∀ lo : gw_Mem, gu (gl_x lo M) = gl_x lo (gu M)) (hR : gl_R (gu M) m1) : gl_Op c1 c2 a M := by
  have hx := gl_x_eq he
  have hJ : gd_J m1 := gl_per_J (gl_x_per he) hM
  refine ⟨d1, _, hd1, h1, fun v1 m' _ hq => ?_⟩
  obtain ⟨rfl, rfl⟩ := hq
  refine ⟨d2, _, hd2, h2 hJ, fun v2 m2 _ hq2 => ?_⟩
  obtain ⟨rfl, rfl⟩ := hq2
  refine ⟨?_, ?_⟩
  · rw [hx, hga]
  · have e : gu m' = gl_x m' (gu M) := by
      rw [hx, hgu, ← hx]
    have h3 : gl_R (gu M) m' := hR
    generalize gu m' = m2 at e
    subst e
    exact gl_R_congr h3 (gl_x_per (fun o ho => gl_x_hi ho)) (fun o ho => gl_x_lo ho)
/-- a call that leaves both memories -/
theorem gl_ask {c1 c2 : gw_MT} {a : List gw_SV} {M : gw_Mem} {d1 d2 : Nat} (ga : gw_Mem → Int) (hR : gl_R M M) (h1 : gw_SpecI c1 d1 (gR 0 :: a) M (fun v m' => v = ga M ∧ m' = M)) (h2 : gw_SpecI c2 d2 (gR 117 :: a) M (fun v m' => v = ga M ∧ m' = M)) (hd1 : d1 ≤ 40) (hd2 : d2 ≤ 40) : gl_Op c1 c2 a M :=
  ⟨d1, _, hd1, h1, fun v1 m1 _ hq => ⟨d2, _, hd2, by obtain ⟨-, rfl⟩ := hq; exact h2, fun v2 m2 _ hq2 => by
    obtain ⟨rfl, rfl⟩ := hq
    obtain ⟨rfl, rfl⟩ := hq2
    exact ⟨rfl, hR⟩⟩⟩
