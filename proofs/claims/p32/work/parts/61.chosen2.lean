/-! the class: what is chosen -/
theorem sp_X6_valueIfFits (g m : gw_Mem) (hJ : gd_JP g) (hP : gc_P g m 4) (s l : Int) (hl : 0 ≤ l ∧ l ≤ 999) : gw_SpecI M_X6_valueIfFits 11 [gR 4, gI s, gI l] m (fun r m' => r = (if l < gd_ct g s (g 118 0).toNat then -1 else gd_cw g s (g 118 0).toNat) ∧ m' = m) := by
  refine gw_intro pl_X6_valueIfFits rfl (fun Γ => ?_)
  have hs := hJ.2.1 0 (by omega)
  obtain ⟨n, hN⟩ := gw_nat hs.1
  have en : (g 118 0).toNat = n := by omega
  have hb : gw_isPlan 4 := by simp [gw_isPlan]
  have h6 : m (4 + 2) 0 = g 118 0 := hP.2.1 0 (by omega)
  apply r_X6_valueIfFits_0 4 hb
  rw [en]
  have key : ∀ (j i : Nat), i + j = n → gd_ct g s i ≤ 1000 * i → gw_G M_X6_valueIfFits 11 (fun r m' => ∃ v, r = some (gI v) ∧ v = (if l < gd_ct g s n then -1 else gd_cw g s n) ∧ m' = m) Γ 8 [some (gR 4), some (gI s), some (gI l), some (gI (l - gd_ct g s i)), some (gI (gd_cw g s i)), some (gI (i : Int))] [] m := by
    intro j
    induction j with
    | zero =>
      intro i hi _
      apply r_X6_valueIfFits_8 4 hb
      rw [h6]
      have ei : i = n := by omega
      refine ⟨fun _ => gw_rE ?_ rfl, fun z => absurd (by omega) z⟩
      rw [ei]
      by_cases h : l < gd_ct g s n
      · rw [if_pos h, if_neg (by omega)]
      · rw [if_neg h, if_pos (by omega)]
    | succ j ih =>
      intro i hi hle
      apply r_X6_valueIfFits_8 4 hb
      rw [h6]
      have r1 := gd_ct_rng hJ s (i + 1) (by omega)
      have r0 := gd_ct_rng hJ s i (by omega)
      have z1 := gd_ct_s g s i
      have z2 := gd_cw_s g s i
      have hm := hP.2.2.1 0 i (by omega) (by omega)
      rw [show 8 * (0 : Int) + i = i by omega] at hm
      have hm1 : m (4 + 6) (i : Int) = g 119 i := hm.1
      have hm2 : m (4 + 10) (i : Int) = g 120 i := hm.2
      have hm3 : m (4 + 5) (i : Int) = g 121 i := hP.2.2.2.1 i (by omega)
      have h0 : m 4 0 = g 117 0 := hP.1
      have nxt := ih (i + 1) (by omega) (by omega)
      refine ⟨fun z => absurd z (by omega), fun _ => ⟨fun hbit => ?_, fun hbit => ?_⟩⟩
      · refine gw_CI.eq (sp_X6_isMet 4 hb i m (by omega)) rfl ?_
        rw [hm1, h0]
        rw [if_pos hbit] at z1 z2
        by_cases hmet : g 117 0 ≤ g 119 (i : Int)
        · rw [if_pos hmet]
          rw [if_neg (show ¬ g 119 (i : Int) < g 117 0 by omega)] at z1
          have mono := gd_ct_mono hJ s (i + 1) j (by omega)
          rw [show i + 1 + j = n by omega] at mono
          exact ⟨fun _ => gw_rE (by rw [if_pos (by omega)]) rfl, fun z => absurd rfl z⟩
        · rw [if_neg hmet]
          rw [if_pos (show g 119 (i : Int) < g 117 0 by omega)] at z1
          refine ⟨fun z => absurd z (by omega), fun _ => ⟨gw_inm (by omega) (by omega), gw_inm (by omega) (by omega), ?_⟩⟩
          apply r_X6_valueIfFits_73 4 hb
          rw [hm2, hm3, gw_w1 (by omega), gw_w_id (x := l - gd_ct g s i - g 120 (i : Int)) (by omega), gw_w_id (x := gd_cw g s i + g 121 (i : Int)) (by omega)]
          rw [z1, z2, show l - (gd_ct g s i + g 120 (i : Int)) = l - gd_ct g s i - g 120 (i : Int) by omega] at nxt
          exact nxt
      · apply r_X6_valueIfFits_73 4 hb
        rw [if_neg hbit, Int.add_zero] at z1 z2
        rw [gw_w1 (by omega)]
        rw [z1, z2] at nxt
        exact nxt
  have h := key n 0 (by omega) (by show (0 : Int) ≤ 1000 * ((0 : Nat) : Int); omega)
  have e1 : gd_ct g s 0 = 0 := rfl
  have e2 : gd_cw g s 0 = 0 := rfl
  rw [e1, e2, show l - 0 = l by omega] at h
  exact h
theorem gd_ct_0 (g : gw_Mem) (n : Nat) (hn : n ≤ 8) : gd_ct g 0 n = 0 ∧ gd_cw g 0 n = 0 := by
  induction n with
  | zero => exact ⟨rfl, rfl⟩
  | succ n ih =>
    have q := ih (by omega)
    have z := gd_bit00 ⟨n, by omega⟩
    have z' : gw_and (gw_shr 0 (n : Int)) 1 = 0 := z
    rw [gd_ct_s, gd_cw_s, q.1, q.2, z', if_neg (by omega), if_neg (by omega)]
    exact ⟨rfl, rfl⟩
theorem gd_cs_pos {g : gw_Mem} (hJ : gd_JP g) (t : Int) (h : gd_way g ≤ t) (d : Nat) : 0 ≤ (gd_cs g t (1 + d)).1 ∧ 0 ≤ (gd_cs g t (1 + d)).2 := by
  have hs := hJ.2.1 0 (by omega)
  induction d with
  | zero =>
    have q := gd_ct_0 g (g 118 0).toNat (by omega)
    have e : gd_cs g t (1 + 0) = ((0 : Int), 0) := by
      show gd_cs g t (0 + 1) = _
      have e0 : gd_cs g t 0 = (-4, -1) := rfl
      rw [gd_cs, e0]
      have z : ((0 : Nat) : Int) = 0 := rfl
      rw [z, q.1, q.2, if_neg (by omega), if_neg (by show ¬ (0 : Int) ≤ -1; omega)]
    rw [e]
    exact ⟨Int.le_refl _, Int.le_refl _⟩
  | succ d ih =>
    rw [show 1 + (d + 1) = (1 + d) + 1 by omega, gd_cs]
    have r := gd_ct_rng hJ ((1 + d : Nat) : Int) (g 118 0).toNat (by omega)
    repeat' split
    · exact ih
    · exact ih
    · exact ⟨by show (0 : Int) ≤ ((1 + d : Nat) : Int); omega, r.2.1⟩
theorem gd_cs_neg {g : gw_Mem} (hJ : gd_JP g) (t : Int) (h : t < gd_way g) (s : Nat) : gd_cs g t s = (-4, -1) := by
  have hs := hJ.2.1 0 (by omega)
  induction s with
  | zero => rfl
  | succ s ih =>
    have r := gd_ct_rng hJ (s : Int) (g 118 0).toNat (by omega)
    rw [gd_cs, ih, if_pos (by omega)]
theorem sp_X11_chosen (g m : gw_Mem) (hJ : gd_JP g) (hP : gc_P g m 4) (t w : Int) : gw_SpecI M_X11_chosen 20 [gR 0, gI t, gI w] m (fun r m' => r = ga_chosen g t w ∧ m' = m) := by
  refine gw_intro pl_X11_chosen rfl (fun Γ => ?_)
  have hr := hJ.2.2.2.2.2.2.2.1.1
  have he := hJ.1
  have hs := hJ.2.1 0 (by omega)
  have hway := gd_way_rng hJ
  have hsh := gd_shl hs
  obtain ⟨S, hS⟩ := gw_nat (show 0 ≤ gw_shl 1 (g 118 0) by omega)
  have eS : (gw_shl 1 (g 118 0)).toNat = S := by omega
  have h4 : m 4 0 = g 117 0 := hP.1
  have h22 : m 22 0 = g 122 0 := hP.2.2.2.2.2.2.1 0 (by omega)
  have h6 : m 6 0 = g 118 0 := hP.2.1 0 (by omega)
  apply r_X11_chosen_0
  refine gw_CI.eq (sp_X11_within t 0 999 m) rfl (gw_b_tf (fun h => ?_) (fun h1 => ?_))
  · exact gw_rE (by rw [ga_chosen, if_neg (fun z => h z.1)]) rfl
  refine gw_CI.eq (sp_X11_within w 0 1 m) rfl (gw_b_tf (fun h => ?_) (fun h2 => ?_))
  · exact gw_rE (by rw [ga_chosen, if_neg (fun z => h z.2)]) rfl
  have ha : (0 ≤ t ∧ t ≤ 999) ∧ 0 ≤ w ∧ w ≤ 1 := ⟨h1, h2⟩
  rw [h4, h22]
  refine gw_CI.eq (sp_X11_cutUp (g 117 0) (g 122 0) m (by omega) (by omega)) rfl ?_
  have ew : gd_cu (g 117 0) (g 122 0) = gd_way g := rfl
  rw [ew, gw_w_id (x := t - gd_way g) (by omega), h6]
  refine ⟨fun h3 => ?_, fun h3 => gw_rE ?_ rfl⟩
  · have key : ∀ (j s : Nat) (y8 : Option gw_SV), 1 + s + j = S → gw_G M_X11_chosen 20 (fun r m' => ∃ v, r = some (gI v) ∧ v = ga_chosen g t w ∧ m' = m) Γ 76 [some (gR 0), some (gI t), some (gI w), some (gI (t - gd_way g)), some (gI (gd_cs g t (1 + s)).1), some (gI (gd_cs g t (1 + s)).2), some (gI (gw_shl 1 (g 118 0))), some (gI ((1 + s : Nat) : Int)), y8] [] m := by
      intro j
      induction j with
      | zero =>
        intro s y8 hj
        apply r_X11_chosen_76
        refine ⟨fun _ => gw_rE ?_ rfl, fun z => absurd (by omega) z⟩
        have p := gd_cs_pos hJ t (by omega) s
        rw [ga_chosen, if_pos ha, eS, show S = 1 + s by omega, if_neg (show ¬ (gd_cs g t (1 + s)).1 < 0 by omega)]
      | succ j ih =>
        intro s y8 hj
        apply r_X11_chosen_76
        refine ⟨fun z => absurd z (by omega), fun _ => gw_CI.eq (sp_X6_valueIfFits g m hJ hP ((1 + s : Nat) : Int) (t - gd_way g) (by omega)) rfl ?_⟩
        have p := gd_cs_pos hJ t (by omega) s
        have r := gd_ct_rng hJ ((1 + s : Nat) : Int) (g 118 0).toNat (by omega)
        rw [gw_w1 (by omega)]
        have h5 := ih (s + 1) (some (gI (if t - gd_way g < gd_ct g ((1 + s : Nat) : Int) (g 118 0).toNat then -1 else gd_cw g ((1 + s : Nat) : Int) (g 118 0).toNat))) (by omega)
        rw [show 1 + (s + 1) = (1 + s) + 1 by omega, gd_cs] at h5
        by_cases c1 : t < gd_way g + gd_ct g ((1 + s : Nat) : Int) (g 118 0).toNat
        · rw [if_pos c1] at h5
          rw [if_pos (show t - gd_way g < gd_ct g ((1 + s : Nat) : Int) (g 118 0).toNat by omega)] at h5 ⊢
          rw [if_pos (show (-1 : Int) ≤ (gd_cs g t (1 + s)).2 by omega), if_pos (show (-1 : Int) ≤ (gd_cs g t (1 + s)).2 by omega)]
          exact h5
        · rw [if_neg c1] at h5
          rw [if_neg (show ¬ t - gd_way g < gd_ct g ((1 + s : Nat) : Int) (g 118 0).toNat by omega)] at h5 ⊢
          by_cases c2 : gd_cw g ((1 + s : Nat) : Int) (g 118 0).toNat ≤ (gd_cs g t (1 + s)).2
          · rw [if_pos c2] at h5
            rw [if_pos c2, if_pos c2]
            exact h5
          · rw [if_neg c2] at h5
            rw [if_neg c2, if_neg c2]
            exact h5
    have e : gd_cs g t (1 + 0) = ((0 : Int), 0) := by
      have q := gd_ct_0 g (g 118 0).toNat (by omega)
      show gd_cs g t (0 + 1) = _
      have e0 : gd_cs g t 0 = (-4, -1) := rfl
      have z : ((0 : Nat) : Int) = 0 := rfl
      rw [gd_cs, e0, z, q.1, q.2, if_neg (by omega), if_neg (by show ¬ (0 : Int) ≤ -1; omega)]
    have h := key (S - 1) 0 none (by omega)
    rw [e] at h
    exact h
  · rw [ga_chosen, if_pos ha, gd_cs_neg hJ t (by omega)]
    rfl
