/-! what is chosen -/
theorem gd_shl0 : ∀ n : Fin 9, 1 ≤ gw_shl 1 (n.val : Int) ∧ gw_shl 1 (n.val : Int) ≤ 256 := by decide +kernel
theorem gd_shl {n : Int} (h : 0 ≤ n ∧ n ≤ 8) : 1 ≤ gw_shl 1 n ∧ gw_shl 1 n ≤ 256 := by
  have z := gd_shl0 ⟨n.toNat, by omega⟩
  rw [show (((⟨n.toNat, by omega⟩ : Fin 9).val : Nat) : Int) = n from by show ((n.toNat : Nat) : Int) = n; omega] at z
  exact z
/-- what a set takes, and what it is worth, of the first n stops -/
def gd_ct (g : gw_Mem) (s : Int) : Nat → Int := gw_sum (fun k => if gw_and (gw_shr s k) 1 = 1 then (if g 119 k < g 117 0 then g 120 k else 1000) else 0)
def gd_cw (g : gw_Mem) (s : Int) : Nat → Int := gw_sum (fun k => if gw_and (gw_shr s k) 1 = 1 then g 121 k else 0)
theorem gd_ct_s (g : gw_Mem) (s : Int) (n : Nat) : gd_ct g s (n + 1) = gd_ct g s n + (if gw_and (gw_shr s n) 1 = 1 then (if g 119 n < g 117 0 then g 120 n else 1000) else 0) := rfl
theorem gd_cw_s (g : gw_Mem) (s : Int) (n : Nat) : gd_cw g s (n + 1) = gd_cw g s n + (if gw_and (gw_shr s n) 1 = 1 then g 121 n else 0) := rfl
theorem gd_ct_rng {g : gw_Mem} (hJ : gd_JP g) (s : Int) (n : Nat) (hn : (n : Int) ≤ g 118 0) : (0 ≤ gd_ct g s n ∧ gd_ct g s n ≤ 1000 * n) ∧ 0 ≤ gd_cw g s n ∧ gd_cw g s n ≤ 99 * n := by
  induction n with
  | zero => exact ⟨⟨Int.le_refl _, Int.le_refl _⟩, Int.le_refl _, Int.le_refl _⟩
  | succ n ih =>
    have q := ih (by omega)
    have l := (hJ.2.2.1 0 n (by omega) (by omega)).2
    rw [show 8 * (0 : Int) + n = n by omega] at l
    have e : gd_lo 0 = 1 := rfl
    have e2 : gd_hi 0 = 20 := rfl
    have v := hJ.2.2.2.1 n (by omega)
    rw [gd_ct_s, gd_cw_s]
    repeat' split
    all_goals omega
theorem gd_ct_mono {g : gw_Mem} (hJ : gd_JP g) (s : Int) (i j : Nat) (hn : ((i + j : Nat) : Int) ≤ g 118 0) : gd_ct g s i ≤ gd_ct g s (i + j) := by
  induction j with
  | zero => exact Int.le_refl _
  | succ j ih =>
    have q := ih (by omega)
    have l := (hJ.2.2.1 0 ((i + j : Nat) : Int) (by omega) (by omega)).2.1
    rw [show 8 * (0 : Int) + ((i + j : Nat) : Int) = ((i + j : Nat) : Int) by omega] at l
    have e : gd_lo 0 = 1 := rfl
    rw [show i + (j + 1) = (i + j) + 1 by omega, gd_ct_s]
    repeat' split
    all_goals omega
def gd_way (g : gw_Mem) : Int := (g 117 0 + g 122 0 - 1).tdiv (g 122 0)
def gd_cs (g : gw_Mem) (t : Int) : Nat → Int × Int
  | 0 => (-4, -1)
  | s + 1 => if t < gd_way g + gd_ct g s (g 118 0).toNat then gd_cs g t s else if gd_cw g s (g 118 0).toNat ≤ (gd_cs g t s).2 then gd_cs g t s else ((s : Int), gd_cw g s (g 118 0).toNat)
def ga_chosen (g : gw_Mem) (t w : Int) : Int := if (0 ≤ t ∧ t ≤ 999) ∧ 0 ≤ w ∧ w ≤ 1 then (if (gd_cs g t (gw_shl 1 (g 118 0)).toNat).1 < 0 then (gd_cs g t (gw_shl 1 (g 118 0)).toNat).1 else if w = 0 then (gd_cs g t (gw_shl 1 (g 118 0)).toNat).1 else (gd_cs g t (gw_shl 1 (g 118 0)).toNat).2) else -1
theorem gd_way_rng {g : gw_Mem} (hJ : gd_JP g) : 0 ≤ gd_way g ∧ gd_way g ≤ 110 := by
  have hr := hJ.2.2.2.2.2.2.2.1.1
  have he := hJ.1
  unfold gd_way
  rw [Int.tdiv_eq_ediv_of_nonneg (by omega)]
  have hc : g 122 0 = 1 ∨ g 122 0 = 2 ∨ g 122 0 = 3 ∨ g 122 0 = 4 := by omega
  rcases hc with e | e | e | e <;> rw [e] <;> omega
theorem sp_X12_chosen (g : gw_Mem) (hJ : gd_JP g) (t w : Int) : gw_SpecI M_X12_chosen 20 [gR 117, gI t, gI w] g (fun r m' => r = ga_chosen g t w ∧ m' = g) := by
  refine gw_intro pl_X12_chosen rfl (fun Γ => ?_)
  have hr := hJ.2.2.2.2.2.2.2.1.1
  have he := hJ.1
  have hs := hJ.2.1 0 (by omega)
  have hway := gd_way_rng hJ
  obtain ⟨n, hN⟩ := gw_nat hs.1
  have en : (g 118 0).toNat = n := by omega
  have hsh := gd_shl hs
  obtain ⟨S, hS⟩ := gw_nat (show 0 ≤ gw_shl 1 (g 118 0) by omega)
  have eS : (gw_shl 1 (g 118 0)).toNat = S := by omega
  apply r_X12_chosen_0
  refine gw_CI.eq (sp_X12_in t 0 999 g) rfl (gw_b_tf (fun h => ?_) (fun h1 => ?_))
  · exact gw_rE (by rw [ga_chosen, if_neg (fun z => h z.1)]) rfl
  refine gw_CI.eq (sp_X12_in w 0 1 g) rfl (gw_b_tf (fun h => ?_) (fun h2 => ⟨by omega, ?_⟩))
  · exact gw_rE (by rw [ga_chosen, if_neg (fun z => h z.2)]) rfl
  have ha : (0 ≤ t ∧ t ≤ 999) ∧ 0 ≤ w ∧ w ≤ 1 := ⟨h1, h2⟩
  have ew : gw_w ((gw_w (gw_w (g 117 0 + g 122 0) - 1)).tdiv (g 122 0)) = gd_way g := by
    rw [gw_w_id (x := g 117 0 + g 122 0) (by omega), gw_w_id (x := g 117 0 + g 122 0 - 1) (by omega)]
    exact gw_w_id (by show -2147483648 ≤ gd_way g ∧ gd_way g < 2147483648; omega)
  rw [ew]
  have key : ∀ (j s : Nat) (y7 y8 y9 y10 : Option gw_SV), s + j = S → gw_G M_X12_chosen 20 (fun r m' => ∃ v, r = some (gI v) ∧ v = ga_chosen g t w ∧ m' = g) Γ 55 [some (gR 117), some (gI t), some (gI w), some (gI (gd_way g)), some (gI (gd_cs g t s).1), some (gI (gd_cs g t s).2), some (gI (s : Int)), y7, y8, y9, y10] [] g := by
    intro j
    induction j with
    | zero =>
      intro s y7 y8 y9 y10 hj
      apply r_X12_chosen_55
      refine ⟨fun _ => gw_rE ?_ rfl, fun z => absurd (by omega) z⟩
      rw [ga_chosen, if_pos ha, eS, show s = S by omega]
    | succ j ih =>
      intro s y7 y8 y9 y10 hj
      apply r_X12_chosen_55
      refine ⟨fun z => absurd z (by omega), fun _ => ?_⟩
      have inner : ∀ (j2 i : Nat) (y10 : Option gw_SV), i + j2 = n → gw_G M_X12_chosen 20 (fun r m' => ∃ v, r = some (gI v) ∧ v = ga_chosen g t w ∧ m' = g) Γ 77 [some (gR 117), some (gI t), some (gI w), some (gI (gd_way g)), some (gI (gd_cs g t s).1), some (gI (gd_cs g t s).2), some (gI (s : Int)), some (gI (gd_way g + gd_ct g s i)), some (gI (gd_cw g s i)), some (gI (i : Int)), y10] [] g := by
        intro j2
        induction j2 with
        | zero =>
          intro i y10 hi
          apply r_X12_chosen_77
          refine ⟨fun _ => ?_, fun z => absurd (by omega) z⟩
          rw [gw_w1 (by omega)]
          have h3 := ih (s + 1) (some (gI (gd_way g + gd_ct g s i))) (some (gI (gd_cw g s i))) (some (gI (if t < gd_way g + gd_ct g s i then 0 else if gd_cw g s i ≤ (gd_cs g t s).2 then 0 else 1))) y10 (by omega)
          rw [gd_cs, en, show n = i by omega] at h3
          by_cases c1 : t < gd_way g + gd_ct g s i
          · simp only [if_pos c1] at h3 ⊢
            rw [if_pos trivial, if_pos trivial]
            exact h3
          · simp only [if_neg c1] at h3 ⊢
            by_cases c2 : gd_cw g s i ≤ (gd_cs g t s).2
            · simp only [if_pos c2] at h3 ⊢
              rw [if_pos trivial, if_pos trivial]
              exact h3
            · simp only [if_neg c2] at h3 ⊢
              exact h3
        | succ j2 ih2 =>
          intro i y10 hi
          apply r_X12_chosen_77
          have hin : gw_in (i : Int) 32 := gw_inm (by omega) (by omega)
          have hin8 : gw_in (i : Int) 8 := gw_inm (by omega) (by omega)
          refine ⟨fun z => absurd z (by omega), fun _ => ⟨fun _ => ⟨hin, fun _ => hin⟩, fun _ => hin8, ?_⟩⟩
          have r1 := gd_ct_rng hJ s (i + 1) (by omega)
          have h3 := ih2 (i + 1) (some (gI (if gw_and (gw_shr s i) 1 = 1 then 1 else 0))) (by omega)
          rw [gw_w1 (by omega)]
          have bit : ∀ a b : Int, (if (if gw_and (gw_shr (s : Int) i) 1 = 1 then (1 : Int) else 0) = 0 then a else b) = if gw_and (gw_shr (s : Int) i) 1 = 1 then b else a := by
            intro a b
            by_cases z : gw_and (gw_shr (s : Int) i) 1 = 1
            · rw [if_pos z, if_pos z, if_neg (by omega)]
            · rw [if_neg z, if_neg z, if_pos rfl]
          rw [bit, bit]
          have e1 : gw_w (gd_way g + gd_ct g s i + (if gw_and (gw_shr (s : Int) i) 1 = 1 then (if g 119 (i : Int) < g 117 0 then g 120 (i : Int) else 1000) else 0)) = gd_way g + gd_ct g s (i + 1) := by
            have z := gd_ct_s g s i
            rw [gw_w_id (by omega)]; omega
          have e2 : gw_w (gd_cw g s i + (if gw_and (gw_shr (s : Int) i) 1 = 1 then g 121 (i : Int) else 0)) = gd_cw g s (i + 1) := by
            have z := gd_cw_s g s i
            rw [gw_w_id (by omega)]; omega
          rw [e1, e2]
          exact h3
      have h4 := inner n 0 y10 (by omega)
      have z1 : gd_ct g s 0 = 0 := rfl
      have z2 : gd_cw g s 0 = 0 := rfl
      rw [z1, z2, Int.add_zero] at h4
      exact h4
  exact key S 0 none none none none (by omega)
