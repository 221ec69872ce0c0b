/-! the class: the survey of the square -/
/-- whether all hear at p, as the class asks: 1 or 0 -/
def gd_tp (g : gw_Mem) (B : Int × Int × Int × Int) (N p : Nat) : Int := if g 126 p = 1 then 0 else if g 122 4 < gd_fb B p then 0 else if gd_h9 g ((p : Int) % 12) ((p : Int) / 12) N = 0 then 0 else 1
/-- points, best, its distance -/
def gd_sv (g : gw_Mem) (B : Int × Int × Int × Int) (N : Nat) : Nat → Int × Int × Int
  | 0 => (0, -4, -4)
  | p + 1 => if gd_tp g B N p = 0 then gd_sv g B N p else if (gd_sv g B N p).1 = 0 ∨ gd_fb B p < (gd_sv g B N p).2.2 then ((gd_sv g B N p).1 + 1, (p : Int), gd_fb B p) else ((gd_sv g B N p).1 + 1, (gd_sv g B N p).2)
theorem gd_sv_rng (g : gw_Mem) (B : Int × Int × Int × Int) (N p : Nat) : 0 ≤ (gd_sv g B N p).1 ∧ (gd_sv g B N p).1 ≤ p := by
  induction p with
  | zero => exact ⟨Int.le_refl _, Int.le_refl _⟩
  | succ p ih =>
    rw [gd_sv]
    repeat' split
    all_goals (try dsimp only)
    all_goals omega
def gc_sv (v : Int × Int × Int) (m : gw_Mem) : Prop := m 23 1 = v.1 ∧ (v.1 ≠ 0 → m 23 2 = v.2.1 ∧ m 23 3 = v.2.2)
theorem sp_X8_survey (g m : gw_Mem) (hS : ∀ j : Int, 0 ≤ j ∧ j < 144 → m 24 j = g 126 j) (N M : Nat) (hN : N = 144) (hM : M = 9) : gw_SpecV M_X8_survey 13 [gR 23, gI (g 122 4)] m (fun m' => gc_sv (gd_sv g (gd_b4 g N) M N) m' ∧ ∀ o : Nat, o ≠ 23 → m' o = m o) := by
  refine gw_intro pl_X8_survey rfl (fun Γ => ?_)
  have hb : gw_isSquare 23 := Or.inl rfl
  apply r_X8_survey_0 23 hb
  refine gw_CV.of (sp_X8_findBounds g m N hN hS) rfl (fun m1 _ h1 => ?_)
  obtain ⟨hB, hf1, _⟩ := h1
  have key : ∀ (j p : Nat) (q : gw_Mem) (y : Option gw_SV), p + j = N → gc_b4 (gd_b4 g N) q → gc_sv (gd_sv g (gd_b4 g N) M p) q → (∀ o : Nat, o ≠ 23 → q o = m o) → gw_G M_X8_survey 13 (fun r m' => r = none ∧ gc_sv (gd_sv g (gd_b4 g N) M N) m' ∧ ∀ o : Nat, o ≠ 23 → m' o = m o) Γ 11 [some (gR 23), some (gI (g 122 4)), some (gI (p : Int)), y] [] q := by
    intro j
    induction j with
    | zero =>
      intro p q y hp hBq hv hf
      apply r_X8_survey_11 23 hb
      have e : p = N := by omega
      subst e
      exact ⟨fun _ => ⟨rfl, hv, hf⟩, fun z => absurd (by omega) z⟩
    | succ j ih =>
      intro p q y hp hBq hv hf
      apply r_X8_survey_11 23 hb
      have ex : (p : Int).tmod 12 = (p : Int) % 12 := Int.tmod_eq_emod_of_nonneg (by omega)
      have ey : gw_w ((p : Int).tdiv 12) = (p : Int) / 12 := by rw [Int.tdiv_eq_ediv_of_nonneg (by omega), gw_w_id (by omega)]
      rw [ex, ey]
      refine ⟨fun z => absurd z (by omega), fun _ => gw_CI.eq (sp_X8_farthest g q N hN p (by omega) hBq) rfl ?_⟩
      have e24 : q (23 + 1) (p : Int) = g 126 p := by rw [hf (23 + 1) (by omega)]; exact hS p (by omega)
      rw [e24]
      have nxt := fun q' => ih (p + 1) q' (some (gI (gd_fb (gd_b4 g N) p))) (by omega)
      rw [gd_sv] at nxt
      have r := gd_sv_rng g (gd_b4 g N) M p
      have go : ∀ q' : gw_Mem, gc_b4 (gd_b4 g N) q' → gc_sv (if gd_tp g (gd_b4 g N) M p = 0 then gd_sv g (gd_b4 g N) M p else if (gd_sv g (gd_b4 g N) M p).1 = 0 ∨ gd_fb (gd_b4 g N) p < (gd_sv g (gd_b4 g N) M p).2.2 then ((gd_sv g (gd_b4 g N) M p).1 + 1, (p : Int), gd_fb (gd_b4 g N) p) else ((gd_sv g (gd_b4 g N) M p).1 + 1, (gd_sv g (gd_b4 g N) M p).2)) q' → (∀ o : Nat, o ≠ 23 → q' o = m o) → gw_G M_X8_survey 13 (fun r m' => r = none ∧ gc_sv (gd_sv g (gd_b4 g N) M N) m' ∧ ∀ o : Nat, o ≠ 23 → m' o = m o) Γ 96 [some (gR 23), some (gI (g 122 4)), some (gI (p : Int)), some (gI (gd_fb (gd_b4 g N) p))] [] q' := by
        intro q' a c e
        apply r_X8_survey_96 23 hb
        rw [gw_w1 (by omega)]
        exact nxt q' a c e
      clear nxt ih
      generalize gd_sv g (gd_b4 g N) M p = v at *
      have hS' : ∀ j : Int, 0 ≤ j ∧ j < 144 → q 24 j = g 126 j := fun j hj => by rw [hf 24 (by omega)]; exact hS j hj
      refine ⟨gw_inm (by omega) (by omega), fun h2 => go q hBq ?_ hf, fun h2 => ⟨fun h3 => go q hBq ?_ hf, fun h3 => ?_⟩⟩
      · rw [if_pos (show gd_tp g (gd_b4 g N) M p = 0 by rw [gd_tp, if_pos h2])]; exact hv
      · rw [if_pos (show gd_tp g (gd_b4 g N) M p = 0 by rw [gd_tp, if_neg h2, if_pos h3])]; exact hv
      refine gw_CI.eq (sp_X8_isHeardAllAround g q hS' ((p : Int) % 12) ((p : Int) / 12) (by omega) (by omega) M hM) rfl ⟨fun h4 => go q hBq ?_ hf, fun h4 => ?_⟩
      · rw [if_pos (show gd_tp g (gd_b4 g N) M p = 0 by rw [gd_tp, if_neg h2, if_neg h3, if_pos h4])]; exact hv
      have ht : ¬ gd_tp g (gd_b4 g N) M p = 0 := by rw [gd_tp, if_neg h2, if_neg h3, if_neg h4]; omega
      rw [if_neg ht] at go
      rw [hv.1]
      have up1 : ∀ u : gw_Mem, u 23 1 = v.1 → gc_b4 (gd_b4 g N) u → (∀ o : Nat, o ≠ 23 → u o = m o) → (if v.1 = 0 ∨ gd_fb (gd_b4 g N) p < v.2.2 then u 23 2 = p ∧ u 23 3 = gd_fb (gd_b4 g N) p else u 23 2 = v.2.1 ∧ u 23 3 = v.2.2) → gw_G M_X8_survey 13 (fun r m' => r = none ∧ gc_sv (gd_sv g (gd_b4 g N) M N) m' ∧ ∀ o : Nat, o ≠ 23 → m' o = m o) Γ 86 [some (gR 23), some (gI (g 122 4)), some (gI (p : Int)), some (gI (gd_fb (gd_b4 g N) p))] [] u := by
        intro u e1 eB eo eu
        apply r_X8_survey_86 23 hb
        rw [e1, gw_w_id (by omega)]
        refine go _ ?_ ?_ (fun o ho => by rw [gw_up_ne ho]; exact eo o ho)
        · unfold gc_b4 at eB ⊢
          rw [gw_up_at, if_neg (by omega), gw_up_at, if_neg (by omega), gw_up_at, if_neg (by omega), gw_up_at, if_neg (by omega)]
          exact eB
        · unfold gc_sv
          by_cases c : v.1 = 0 ∨ gd_fb (gd_b4 g N) p < v.2.2
          · rw [if_pos c] at eu ⊢
            rw [gw_up_at, if_pos rfl, gw_up_at, if_neg (show ¬ ((2 : Int) = 1) by omega), gw_up_at, if_neg (show ¬ ((3 : Int) = 1) by omega)]
            exact ⟨rfl, fun _ => eu⟩
          · rw [if_neg c] at eu ⊢
            rw [gw_up_at, if_pos rfl, gw_up_at, if_neg (show ¬ ((2 : Int) = 1) by omega), gw_up_at, if_neg (show ¬ ((3 : Int) = 1) by omega)]
            exact ⟨rfl, fun _ => eu⟩
      have set2 : (v.1 = 0 ∨ gd_fb (gd_b4 g N) p < v.2.2) → gw_G M_X8_survey 13 (fun r m' => r = none ∧ gc_sv (gd_sv g (gd_b4 g N) M N) m' ∧ ∀ o : Nat, o ≠ 23 → m' o = m o) Γ 76 [some (gR 23), some (gI (g 122 4)), some (gI (p : Int)), some (gI (gd_fb (gd_b4 g N) p))] [] q := by
        intro c
        apply r_X8_survey_76 23 hb
        refine up1 _ ?_ ?_ (fun o ho => by rw [gw_up_ne ho, gw_up_ne ho]; exact hf o ho) ?_
        · rw [gw_up_at, if_neg (by omega), gw_up_at, if_neg (by omega)]; exact hv.1
        · unfold gc_b4 at hBq ⊢
          rw [gw_up_at, if_neg (by omega), gw_up_at, if_neg (by omega), gw_up_at, if_neg (by omega), gw_up_at, if_neg (by omega), gw_up_at, if_neg (by omega), gw_up_at, if_neg (by omega), gw_up_at, if_neg (by omega), gw_up_at, if_neg (by omega)]
          exact hBq
        · rw [if_pos c, gw_up_at, if_neg (by omega), gw_up_at, if_pos rfl, gw_up_at, if_pos rfl]
          exact ⟨rfl, rfl⟩
      refine ⟨fun h5 => set2 (Or.inl h5), fun h5 => ?_⟩
      have h6 := hv.2 h5
      rw [h6.2]
      refine ⟨fun h7 => up1 q hv.1 hBq hf ?_, fun h7 => set2 (Or.inr (by omega))⟩
      rw [if_neg (fun z => z.elim h5 (fun w => by omega))]
      exact h6
  refine key N 0 _ none (by omega) ?_ ⟨?_, fun z => absurd rfl z⟩ (fun o ho => by rw [gw_up_ne ho]; exact hf1 o ho)
  · unfold gc_b4 at hB ⊢
    rw [gw_up_at, if_neg (by omega), gw_up_at, if_neg (by omega), gw_up_at, if_neg (by omega), gw_up_at, if_neg (by omega)]
    exact hB
  · rw [gw_up_at, if_pos rfl]; rfl
