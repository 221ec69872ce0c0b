/-! the class: slots -/
def gz_Br (cm nd : Int → Int) (N : Nat) (m : gw_Mem) : Prop := m 104 0 = N ∧ ∀ x : Int, 0 ≤ x → x < N → m 105 x = cm x ∧ m 106 x = nd x
theorem sp_X0_load (b : Nat) (hb : gw_SH[b]? = some (1, 24, [])) (hb5 : 108 < b) (i : Int) (cm nd : Int → Int) (N : Nat) (hN : N ≤ 6) (hi : 0 ≤ i ∧ i + 2 * N ≤ 24) (m : gw_Mem) (hc : ∀ x : Int, 0 ≤ x → x < N → m b (i + 2 * x) = cm x ∧ m b (i + 2 * x + 1) = nd x) :
    gw_SpecI M_X0_load 12 [gR 104, gR b, gI i, gI (N : Int)] m (fun r m' => (∀ o : Nat, ¬ (104 ≤ o ∧ o ≤ 106) → m' o = m o) ∧ ((r = 1 ∧ gd_okg cm nd N ∧ gz_Br cm nd N m') ∨ (r = 0 ∧ ¬ gd_okg cm nd N))) := by
  refine gw_intro pl_X0_load rfl (fun Γ => ?_)
  apply r_X0_load_0 b 24 hb (by decide)
  have key : ∀ (j x : Nat) (q : gw_Mem), x + j = N → (∀ o : Nat, ¬ (104 ≤ o ∧ o ≤ 106) → q o = m o) → q 104 0 = N → (∀ a : Int, 0 ≤ a → a < x → (q 105 a = cm a ∧ q 106 a = nd a) ∧ (0 ≤ cm a ∧ cm a ≤ 999) ∧ 1 ≤ nd a ∧ nd a ≤ 99) → gw_G M_X0_load 12 (fun r m' => ∃ v, r = some (gI v) ∧ (∀ o : Nat, ¬ (104 ≤ o ∧ o ≤ 106) → m' o = m o) ∧ ((v = 1 ∧ gd_okg cm nd N ∧ gz_Br cm nd N m') ∨ (v = 0 ∧ ¬ gd_okg cm nd N))) Γ 8 [some (gR 104), some (gR b), some (gI i), some (gI (N : Int)), some (gI (x : Int))] [] q := by
    intro j
    induction j with
    | zero =>
      intro x q hx hf h4 ha
      apply r_X0_load_8 b 24 hb (by decide)
      have e : x = N := by omega
      subst e
      exact ⟨fun _ => ⟨1, rfl, hf, Or.inl ⟨rfl, fun a a0 a1 => (ha a a0 a1).2, h4, fun a a0 a1 => (ha a a0 a1).1⟩⟩, fun z => absurd (Int.le_refl _) z⟩
    | succ j ih =>
      intro x q hx hf h4 ha
      apply r_X0_load_8 b 24 hb (by decide)
      refine ⟨fun z => absurd z (by omega), fun _ => ?_⟩
      have eb := hf b (by omega)
      have e1 : gw_up q 105 (x : Int) (cm x) b = m b := by rw [gw_up_ne (by omega)]; exact eb
      obtain ⟨c1, c2⟩ := hc (x : Int) (by omega) (by omega)
      rw [gw_w_id (x := 2 * (x : Int)) (by omega), gw_w_id (x := i + 2 * (x : Int)) (by omega), gw_w_id (x := i + 2 * (x : Int) + 1) (by omega), eb, c1, e1, c2, gw_w1 (by omega)]
      have e2 : gw_up (gw_up q 105 (x : Int) (cm x)) 106 (x : Int) (nd x) 105 (x : Int) = cm x := by rw [gw_up_ne (by omega), gw_up_at, if_pos rfl]
      have e3 : gw_up (gw_up q 105 (x : Int) (cm x)) 106 (x : Int) (nd x) 106 (x : Int) = nd x := by rw [gw_up_at, if_pos rfl]
      have e4 : ∀ a : Int, a < x → gw_up (gw_up q 105 (x : Int) (cm x)) 106 (x : Int) (nd x) 105 a = q 105 a ∧ gw_up (gw_up q 105 (x : Int) (cm x)) 106 (x : Int) (nd x) 106 a = q 106 a := fun a h => ⟨by rw [gw_up_ne (by omega), gw_up_at, if_neg (by omega)], by rw [gw_up_at, if_neg (by omega), gw_up_ne (by omega)]⟩
      have e5 : ∀ o : Nat, o ≠ 105 → o ≠ 106 → gw_up (gw_up q 105 (x : Int) (cm x)) 106 (x : Int) (nd x) o = q o := fun o o1 o2 => by rw [gw_up_ne o2, gw_up_ne o1]
      generalize gw_up (gw_up q 105 (x : Int) (cm x)) 106 (x : Int) (nd x) = u at *
      have fu : ∀ o : Nat, ¬ (104 ≤ o ∧ o ≤ 106) → u o = m o := fun o ho => by rw [e5 o (by omega) (by omega)]; exact hf o ho
      rw [e2]
      refine ⟨gw_inm (by omega) (by omega), gw_inm (by omega) (by omega), gw_inm (by omega) (by omega), gw_inm (by omega) (by omega), gw_inm (by omega) (by omega), gw_CI.eq (sp_X11_within (cm x) 0 999 u) rfl (gw_b_tf (fun h => ⟨0, rfl, fu, Or.inr ⟨rfl, fun z => h (z x (by omega) (by omega)).1⟩⟩) (fun h5 => ⟨gw_inm (by omega) (by omega), ?_⟩))⟩
      rw [e3]
      refine gw_CI.eq (sp_X11_within (nd x) 1 99 u) rfl (gw_b_tf (fun h => ⟨0, rfl, fu, Or.inr ⟨rfl, fun z => h (z x (by omega) (by omega)).2⟩⟩) (fun h6 => ?_))
      refine ih (x + 1) u (by omega) fu (by rw [e5 104 (by omega) (by omega)]; exact h4) (fun a a0 a1 => ?_)
      by_cases c : a = x
      · rw [c]
        exact ⟨⟨e2, e3⟩, h5, h6⟩
      · have h7 := e4 a (by omega)
        rw [h7.1, h7.2]
        exact ha a a0 (by omega)
  refine key N 0 _ (by omega) (fun o ho => by rw [gw_up_ne (by omega)]) (by rw [gw_up_at, if_pos rfl]) (fun a a0 a1 => by omega)
/-- what the search from i on gives -/
def gz_sf (cm nd : Int → Int) (N i : Nat) (m m' : gw_Mem) : Prop := (∀ o : Nat, o ≠ 104 → o ≠ 107 → o ≠ 108 → m' o = m o) ∧ m' 104 0 = m 104 0 ∧ (∀ a : Nat, a < i → m' 107 (a : Int) = m 107 (a : Int)) ∧
  ((m' 104 5 = m 104 5 ∧ m' 108 = m 108 ∧ ∀ h : Nat → Int, gd_pm N h → (∀ a : Nat, a < i → h a = m 107 (a : Int)) → m 104 5 ≤ (gz_wq cm nd h N).2) ∨
   (gd_pm N (fun a => m' 108 (a : Int)) ∧ (∀ a : Nat, a < i → m' 108 (a : Int) = m 107 (a : Int)) ∧ m' 104 5 = (gz_wq cm nd (fun a => m' 108 (a : Int)) N).2 ∧ m' 104 5 < m 104 5 ∧ ∀ h : Nat → Int, gd_pm N h → (∀ a : Nat, a < i → h a = m 107 (a : Int)) → gz_bt cm nd N (fun a => m' 108 (a : Int)) h))
/-- the first i are an order so far -/
def gz_pf (N i : Nat) (p : Nat → Int) : Prop := ∀ a : Nat, a < i → (0 ≤ p a ∧ p a < N) ∧ ∀ b : Nat, b < a → p b ≠ p a
theorem sp_X0_sendFrom (cm nd : Int → Int) (N : Nat) (hN : N ≤ 6) (hg : gd_okg cm nd N) : ∀ (d i : Nat), i + d = N → ∀ (m : gw_Mem) (gone : Int), gz_Br cm nd N m → gz_pf N i (fun a => m 107 (a : Int)) → (0 ≤ gone ∧ gone < 256) → (∀ x : Int, 0 ≤ x → x < N → (gw_and (gw_shr gone x) 1 = 0 ↔ ∀ a : Nat, a < i → m 107 (a : Int) ≠ x)) →
    gw_SpecV M_X0_sendFrom (12 + d) [gR 104, gI (i : Int), gI gone, gI (gz_wq cm nd (fun a => m 107 (a : Int)) i).1, gI (gz_wq cm nd (fun a => m 107 (a : Int)) i).2] m (fun m' => gz_sf cm nd N i m m') := by
  intro d
  induction d with
  | zero =>
    intro i hi m gone hB hp hgo hbits
    have e : i = N := by omega
    subst e
    refine gw_intro pl_X0_sendFrom rfl (fun Γ => ?_)
    apply r_X0_sendFrom_0 _ _ _ _ _ (by omega)
    rw [hB.1]
    refine ⟨fun hl => ⟨fun z => absurd z (by omega), fun _ => ⟨rfl, ?_⟩⟩, fun hl => ⟨rfl, fun _ _ _ _ => rfl, rfl, fun _ _ => rfl, Or.inl ⟨rfl, rfl, fun h hh ah => ?_⟩⟩⟩
    · have eb : ∀ a : Nat, a < i → gw_cp (gw_up m 104 5 (gz_wq cm nd (fun a => m 107 (a : Int)) i).2) 107 0 108 0 6 108 (a : Int) = m 107 (a : Int) := by
        intro a ha
        unfold gw_cp
        rw [if_pos (by omega), gw_up_ne (by omega)]
        congr 1
        omega
      have eo : ∀ o : Nat, o ≠ 108 → gw_cp (gw_up m 104 5 (gz_wq cm nd (fun a => m 107 (a : Int)) i).2) 107 0 108 0 6 o = gw_up m 104 5 (gz_wq cm nd (fun a => m 107 (a : Int)) i).2 o := by
        intro o ho
        funext j
        unfold gw_cp
        rw [if_neg (fun z => ho z.1)]
      have e5 : gw_cp (gw_up m 104 5 (gz_wq cm nd (fun a => m 107 (a : Int)) i).2) 107 0 108 0 6 104 5 = (gz_wq cm nd (fun a => m 107 (a : Int)) i).2 := by rw [eo 104 (by omega), gw_up_at, if_pos rfl]
      refine ⟨fun o o1 o2 o3 => by rw [eo o o3, gw_up_ne o1], by rw [eo 104 (by omega), gw_up_at, if_neg (by omega)], fun a ha => by rw [eo 107 (by omega), gw_up_ne (by omega)], Or.inr ⟨?_, eb, ?_, by rw [e5]; exact hl, fun h hh ah => ?_⟩⟩
      · exact gd_pm_congr (p := fun a => m 107 (a : Int)) eb hp
      · rw [e5, gz_wq_congr (p := fun a : Nat => gw_cp _ 107 0 108 0 6 108 (a : Int)) (q := fun a => m 107 (a : Int)) eb]
      · right
        have eh : ∀ a : Nat, a < i → (fun a : Nat => gw_cp (gw_up m 104 5 (gz_wq cm nd (fun a => m 107 (a : Int)) i).2) 107 0 108 0 6 108 (a : Int)) a = h a := fun a ha => (eb a ha).trans (ah a ha).symm
        rw [gz_wq_congr eh, gd_rk_congr eh]
        exact ⟨rfl, Int.le_refl _⟩
    · rw [gz_wq_congr (q := fun a => m 107 (a : Int)) ah]
      omega
  | succ d ih =>
    intro i hi m gone hB hp hgo hbits
    refine gw_intro pl_X0_sendFrom rfl (fun Γ => ?_)
    apply r_X0_sendFrom_0 _ _ _ _ _ (by omega)
    obtain ⟨p, hpd⟩ : ∃ p : Nat → Int, p = fun a : Nat => m 107 (a : Int) := ⟨_, rfl⟩
    have pe : ∀ a : Nat, m 107 (a : Int) = p a := fun a => by rw [hpd]
    have wr := gz_wq_rng hg (p := p) i (fun a ha => by have := (hp a ha).1; rw [hpd]; exact this)
    have w2 : (1000 + 99 * (i : Int)) * i ≤ 100000 := by
      have h6 : i = 0 ∨ i = 1 ∨ i = 2 ∨ i = 3 ∨ i = 4 ∨ i = 5 := by omega
      rcases h6 with rfl | rfl | rfl | rfl | rfl | rfl <;> decide
    rw [hB.1]
    rw [← hpd]
    refine ⟨fun hl => ⟨fun _ => ?_, fun z => absurd (by omega) z⟩, fun hl => ⟨rfl, fun _ _ _ _ => rfl, rfl, fun _ _ => rfl, Or.inl ⟨rfl, rfl, fun h hh ah => ?_⟩⟩⟩
    · have key : ∀ (e x : Nat), x + e = N → ∀ (y6 : Option gw_SV) (q : gw_Mem), (∀ o : Nat, o ≠ 104 → o ≠ 107 → o ≠ 108 → q o = m o) → q 104 0 = m 104 0 → (∀ a : Nat, a < i → q 107 (a : Int) = m 107 (a : Int)) →
          ((q 104 5 = m 104 5 ∧ q 108 = m 108 ∧ ∀ h : Nat → Int, gd_pm N h → (∀ a : Nat, a < i → h a = m 107 (a : Int)) → h i < x → m 104 5 ≤ (gz_wq cm nd h N).2) ∨
           (gd_pm N (fun a => q 108 (a : Int)) ∧ (∀ a : Nat, a < i → q 108 (a : Int) = m 107 (a : Int)) ∧ q 108 (i : Int) < x ∧ q 104 5 = (gz_wq cm nd (fun a => q 108 (a : Int)) N).2 ∧ q 104 5 < m 104 5 ∧ ∀ h : Nat → Int, gd_pm N h → (∀ a : Nat, a < i → h a = m 107 (a : Int)) → h i < x → gz_bt cm nd N (fun a => q 108 (a : Int)) h)) →
          gw_G M_X0_sendFrom (12 + (d + 1)) (fun r m' => r = none ∧ gz_sf cm nd N i m m') Γ 43 [some (gR 104), some (gI (i : Int)), some (gI gone), some (gI (gz_wq cm nd p i).1), some (gI (gz_wq cm nd p i).2), some (gI (x : Int)), y6] [] q := by
        intro e
        induction e with
        | zero =>
          intro x hx y6 q q1 q2 q3 q4
          apply r_X0_sendFrom_43 _ _ _ _ _ _ _ (by omega)
          rw [q2, hB.1]
          refine ⟨fun _ => ⟨rfl, q1, q2, q3, ?_⟩, fun z => absurd (by omega) z⟩
          rcases q4 with ⟨a1, a2, a3⟩ | ⟨a1, a2, _, a4, a5, a6⟩
          · exact Or.inl ⟨a1, a2, fun h hh ah => a3 h hh ah (by have := (hh i (by omega)).1; omega)⟩
          · exact Or.inr ⟨a1, a2, a4, a5, fun h hh ah => a6 h hh ah (by have := (hh i (by omega)).1; omega)⟩
        | succ e ihe =>
          intro x hx y6 q q1 q2 q3 q4
          apply r_X0_sendFrom_43 _ _ _ _ _ _ _ (by omega)
          rw [q2, hB.1]
          refine ⟨fun z => absurd z (by omega), fun _ => ⟨fun hbit => ⟨gw_inm (by omega) (by omega), gw_inm (by omega) (by omega), gw_inm (by omega) (by omega), gw_inm (by omega) (by omega), ?_⟩, fun hbit => ?_⟩⟩
          · have hfree := (hbits x (by omega) (by omega)).mp hbit
            have gx := hg x (by omega) (by omega)
            have Bx := hB.2 x (by omega) (by omega)
            have e105 : q 105 (x : Int) = cm x := by rw [q1 105 (by omega) (by omega) (by omega)]; exact Bx.1
            have eu : ∀ o : Nat, o ≠ 107 → gw_up q 107 (i : Int) (x : Int) o = q o := fun o ho => by rw [gw_up_ne ho]
            have e7 : gw_up q 107 (i : Int) (x : Int) 107 (i : Int) = x := by rw [gw_up_at, if_pos rfl]
            have ea : ∀ a : Nat, a < i → gw_up q 107 (i : Int) (x : Int) 107 (a : Int) = p a := fun a ha => by rw [gw_up_at, if_neg (by omega), q3 a ha, pe]
            rw [eu 105 (by omega), eu 106 (by omega), e105, q1 106 (by omega) (by omega) (by omega), Bx.2]
            generalize gw_up q 107 (i : Int) (x : Int) = u at *
            have ew : gz_wq cm nd (fun a => u 107 (a : Int)) (i + 1) = (max (gz_wq cm nd p i).1 (cm x) + nd x, (gz_wq cm nd p i).2 + (max (gz_wq cm nd p i).1 (cm x) - cm x)) := by
              rw [gz_wq, gz_wq_congr (q := p) ea]
              try dsimp only
              rw [e7]
            have bt := gd_bit hgo (k := (x : Int)) (by omega)
            have IH := ih (i + 1) (by omega) u (gw_or gone (gw_shl 1 (x : Int))) ⟨by rw [eu 104 (by omega), q2]; exact hB.1, fun y y0 y1 => by rw [eu 105 (by omega), eu 106 (by omega), q1 105 (by omega) (by omega) (by omega), q1 106 (by omega) (by omega) (by omega)]; exact hB.2 y y0 y1⟩
              (fun a ha => by
                by_cases c : a = i
                · rw [c]
                  dsimp only
                  rw [e7]
                  exact ⟨by omega, fun b hb => by rw [ea b hb, ← pe]; exact hfree b hb⟩
                · dsimp only
                  rw [ea a (by omega)]
                  have h5 := hp a (by omega)
                  dsimp only at h5
                  rw [pe] at h5
                  exact ⟨h5.1, fun b hb => by rw [ea b (by omega), ← pe]; exact h5.2 b hb⟩)
              bt.1 (fun y y0 y1 => by
                rw [bt.2 y (by omega), hbits y y0 y1]
                constructor
                · intro z a ha
                  by_cases c : a = i
                  · rw [c, e7]
                    exact fun w => z.2 w.symm
                  · rw [ea a (by omega), ← pe]
                    exact z.1 a (by omega)
                · intro z
                  refine ⟨fun a ha => ?_, fun w => ?_⟩
                  · have := z a (by omega)
                    rwa [ea a ha, ← pe] at this
                  · have := z i (by omega)
                    rw [e7] at this
                    exact this w.symm)
            rw [ew] at IH
            rw [gw_w1 (by omega), gw_w_id (x := max (gz_wq cm nd p i).1 (cm x) + nd x) (by omega), gw_w_id (x := (gz_wq cm nd p i).2 + max (gz_wq cm nd p i).1 (cm x)) (by omega), gw_w_id (x := (gz_wq cm nd p i).2 + max (gz_wq cm nd p i).1 (cm x) - cm x) (by omega)]
            rw [show (gz_wq cm nd p i).2 + (max (gz_wq cm nd p i).1 (cm x) - cm x) = (gz_wq cm nd p i).2 + max (gz_wq cm nd p i).1 (cm x) - cm x by omega] at IH
            refine gw_CV.of IH (by simp only [Nat.blt_eq]; omega) (fun m1 _ h1 => ?_)
            obtain ⟨f1, f2, f3, f4⟩ := h1
            apply r_X0_sendFrom_118 _ _ _ _ _ _ _ (by omega)
            rw [gw_w1 (by omega)]
            have au : ∀ h : Nat → Int, (∀ a : Nat, a < i → h a = m 107 (a : Int)) → h i = x → ∀ a : Nat, a < i + 1 → h a = u 107 (a : Int) := by
              intro h ah hx a ha
              by_cases c : a = i
              · rw [c, e7, hx]
              · rw [ah a (by omega), ea a (by omega), pe]
            refine ihe (x + 1) (by omega) _ m1 (fun o o1 o2 o3 => by rw [f1 o o1 o2 o3, eu o o2, q1 o o1 o2 o3]) (by rw [f2, eu 104 (by omega), q2]) (fun a ha => by rw [f3 a (by omega), ea a ha, pe]) ?_
            rw [eu 104 (by omega), eu 108 (by omega)] at f4
            rcases f4 with ⟨a1, a2, a3⟩ | ⟨a1, a2, a4, a5, a6⟩
            · rw [a1, a2]
              rcases q4 with ⟨b1, b2, b3⟩ | ⟨b1, b2, b3, b4, b5, b6⟩
              · refine Or.inl ⟨b1, b2, fun h hh ah hx => ?_⟩
                by_cases c : h i = x
                · have := a3 h hh (au h ah c)
                  omega
                · exact b3 h hh ah (by omega)
              · refine Or.inr ⟨b1, b2, by omega, b4, b5, fun h hh ah hx => ?_⟩
                by_cases c : h i = x
                · have := a3 h hh (au h ah c)
                  have lt := gd_rk_lt (n := N) (t := i) (p := fun a => q 108 (a : Int)) (q := h) (gd_pm_5 hN b1) (gd_pm_5 hN hh) (by omega) (fun a ha => (b2 a ha).trans (ah a ha).symm) (by omega)
                  unfold gz_bt
                  omega
                · exact b6 h hh ah (by omega)
            · have a7 : m1 108 (i : Int) = x := by rw [a2 i (by omega), e7]
              refine Or.inr ⟨a1, fun a ha => by rw [a2 a (by omega), ea a ha, pe], by omega, a4, ?_, fun h hh ah hx => ?_⟩
              · rcases q4 with ⟨b1, b2, b3⟩ | ⟨b1, b2, b3, b4, b5, b6⟩ <;> omega
              · by_cases c : h i = x
                · exact a6 h hh (au h ah c)
                · left
                  rcases q4 with ⟨b1, b2, b3⟩ | ⟨b1, b2, b3, b4, b5, b6⟩
                  · have := b3 h hh ah (by omega)
                    omega
                  · have := b6 h hh ah (by omega)
                    unfold gz_bt at this
                    omega
          · apply r_X0_sendFrom_118 _ _ _ _ _ _ _ (by omega)
            rw [gw_w1 (by omega)]
            have used : ∀ h : Nat → Int, gd_pm N h → (∀ a : Nat, a < i → h a = m 107 (a : Int)) → h i ≠ x := by
              intro h hh ah hx
              refine hbit ((hbits x (by omega) (by omega)).mpr (fun a ha => ?_))
              rw [← ah a ha, ← hx]
              exact (hh i (by omega)).2 a ha
            refine ihe (x + 1) (by omega) _ q q1 q2 q3 ?_
            rcases q4 with ⟨b1, b2, b3⟩ | ⟨b1, b2, b3, b4, b5, b6⟩
            · refine Or.inl ⟨b1, b2, fun h hh ah hx => b3 h hh ah ?_⟩
              have := used h hh ah
              omega
            · refine Or.inr ⟨b1, b2, by omega, b4, b5, fun h hh ah hx => b6 h hh ah ?_⟩
              have := used h hh ah
              omega
      exact key N 0 (by omega) none m (fun _ _ _ _ => rfl) rfl (fun _ _ => rfl) (Or.inl ⟨rfl, rfl, fun h hh ah hx => by have := (hh i (by omega)).1; omega⟩)
    · have e1 : gz_wq cm nd h i = gz_wq cm nd p i := gz_wq_congr (fun a ha => by rw [ah a ha, pe])
      have mono := gz_wq_mono (cm := cm) (nd := nd) (p := h) i (N - i)
      rw [show i + (N - i) = N by omega, e1] at mono
      omega
theorem sp_X0_seek (cm nd : Int → Int) (N : Nat) (hN : N ≤ 6) (hg : gd_okg cm nd N) (m : gw_Mem) (hB : gz_Br cm nd N m) : gw_SpecV M_X0_seek 20 [gR 104] m (fun m' => (∀ o : Nat, o ≠ 104 → o ≠ 107 → o ≠ 108 → m' o = m o) ∧ gz_bo cm nd N (fun a => m' 108 (a : Int)) ∧ m' 104 5 = (gz_wq cm nd (fun a => m' 108 (a : Int)) N).2) := by
  refine gw_intro pl_X0_seek rfl (fun Γ => ?_)
  apply r_X0_seek_0
  have e5 : gw_up m 104 5 100000 104 5 = 100000 := by rw [gw_up_at, if_pos rfl]
  have e0 : gw_up m 104 5 100000 104 0 = m 104 0 := by rw [gw_up_at, if_neg (by omega)]
  have eo : ∀ o : Nat, o ≠ 104 → gw_up m 104 5 100000 o = m o := fun o ho => by rw [gw_up_ne ho]
  generalize gw_up m 104 5 100000 = u at *
  refine gw_CV.of (sp_X0_sendFrom cm nd N hN hg N 0 (by omega) u 0 ⟨by rw [e0]; exact hB.1, fun x x0 x1 => by rw [eo 105 (by omega), eo 106 (by omega)]; exact hB.2 x x0 x1⟩ (fun a ha => by omega) (by omega) (fun x x0 x1 => ⟨fun _ a ha => by omega, fun _ => ?_⟩)) (by simp only [Nat.blt_eq]; omega) (fun m' _ h => ?_)
  · have := gd_bit00 ⟨x.toNat, by omega⟩
    rwa [show (((⟨x.toNat, by omega⟩ : Fin 8).val : Nat) : Int) = x from by show ((x.toNat : Nat) : Int) = x; omega] at this
  · obtain ⟨f1, f2, f3, f4⟩ := h
    refine ⟨rfl, fun o o1 o2 o3 => by rw [f1 o o1 o2 o3, eo o o1], ?_⟩
    rcases f4 with ⟨a1, a2, a3⟩ | ⟨a1, a2, a4, a5, a6⟩
    · exfalso
      have id1 := (gd_first1 hN).1
      have h1 := a3 _ id1 (fun a ha => by omega)
      have wr := (gz_wq_rng hg (p := fun i => (i : Int)) N (fun a ha => (id1 a ha).1)).2
      have w2 : (1000 + 99 * (N : Int)) * N ≤ 99999 := by
        have h6 : N = 0 ∨ N = 1 ∨ N = 2 ∨ N = 3 ∨ N = 4 ∨ N = 5 ∨ N = 6 := by omega
        rcases h6 with rfl | rfl | rfl | rfl | rfl | rfl | rfl <;> decide
      omega
    · exact ⟨⟨a1, fun q hq => a6 q hq (fun a ha => by omega)⟩, a4⟩
theorem sp_X11_slots (g m : gw_Mem) (hJ : gd_JS g) (hS : gc_S g m) (s l i n k : Int) : gw_SpecI M_X11_slots 30 [gR 0, gI s, gI l, gI i, gI n, gI k] m (fun r m' => gd_isl g s l i n k r ∧ ∀ o : Nat, ¬ (104 ≤ o ∧ o ≤ 108) → m' o = m o) := by
  refine gw_intro pl_X11_slots rfl (fun Γ => ?_)
  apply r_X11_slots_0
  have bad : ¬ ((0 ≤ s ∧ s ≤ 3) ∧ (0 ≤ l ∧ l ≤ 2) ∧ (2 ≤ n ∧ n ≤ 6) ∧ -1 ≤ k ∧ k ≤ n - 1) → gd_isl g s l i n k (-1) := fun z => ⟨fun _ => rfl, fun q => absurd q z⟩
  refine gw_CI.eq (sp_X11_isSheet s m) rfl (gw_b_tf (fun h => ⟨_, rfl, bad (fun z => h z.1), fun _ _ => rfl⟩) (fun h1 => ?_))
  refine gw_CI.eq (sp_X11_isLane l m) rfl (gw_b_tf (fun h => ⟨_, rfl, bad (fun z => h z.2.1), fun _ _ => rfl⟩) (fun h2 => ?_))
  refine gw_CI.eq (sp_X11_within n 2 6 m) rfl (gw_b_tf (fun h => ⟨_, rfl, bad (fun z => h z.2.2.1), fun _ _ => rfl⟩) (fun h3 => ?_))
  rw [gw_w_id (x := n - 1) (by omega)]
  refine gw_CI.eq (sp_X11_within k (-1) (n - 1) m) rfl (gw_b_tf (fun h => ⟨_, rfl, bad (fun z => h z.2.2.2), fun _ _ => rfl⟩) (fun h4 => ?_))
  have ok := And.intro h1 (And.intro h2 (And.intro h3 h4))
  have i4 : gw_in s 4 := gw_inm (by omega) (by omega)
  obtain ⟨f0, f1, f2, f3⟩ := gc_Sf hJ hS h1
  rw [gw_w_id (x := 2 * n) (by omega)]
  refine ⟨i4, gw_CI.eq (sp_X7_refusal _ (gw_isSheet_of i4) l i (2 * n) m (by omega) (by omega)) rfl ?_⟩
  have e0 : (if m (109 + 2 * s.toNat) 0 < 0 then (-11 : Int) else if m (109 + 2 * s.toNat) 0 = l then (if 0 ≤ i ∧ i + 2 * n ≤ m (109 + 2 * s.toNat) 1 then 0 else -13) else -12) = gd_fd g s l i (2 * n) := by rw [f0, f1]; rfl
  rw [e0]
  refine ⟨fun hfd => ⟨i4, ?_⟩, fun hfd => ⟨_, rfl, ⟨fun z => absurd ok z, fun _ => ⟨fun _ => rfl, fun z => absurd z hfd⟩⟩, fun _ _ => rfl⟩⟩
  have rg : 0 ≤ i ∧ i + 2 * n ≤ 24 := by
    have hsz := (hJ s h1).2
    unfold gd_fd at hfd
    by_cases c1 : g 138 s < 0
    · rw [if_pos c1] at hfd; omega
    · rw [if_neg c1] at hfd
      by_cases c2 : g 138 s = l
      · rw [if_pos c2] at hfd
        by_cases c3 : 0 ≤ i ∧ i + 2 * n ≤ g 139 s
        · omega
        · rw [if_neg c3] at hfd; omega
      · rw [if_neg c2] at hfd; omega
  obtain ⟨N, hN⟩ := gw_nat (x := n) (by omega)
  have eN : n.toNat = N := by omega
  obtain ⟨cm, hcm⟩ : ∃ cm : Int → Int, cm = fun x : Int => g 140 (24 * s + i + 2 * x) := ⟨_, rfl⟩
  obtain ⟨nd, hnd⟩ : ∃ nd : Int → Int, nd = fun x : Int => g 140 (24 * s + i + 2 * x + 1) := ⟨_, rfl⟩
  have no : ¬ gd_okg cm nd N → gd_isl g s l i n k (-2) := fun z => ⟨fun q => absurd ok q, fun _ => ⟨fun q => absurd hfd (by omega), fun _ => ⟨fun _ => rfl, fun q => absurd (by rw [hcm, hnd, ← eN]; exact q) z⟩⟩⟩
  have yes : gd_okg cm nd N → ∀ b : Nat → Int, gz_bo cm nd N b → gd_isl g s l i n k (if 0 ≤ k then b k.toNat else (gz_wq cm nd b N).2) := fun z b hb => ⟨fun q => absurd ok q, fun _ => ⟨fun q => absurd hfd (by omega), fun _ => ⟨fun q => absurd z (by rw [hcm, hnd, ← eN]; exact q), fun _ => ⟨b, by rw [eN, ← hcm, ← hnd]; exact hb, by rw [eN, ← hcm, ← hnd]⟩⟩⟩⟩
  have hb : gw_SH[109 + 2 * s.toNat + 1]? = some (1, 24, []) := by
    have h6 : s.toNat = 0 ∨ s.toNat = 1 ∨ s.toNat = 2 ∨ s.toNat = 3 := by omega
    rcases h6 with e | e | e | e <;> rw [e] <;> decide +kernel
  have hl := sp_X0_load (109 + 2 * s.toNat + 1) hb (by omega) i cm nd N (by omega) (by omega) m (fun x x0 x1 => by
    have hs := (hS s h1).2.2
    rw [hs (i + 2 * x) (by omega), hs (i + 2 * x + 1) (by omega), hcm, hnd]
    dsimp only
    rw [show 24 * s + (i + 2 * x) = 24 * s + i + 2 * x by omega, show 24 * s + (i + 2 * x + 1) = 24 * s + i + 2 * x + 1 by omega]
    exact ⟨rfl, rfl⟩)
  rw [← hN] at hl
  refine gw_CI.of hl rfl (fun v m17 _ _ hv => ?_)
  obtain ⟨f17, hv⟩ := hv
  rcases hv with ⟨rfl, og, hB⟩ | ⟨rfl, og⟩
  · refine ⟨fun z => absurd z (by omega), fun _ => ?_⟩
    refine gw_CV.of (sp_X0_seek cm nd N (by omega) og m17 hB) rfl (fun m19 _ h => ?_)
    obtain ⟨f19, b19, w19⟩ := h
    refine ⟨fun hk => gw_inm hk (by omega), _, rfl, ?_, fun o ho => by rw [f19 o (by omega) (by omega) (by omega), f17 o (by omega)]⟩
    have y := yes og _ b19
    by_cases hk : 0 ≤ k
    · rw [if_pos hk] at y ⊢
      rwa [Int.toNat_of_nonneg hk] at y
    · rw [if_neg hk] at y ⊢
      rw [w19]
      exact y
  · exact ⟨fun _ => ⟨_, rfl, no og, fun o ho => f17 o (by omega)⟩, fun z => absurd rfl z⟩
