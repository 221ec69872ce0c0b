/-! the class: whether all hear, in the eight directions -/
def gd_hn (g : gw_Mem) (x y : Int) (c : Nat) : Int := if c = 4 then 0 else gd_hd g x y ((c : Int) % 3 - 1) ((c : Int) / 3 - 1) 11 1 0
def gd_h9 (g : gw_Mem) (x y : Int) : Nat → Int
  | 0 => 1
  | c + 1 => if gd_h9 g x y c = 0 then 0 else if gd_hn g x y c = 0 then 1 else 0
theorem gd_h9_stay (g : gw_Mem) (x y : Int) (c : Nat) (h : gd_h9 g x y c = 0) : ∀ d : Nat, gd_h9 g x y (c + d) = 0 := by
  intro d
  induction d with
  | zero => exact h
  | succ d ih => rw [show c + (d + 1) = (c + d) + 1 by omega, gd_h9, if_pos ih]
theorem sp_X8_isHeardAllAround (g m : gw_Mem) (hS : ∀ j : Int, 0 ≤ j ∧ j < 144 → m 24 j = g 126 j) (x y : Int) (hx : 0 ≤ x ∧ x ≤ 11) (hy : 0 ≤ y ∧ y ≤ 11) (N : Nat) (hN : N = 9) : gw_SpecI M_X8_isHeardAllAround 12 [gR 23, gI x, gI y] m (fun r m' => r = gd_h9 g x y N ∧ m' = m) := by
  refine gw_intro pl_X8_isHeardAllAround rfl (fun Γ => ?_)
  have hb : gw_isSquare 23 := Or.inl rfl
  have outer : ∀ (jo a : Nat) (y4 : Option gw_SV), a + jo = 3 → gd_h9 g x y (3 * a) = 1 → gw_G M_X8_isHeardAllAround 12 (fun r m' => ∃ v, r = some (gI v) ∧ v = gd_h9 g x y N ∧ m' = m) Γ 2 [some (gR 23), some (gI x), some (gI y), some (gI ((a : Int) - 1)), y4] [] m := by
    intro jo
    induction jo with
    | zero =>
      intro a y4 ha h1
      apply r_X8_isHeardAllAround_2 23 hb
      refine ⟨fun _ => gw_rE ?_ rfl, fun z => absurd (by omega) z⟩
      rw [show N = 3 * a by omega]
      exact h1.symm
    | succ jo iho =>
      intro a y4 ha h1
      apply r_X8_isHeardAllAround_2 23 hb
      refine ⟨fun z => absurd z (by omega), fun _ => ?_⟩
      have inner : ∀ (ji b : Nat), b + ji = 3 → gd_h9 g x y (3 * a + b) = 1 → gw_G M_X8_isHeardAllAround 12 (fun r m' => ∃ v, r = some (gI v) ∧ v = gd_h9 g x y N ∧ m' = m) Γ 10 [some (gR 23), some (gI x), some (gI y), some (gI ((a : Int) - 1)), some (gI ((b : Int) - 1))] [] m := by
        intro ji
        induction ji with
        | zero =>
          intro b hbj h2
          apply r_X8_isHeardAllAround_10 23 hb
          refine ⟨fun _ => ?_, fun z => absurd (by omega) z⟩
          rw [show gw_w ((a : Int) - 1 + 1) = ((a + 1 : Nat) : Int) - 1 by rw [gw_w_id (by omega)]; omega]
          exact iho (a + 1) _ (by omega) (by rw [show 3 * (a + 1) = 3 * a + b by omega]; exact h2)
        | succ ji ihi =>
          intro b hbj h2
          apply r_X8_isHeardAllAround_10 23 hb
          have nxt : gd_hn g x y (3 * a + b) = 0 → gw_G M_X8_isHeardAllAround 12 (fun r m' => ∃ v, r = some (gI v) ∧ v = gd_h9 g x y N ∧ m' = m) Γ 39 [some (gR 23), some (gI x), some (gI y), some (gI ((a : Int) - 1)), some (gI ((b : Int) - 1))] [] m := by
            intro h3
            apply r_X8_isHeardAllAround_39 23 hb
            rw [show gw_w ((b : Int) - 1 + 1) = ((b + 1 : Nat) : Int) - 1 by rw [gw_w_id (by omega)]; omega]
            refine ihi (b + 1) (by omega) ?_
            rw [show 3 * a + (b + 1) = (3 * a + b) + 1 by omega, gd_h9, if_neg (by omega), if_pos h3]
          have look : 3 * a + b ≠ 4 → gw_G M_X8_isHeardAllAround 12 (fun r m' => ∃ v, r = some (gI v) ∧ v = gd_h9 g x y N ∧ m' = m) Γ 25 [some (gR 23), some (gI x), some (gI y), some (gI ((a : Int) - 1)), some (gI ((b : Int) - 1))] [] m := by
            intro h4
            apply r_X8_isHeardAllAround_25 23 hb
            have e : gd_hn g x y (3 * a + b) = gd_hd g x y ((b : Int) - 1) ((a : Int) - 1) 11 1 0 := by
              unfold gd_hn
              rw [if_neg h4, show ((3 * a + b : Nat) : Int) % 3 = b by omega, show ((3 * a + b : Nat) : Int) / 3 = a by omega]
            refine gw_CI.eq (sp_X8_isListenerHidden g m hS x y ((b : Int) - 1) ((a : Int) - 1) hx hy (by omega) (by omega)) rfl ?_
            rw [← e]
            refine ⟨fun h5 => nxt h5, fun h5 => gw_rE ?_ rfl⟩
            have st := gd_h9_stay g x y (3 * a + b + 1) (by rw [gd_h9, if_neg (by omega), if_neg h5]) (N - (3 * a + b + 1))
            rw [show 3 * a + b + 1 + (N - (3 * a + b + 1)) = N by omega] at st
            exact st.symm
          refine ⟨fun z => absurd z (by omega), fun _ => ⟨fun h3 => ⟨fun h4 => nxt ?_, fun h4 => look (by omega)⟩, fun h3 => look (by omega)⟩⟩
          unfold gd_hn
          rw [if_pos (by omega)]
      exact inner 3 0 (by omega) h1
  apply r_X8_isHeardAllAround_0 23 hb
  exact outer 3 0 none (by omega) rfl
