/-! the class: whether a pillar hides a listener in one direction -/
def gd_in12 (x : Int) : Prop := 0 ≤ x ∧ x ≤ 11
/-- from the point (x, y) on by (dx, dy): what is found by so many steps from step j on, with a pillar seen or not -/
def gd_hd (g : gw_Mem) (x y dx dy : Int) : Nat → Int → Int → Int
  | 0, _, _ => 0
  | n + 1, j, s => if (0 ≤ x + j * dx ∧ x + j * dx ≤ 11) ∧ 0 ≤ y + j * dy ∧ y + j * dy ≤ 11 then (if g 126 (12 * (y + j * dy) + (x + j * dx)) = 2 ∧ s ≠ 0 then 1 else gd_hd g x y dx dy n (j + 1) (if s = 0 then (if g 126 (12 * (y + j * dy) + (x + j * dx)) = 1 then 1 else 0) else 1)) else 0
theorem sp_X8_isListenerHidden (g m : gw_Mem) (hS : ∀ j : Int, 0 ≤ j ∧ j < 144 → m 24 j = g 126 j) (x y dx dy : Int) (hx : 0 ≤ x ∧ x ≤ 11) (hy : 0 ≤ y ∧ y ≤ 11) (hdx : -1 ≤ dx ∧ dx ≤ 1) (hdy : -1 ≤ dy ∧ dy ≤ 1) : gw_SpecI M_X8_isListenerHidden 11 [gR 23, gI x, gI y, gI dx, gI dy] m (fun r m' => r = gd_hd g x y dx dy 11 1 0 ∧ m' = m) := by
  refine gw_intro pl_X8_isListenerHidden rfl (fun Γ => ?_)
  have hb : gw_isSquare 23 := Or.inl rfl
  have mul : ∀ (a d : Int), 0 ≤ a ∧ a ≤ 12 → -1 ≤ d ∧ d ≤ 1 → -12 ≤ a * d ∧ a * d ≤ 12 := by
    intro a d ha hd
    have hc : d = -1 ∨ d = 0 ∨ d = 1 := by omega
    rcases hc with rfl | rfl | rfl <;> omega
  have key : ∀ (n j : Nat) (s : Int) (y7 y8 y9 : Option gw_SV), j + n = 12 → gw_b s → gd_hd g x y dx dy n j s = gd_hd g x y dx dy 11 1 0 → gw_G M_X8_isListenerHidden 11 (fun r m' => ∃ v, r = some (gI v) ∧ v = gd_hd g x y dx dy 11 1 0 ∧ m' = m) Γ 6 [some (gR 23), some (gI x), some (gI y), some (gI dx), some (gI dy), some (gI s), some (gI (j : Int)), y7, y8, y9] [] m := by
    intro n
    induction n with
    | zero =>
      intro j s y7 y8 y9 hj hs he
      apply r_X8_isListenerHidden_6 23 hb
      exact ⟨fun _ => gw_rE he rfl, fun z => absurd (by omega) z⟩
    | succ n ih =>
      intro j s y7 y8 y9 hj hs he
      apply r_X8_isListenerHidden_6 23 hb
      have mx := mul (j : Int) dx (by omega) hdx
      have my := mul (j : Int) dy (by omega) hdy
      rw [gd_hd] at he
      rw [gw_w_id (x := (j : Int) * dx) (by omega), gw_w_id (x := (j : Int) * dy) (by omega)]
      generalize hX : (j : Int) * dx = X at mx he ⊢
      generalize hY : (j : Int) * dy = Y at my he ⊢
      rw [gw_w_id (x := x + X) (by omega), gw_w_id (x := y + Y) (by omega)]
      refine ⟨fun z => absurd z (by omega), fun _ => gw_CI.eq (sp_X11_within (x + X) 0 11 m) rfl (gw_b_tf (fun h => ?_) (fun h1 => gw_CI.eq (sp_X11_within (y + Y) 0 11 m) rfl (gw_b_tf (fun h => ?_) (fun h2 => ?_))))⟩
      · rw [if_neg (fun z => h z.1)] at he
        exact gw_rE he rfl
      · rw [if_neg (fun z => h z.2)] at he
        exact gw_rE he rfl
      · rw [if_pos (And.intro h1 h2)] at he
        rw [gw_w_id (x := 12 * (y + Y)) (by omega), gw_w_id (x := 12 * (y + Y) + (x + X)) (by omega)]
        have e24 : m (23 + 1) (12 * (y + Y) + (x + X)) = g 126 (12 * (y + Y) + (x + X)) := hS _ (by omega)
        rw [e24]
        have nxt : ∀ y9 : Option gw_SV, ¬ (g 126 (12 * (y + Y) + (x + X)) = 2 ∧ s ≠ 0) → gw_G M_X8_isListenerHidden 11 (fun r m' => ∃ v, r = some (gI v) ∧ v = gd_hd g x y dx dy 11 1 0 ∧ m' = m) Γ 82 [some (gR 23), some (gI x), some (gI y), some (gI dx), some (gI dy), some (gI s), some (gI (j : Int)), some (gI (x + X)), some (gI (y + Y)), some (gI (g 126 (12 * (y + Y) + (x + X))))] [] m := by
          intro _ hno
          rw [if_neg hno] at he
          apply r_X8_isListenerHidden_82 23 hb
          rw [gw_w1 (by omega)]
          refine ih (j + 1) _ _ _ _ (by omega) ?_ (by rw [show ((j + 1 : Nat) : Int) = (j : Int) + 1 by omega]; exact he)
          unfold gw_b
          repeat' split
          all_goals simp
        refine ⟨gw_inm (by omega) (by omega), fun h3 => ⟨fun h4 => nxt none (fun z => z.2 h4), fun h4 => ?_⟩, fun h3 => nxt none (fun z => h3 z.1)⟩
        rw [if_pos (And.intro h3 h4)] at he
        exact gw_rE he rfl
  apply r_X8_isListenerHidden_0 23 hb
  exact key 11 1 0 none none none (by omega) (Or.inl rfl) rfl
