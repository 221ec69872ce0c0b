/-! what the plan holds while it is laid -/
/-- the marks so far: the kinds below kind, and k of kind -/
def gp_Mk (cx : gw_Cx) (g : gw_Mem) (kind k : Int) : Prop := g 117 0 = gp_end cx ∧ g 117 6 = 0 ∧ (∀ q : Int, 0 ≤ q ∧ q ≤ 3 → g 118 q = if q < kind then gp_marks cx q else if q = kind then k else 0) ∧ ∀ q i : Int, 0 ≤ q ∧ q ≤ 3 → 0 ≤ i → i < g 118 q → g 119 (8 * q + i) = gp_mark cx q i 0 ∧ g 120 (8 * q + i) = gp_mark cx q i 1
theorem gp_Mk_s {cx : gw_Cx} {g : gw_Mem} {kind k : Int} (hJ : gd_JP g) (h : gp_Mk cx g kind k) (hk : 0 ≤ kind ∧ kind ≤ 3) (h8 : 0 ≤ k ∧ k < 8) : gp_Mk cx (gd_comes g kind (gp_mark cx kind k 0) (gp_mark cx kind k 1)) kind (k + 1) := by
  obtain ⟨h1, h2, h3, h4⟩ := h
  have e : g 118 kind = k := by rw [h3 kind hk, if_neg (by omega), if_pos rfl]
  have ne := gd_comes_ne g kind (gp_mark cx kind k 0) (gp_mark cx kind k 1)
  have s8 := gd_comes_8 g kind (gp_mark cx kind k 0) (gp_mark cx kind k 1)
  have s9 := gd_comes_9 g kind (gp_mark cx kind k 0) (gp_mark cx kind k 1)
  have s20 := gd_comes_20 g kind (gp_mark cx kind k 0) (gp_mark cx kind k 1)
  generalize gd_comes g kind (gp_mark cx kind k 0) (gp_mark cx kind k 1) = g' at *
  rw [e] at s8 s9 s20
  refine ⟨by rw [ne 117 (by omega) (by omega) (by omega) (by omega)]; exact h1, by rw [ne 117 (by omega) (by omega) (by omega) (by omega)]; exact h2, fun q hq => ?_, fun q i hq hi0 hi => ?_⟩
  · rw [s8]
    by_cases c : q = kind
    · rw [if_pos c, if_neg (by omega), if_pos c]
    · rw [if_neg c, h3 q hq, if_neg c]
      by_cases c2 : q < kind
      · rw [if_pos c2, if_pos c2]
      · rw [if_neg c2, if_neg c2, if_neg c]
  · rw [s8] at hi
    have z := (hJ.2.1 q hq)
    rw [s9, s20]
    by_cases c : q = kind
    · rw [if_pos c] at hi
      by_cases c2 : i = k
      · rw [c, c2, if_pos rfl, if_pos rfl]
        exact ⟨rfl, rfl⟩
      · rw [if_neg (by omega), if_neg (by omega)]
        exact h4 q i hq hi0 (by rw [c, e]; omega)
    · rw [if_neg c] at hi
      rw [if_neg (by omega), if_neg (by omega)]
      exact h4 q i hq hi0 hi
theorem gp_Mk_n {cx : gw_Cx} {g : gw_Mem} {kind : Int} (h : gp_Mk cx g kind (gp_marks cx kind)) : gp_Mk cx g (kind + 1) 0 := by
  obtain ⟨h1, h2, h3, h4⟩ := h
  refine ⟨h1, h2, fun q hq => ?_, h4⟩
  rw [h3 q hq]
  by_cases c : q < kind
  · rw [if_pos c, if_pos (by omega)]
  · rw [if_neg c]
    by_cases c2 : q = kind
    · rw [if_pos c2, if_pos (by omega), c2]
    · rw [if_neg c2, if_neg (by omega)]
      split <;> rfl
/-- the plan as the script has it: w rules, p people so far -/
def gp_F (cx : gw_Cx) (g : gw_Mem) (w p : Int) : Prop := g 117 0 = gp_end cx ∧ (∀ q : Int, 0 ≤ q ∧ q ≤ 3 → g 118 q = gp_marks cx q) ∧ (∀ q i : Int, 0 ≤ q ∧ q ≤ 3 → 0 ≤ i → i < g 118 q → g 119 (8 * q + i) = gp_mark cx q i 0 ∧ g 120 (8 * q + i) = gp_mark cx q i 1) ∧ (∀ j : Int, 0 ≤ j → j < w → g 122 j = gp_rule cx j) ∧ g 117 6 = p ∧ ∀ q : Int, 0 ≤ q → q < p → g 123 q = gp_one cx q 0 ∧ g 124 q = gp_one cx q 1 ∧ g 125 q = gp_one cx q 2
theorem gp_Mk_F {cx : gw_Cx} {g : gw_Mem} (h : gp_Mk cx g 4 0) : gp_F cx g 0 0 := by
  obtain ⟨h1, h2, h3, h4⟩ := h
  refine ⟨h1, fun q hq => ?_, h4, fun j a b => by omega, h2, fun q a b => by omega⟩
  rw [h3 q hq, if_pos (by omega)]
theorem gp_F_r {cx : gw_Cx} {g : gw_Mem} {w : Int} (hw : 0 ≤ w) (h : gp_F cx g w 0) : gp_F cx (gw_up g 122 w (gp_rule cx w)) (w + 1) 0 := by
  obtain ⟨h1, h2, h3, h4, h5, h6⟩ := h
  have ne : ∀ o : Nat, o ≠ 122 → gw_up g 122 w (gp_rule cx w) o = g o := fun o ho => gw_up_ne ho
  refine ⟨by rw [ne 117 (by omega)]; exact h1, fun q hq => by rw [ne 118 (by omega)]; exact h2 q hq, fun q i hq a b => ?_, fun j a b => ?_, by rw [ne 117 (by omega)]; exact h5, fun q a b => by omega⟩
  · rw [ne 118 (by omega)] at b
    rw [ne 119 (by omega), ne 120 (by omega)]
    exact h3 q i hq a b
  · rw [gw_up_at]
    by_cases c : j = w
    · rw [if_pos c, c]
    · rw [if_neg c]
      exact h4 j a (by omega)
theorem gp_F_p {cx : gw_Cx} {g : gw_Mem} {p : Int} (hp : 0 ≤ p) (h : gp_F cx g 5 p) {e : Int} (he : e = gp_one cx p 2) : gp_F cx (gd_joins g (gp_one cx p 0) (gp_one cx p 1) e) 5 (p + 1) := by
  obtain ⟨h1, h2, h3, h4, h5, h6⟩ := h
  subst he
  unfold gd_joins
  rw [h5]
  have ne : ∀ o : Nat, o ≠ 117 → o ≠ 123 → o ≠ 124 → o ≠ 125 → gw_up (gw_up (gw_up (gw_up g 123 p (gp_one cx p 0)) 124 p (gp_one cx p 1)) 125 p (gp_one cx p 2)) 117 6 (p + 1) o = g o := fun o a b c d => by rw [gw_up_ne a, gw_up_ne d, gw_up_ne c, gw_up_ne b]
  refine ⟨?_, fun q hq => by rw [ne 118 (by omega) (by omega) (by omega) (by omega)]; exact h2 q hq, fun q i hq a b => ?_, fun j a b => by rw [ne 122 (by omega) (by omega) (by omega) (by omega)]; exact h4 j a b, by rw [gw_up_at, if_pos rfl], fun q a b => ?_⟩
  · rw [gw_up_at, if_neg (by omega), gw_up_ne (by omega), gw_up_ne (by omega), gw_up_ne (by omega)]
    exact h1
  · rw [ne 118 (by omega) (by omega) (by omega) (by omega)] at b
    rw [ne 119 (by omega) (by omega) (by omega) (by omega), ne 120 (by omega) (by omega) (by omega) (by omega)]
    exact h3 q i hq a b
  · have e3 : gw_up (gw_up (gw_up (gw_up g 123 p (gp_one cx p 0)) 124 p (gp_one cx p 1)) 125 p (gp_one cx p 2)) 117 6 (p + 1) 123 q = if q = p then gp_one cx p 0 else g 123 q := by rw [gw_up_ne (by omega), gw_up_ne (by omega), gw_up_ne (by omega), gw_up_at]
    have e4 : gw_up (gw_up (gw_up (gw_up g 123 p (gp_one cx p 0)) 124 p (gp_one cx p 1)) 125 p (gp_one cx p 2)) 117 6 (p + 1) 124 q = if q = p then gp_one cx p 1 else g 124 q := by rw [gw_up_ne (by omega), gw_up_ne (by omega), gw_up_at, gw_up_ne (by omega)]
    have e5 : gw_up (gw_up (gw_up (gw_up g 123 p (gp_one cx p 0)) 124 p (gp_one cx p 1)) 125 p (gp_one cx p 2)) 117 6 (p + 1) 125 q = if q = p then gp_one cx p 2 else g 125 q := by rw [gw_up_ne (by omega), gw_up_at, gw_up_ne (by omega), gw_up_ne (by omega)]
    rw [e3, e4, e5]
    by_cases c : q = p
    · rw [if_pos c, if_pos c, if_pos c, c]
      exact ⟨rfl, rfl, rfl⟩
    · rw [if_neg c, if_neg c, if_neg c]
      exact h6 q a (by omega)
theorem gp_tl_no {cx : gw_Cx} {g : gw_Mem} {p : Nat} (h : gp_F cx g 5 p) : ¬ (gp_one cx p 0 = 3 ∧ 0 ≤ gd_tl g (g 117 6).toNat) := by
  intro z
  have hn : (g 117 6).toNat = p := by have := h.2.2.2.2.1; omega
  rw [hn] at z
  have t := gd_tl_rng g p
  obtain ⟨q, hq⟩ := gw_nat z.2
  have t3 := t.2.2.2 z.2
  rw [hq] at t3
  have hqp : q < p := by have := t.2.1; omega
  rw [(h.2.2.2.2.2 q (by omega) (by omega)).1] at t3
  exact gp_one_tail cx hqp z.1 t3
