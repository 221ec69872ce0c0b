/-! colours: which flags meet; rows of colours -/
theorem gd_and01 (x : Int) : gw_and x 1 = 0 ∨ gw_and x 1 = 1 := by
  obtain ⟨j, hj, e⟩ := pk_andE (Int32.ofInt x) (m := Int32.ofInt 1) 1 (by decide)
  unfold gw_and
  rw [e]
  have h : j = 0 ∨ j = 1 := by omega
  rcases h with rfl | rfl
  · left; decide
  · right; decide
def gd_bx (n : Int) : Nat → Int
  | 0 => 0
  | a + 1 => gd_bx n a + (n - 1 - a)
theorem gd_bx_rng (n : Int) (hn : 1 ≤ n ∧ n ≤ 8) (a : Nat) (ha : (a : Int) ≤ n) : 0 ≤ gd_bx n a ∧ gd_bx n a ≤ 7 * a := by
  induction a with
  | zero => exact ⟨Int.le_refl _, Int.le_refl _⟩
  | succ a ih =>
    have h := ih (by omega)
    rw [gd_bx]
    omega
/-- a meets b, a below b -/
def gd_mt (n pr : Int) (a b : Nat) : Prop := gw_and (gw_shr pr (gd_bx n a + b - a - 1)) 1 = 1
def gd_vl (n pr c : Int) (h : Nat → Int) (i : Nat) : Prop := ∀ b : Nat, b < i → (0 ≤ h b ∧ h b < c) ∧ ∀ a : Nat, a < b → gd_mt n pr a b → h a ≠ h b
def gd_lm (n pr c : Int) (N : Nat) (h : Nat → Int) (i : Nat) : Prop := ∀ h' : Nat → Int, gd_vl n pr c h' N → ∀ k : Nat, k < i → (∀ a : Nat, a < k → h' a = h a) → h k ≤ h' k
theorem gd_vl_congr {n pr c : Int} {h h' : Nat → Int} {i : Nat} (e : ∀ a : Nat, a < i → h' a = h a) (v : gd_vl n pr c h i) : gd_vl n pr c h' i := by
  intro b hb
  have w := v b hb
  rw [e b hb]
  refine ⟨w.1, fun a ha => ?_⟩
  rw [e a (by omega)]
  exact w.2 a ha
theorem gd_lm_congr {n pr c : Int} {N : Nat} {h h' : Nat → Int} {i : Nat} (e : ∀ a : Nat, a < i → h' a = h a) (v : gd_lm n pr c N h i) : gd_lm n pr c N h' i := by
  intro x hx k hk ha
  rw [e k hk]
  exact v x hx k hk (fun a h => by rw [ha a h, e a (by omega)])
theorem gd_vl_one {n pr c : Int} {h : Nat → Int} {i : Nat} (v : gd_vl n pr c h i) (h1 : 0 ≤ h i ∧ h i < c) (h2 : ∀ a : Nat, a < i → gd_mt n pr a i → h a ≠ h i) : gd_vl n pr c h (i + 1) := by
  intro b hb
  by_cases e : b = i
  · subst e
    exact ⟨h1, h2⟩
  · exact v b (by omega)
theorem gd_lm_one {n pr c : Int} {N : Nat} {h : Nat → Int} {i : Nat} (v : gd_lm n pr c N h i) (h1 : ∀ h' : Nat → Int, gd_vl n pr c h' N → (∀ a : Nat, a < i → h' a = h a) → h i ≤ h' i) : gd_lm n pr c N h (i + 1) := by
  intro x hx k hk ha
  by_cases e : k = i
  · subst e
    exact h1 x hx ha
  · exact v x hx k (by omega) ha
/-- how many colours are used, if each comes behind those below it -/
def gd_us (h : Nat → Int) : Nat → Int
  | 0 => 0
  | i + 1 => max (gd_us h i) (h i + 1)
def gd_rg (h : Nat → Int) (i : Nat) : Prop := ∀ b : Nat, b < i → h b ≤ gd_us h b
theorem gd_us_congr {h h' : Nat → Int} {i : Nat} (e : ∀ a : Nat, a < i → h' a = h a) : gd_us h' i = gd_us h i := by
  induction i with
  | zero => rfl
  | succ i ih => rw [gd_us, gd_us, ih (fun a ha => e a (by omega)), e i (by omega)]
theorem gd_us_gt (h : Nat → Int) (i : Nat) : 0 ≤ gd_us h i ∧ ∀ a : Nat, a < i → h a + 1 ≤ gd_us h i := by
  induction i with
  | zero => exact ⟨Int.le_refl _, fun a ha => by omega⟩
  | succ i ih =>
    rw [gd_us]
    refine ⟨by omega, fun a ha => ?_⟩
    by_cases e : a = i
    · rw [e]; omega
    · have := ih.2 a (by omega); omega
theorem gd_rg_congr {h h' : Nat → Int} {i : Nat} (e : ∀ a : Nat, a < i → h' a = h a) (r : gd_rg h i) : gd_rg h' i := by
  intro b hb
  rw [e b hb, gd_us_congr (fun a ha => e a (by omega))]
  exact r b hb
theorem gd_rgx (n pr c : Int) (N : Nat) : ∀ (d k : Nat), k + d = N → ∀ h : Nat → Int, gd_vl n pr c h N → gd_rg h k → ∃ h' : Nat → Int, gd_vl n pr c h' N ∧ gd_rg h' N ∧ ∀ a : Nat, a < k → h' a = h a := by
  intro d
  induction d with
  | zero =>
    intro k hk h v r
    have e : k = N := by omega
    subst e
    exact ⟨h, v, r, fun a _ => rfl⟩
  | succ d ih =>
    intro k hk h v r
    by_cases c1 : h k ≤ gd_us h k
    · obtain ⟨h', a1, a2, a3⟩ := ih (k + 1) (by omega) h v (fun b hb => by
        by_cases e : b = k
        · rw [e]; exact c1
        · exact r b (by omega))
      exact ⟨h', a1, a2, fun a ha => a3 a (by omega)⟩
    · have u := gd_us_gt h k
      have hkc := (v k (by omega)).1
      generalize hu : gd_us h k = U at *
      have e : ∀ a : Nat, a < k → (if h a = U then h k else if h a = h k then U else h a) = h a := by
        intro a ha
        have := u.2 a ha
        rw [if_neg (by omega), if_neg (by omega)]
      obtain ⟨h', a1, a2, a3⟩ := ih (k + 1) (by omega) (fun a => if h a = U then h k else if h a = h k then U else h a) (by
        intro b hb
        have w := v b hb
        refine ⟨?_, fun a ha hm => ?_⟩
        · dsimp only
          repeat' split
          all_goals omega
        · have w2 := w.2 a ha hm
          dsimp only
          repeat' split
          all_goals omega) (by
        intro b hb
        by_cases eb : b = k
        · subst eb
          rw [gd_us_congr (h := h) e, hu]
          dsimp only
          rw [if_neg (by omega), if_pos rfl]
          omega
        · rw [gd_us_congr (h := h) (fun a ha => e a (by omega))]
          dsimp only
          rw [e b (by omega)]
          exact r b (by omega))
      exact ⟨h', a1, a2, fun a ha => (a3 a (by omega)).trans (e a ha)⟩
/-- all flags unlike -/
theorem gd_vl_id (n pr : Int) (N : Nat) (hN : n = N) : gd_vl n pr n (fun a => (a : Int)) N ∧ gd_rg (fun a => (a : Int)) N := by
  have e : ∀ i : Nat, gd_us (fun a => (a : Int)) i = i := by
    intro i
    induction i with
    | zero => rfl
    | succ i ih => rw [gd_us, ih]; omega
  exact ⟨fun b hb => ⟨by dsimp only; omega, fun a ha _ => by dsimp only; omega⟩, fun b hb => by rw [e]; exact Int.le_refl _⟩
/-- what colours answers -/
def gd_isc (n pr i v : Int) : Prop := ((1 ≤ n ∧ n ≤ 8) ∧ (0 ≤ pr ∧ pr ≤ gw_w (gw_shl 1 (gw_w ((gw_w (n * gw_w (n - 1))).tdiv 2)) - 1)) ∧ -1 ≤ i ∧ i ≤ n - 1 → ∃ (c : Nat) (h : Nat → Int), 1 ≤ c ∧ gd_vl n pr c h n.toNat ∧ gd_lm n pr c n.toNat h n.toNat ∧ (∀ c' : Nat, 1 ≤ c' → c' < c → ∀ h' : Nat → Int, ¬ gd_vl n pr c' h' n.toNat) ∧ v = if 0 ≤ i then h i.toNat else c) ∧ (¬ ((1 ≤ n ∧ n ≤ 8) ∧ (0 ≤ pr ∧ pr ≤ gw_w (gw_shl 1 (gw_w ((gw_w (n * gw_w (n - 1))).tdiv 2)) - 1)) ∧ -1 ≤ i ∧ i ≤ n - 1) → v = -1)
theorem gd_lm_uniq {n pr c : Int} {N : Nat} {h h' : Nat → Int} (v : gd_vl n pr c h N) (v' : gd_vl n pr c h' N) (l : gd_lm n pr c N h N) (l' : gd_lm n pr c N h' N) : ∀ k : Nat, k ≤ N → ∀ a : Nat, a < k → h a = h' a := by
  intro k
  induction k with
  | zero => intro _ a ha; omega
  | succ k ih =>
    intro hk a ha
    have e := ih (by omega)
    by_cases ea : a = k
    · subst ea
      have a1 := l h' v' a (by omega) (fun x hx => (e x hx).symm)
      have a2 := l' h v a (by omega) (fun x hx => e x hx)
      omega
    · exact e a (by omega)
theorem gd_isc_uniq {n pr i v v' : Int} (h : gd_isc n pr i v) (h' : gd_isc n pr i v') : v = v' := by
  by_cases ok : (1 ≤ n ∧ n ≤ 8) ∧ (0 ≤ pr ∧ pr ≤ gw_w (gw_shl 1 (gw_w ((gw_w (n * gw_w (n - 1))).tdiv 2)) - 1)) ∧ -1 ≤ i ∧ i ≤ n - 1
  · obtain ⟨c, f, c1, vf, lf, mf, rfl⟩ := h.1 ok
    obtain ⟨c', f', c1', vf', lf', mf', rfl⟩ := h'.1 ok
    have e : c = c' := by
      rcases Nat.lt_trichotomy c c' with z | z | z
      · exact absurd vf (mf' c c1 z f)
      · exact z
      · exact absurd vf' (mf c' c1' z f')
    subst e
    by_cases hi : 0 ≤ i
    · rw [if_pos hi, if_pos hi]
      exact gd_lm_uniq vf vf' lf lf' n.toNat (Nat.le_refl _) i.toNat (by omega)
    · rw [if_neg hi, if_neg hi]
  · rw [h.2 ok, h'.2 ok]
/-! the reference -/
def gd_ptd (n pr c : Int) (N : Nat) (g : gw_Mem) (v : Int) (m' : gw_Mem) : Prop := (∀ o : Nat, o ≠ 136 → m' o = g o) ∧ ((v = 1 ∧ gd_vl n pr c (fun a => m' 136 (a : Int)) N ∧ gd_lm n pr c N (fun a => m' 136 (a : Int)) N) ∨ (v = 0 ∧ ∀ h : Nat → Int, ¬ gd_vl n pr c h N))
theorem gd_tri (n : Int) (hn : 1 ≤ n ∧ n ≤ 8) : n * (n - 1) = 2 * (gw_w ((gw_w (n * gw_w (n - 1))).tdiv 2)) ∧ (0 ≤ gw_w ((gw_w (n * gw_w (n - 1))).tdiv 2) ∧ gw_w ((gw_w (n * gw_w (n - 1))).tdiv 2) ≤ 28) := by
  have h : n = 1 ∨ n = 2 ∨ n = 3 ∨ n = 4 ∨ n = 5 ∨ n = 6 ∨ n = 7 ∨ n = 8 := by omega
  rcases h with rfl | rfl | rfl | rfl | rfl | rfl | rfl | rfl <;> decide
