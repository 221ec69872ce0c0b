/-! colours: which flags meet; rows of colours -/
theorem gd_and01 (x : Int) : gw_and x 1 = 0 ∨ gw_and x 1 = 1 := by
  obtain ⟨j, hj, e⟩ := pk_andE (Int32.ofInt x) (m := Int32.ofInt 1) 1 (by decide)
  unfold gw_and
  rw [e]
  have h : j = 0 ∨ j = 1 := by omega
  rcases h with rfl | rfl
  · left; decide
  · right; decide
def gd_bx (n : Int) : Nat → Int
  | 0 => 0
  | a + 1 => gd_bx n a + (n - 1 - a)
theorem gd_bx_rng (n : Int) (hn : 1 ≤ n ∧ n ≤ 8) (a : Nat) (ha : (a : Int) ≤ n) : 0 ≤ gd_bx n a ∧ gd_bx n a ≤ 7 * a := by
  induction a with
  | zero => exact ⟨Int.le_refl _, Int.le_refl _⟩
  | succ a ih =>
    have h := ih (by omega)
    rw [gd_bx]
    omega
/-- a meets b, a below b -/
def gd_mt (n pr : Int) (a b : Nat) : Prop := gw_and (gw_shr pr (gd_bx n a + b - a - 1)) 1 = 1
def gd_vl (n pr c : Int) (h : Nat → Int) (i : Nat) : Prop := ∀ b : Nat, b < i → (0 ≤ h b ∧ h b < c) ∧ ∀ a : Nat, a < b → gd_mt n pr a b → h a ≠ h b
def gd_lm (n pr c : Int) (N : Nat) (h : Nat → Int) (i : Nat) : Prop := ∀ h' : Nat → Int, gd_vl n pr c h' N → ∀ k : Nat, k < i → (∀ a : Nat, a < k → h' a = h a) → h k ≤ h' k
theorem gd_vl_congr {n pr c : Int} {h h' : Nat → Int} {i : Nat} (e : ∀ a : Nat, a < i → h' a = h a) (v : gd_vl n pr c h i) : gd_vl n pr c h' i := by
  intro b hb
  have w := v b hb
  rw [e b hb]
  refine ⟨w.1, fun a ha => ?_⟩
  rw [e a (by omega)]
  exact w.2 a ha
theorem gd_lm_congr {n pr c : Int} {N : Nat} {h h' : Nat → Int} {i : Nat} (e : ∀ a : Nat, a < i → h' a = h a) (v : gd_lm n pr c N h i) : gd_lm n pr c N h' i := by
  intro x hx k hk ha
  rw [e k hk]
  exact v x hx k hk (fun a h => by rw [ha a h, e a (by omega)])
theorem gd_vl_one {n pr c : Int} {h : Nat → Int} {i : Nat} (v : gd_vl n pr c h i) (h1 : 0 ≤ h i ∧ h i < c) (h2 : ∀ a : Nat, a < i → gd_mt n pr a i → h a ≠ h i) : gd_vl n pr c h (i + 1) := by
  intro b hb
  by_cases e : b = i
  · subst e
    exact ⟨h1, h2⟩
  · exact v b (by omega)
theorem gd_lm_one {n pr c : Int} {N : Nat} {h : Nat → Int} {i : Nat} (v : gd_lm n pr c N h i) (h1 : ∀ h' : Nat → Int, gd_vl n pr c h' N → (∀ a : Nat, a < i → h' a = h a) → h i ≤ h' i) : gd_lm n pr c N h (i + 1) := by
  intro x hx k hk ha
  by_cases e : k = i
  · subst e
    exact h1 x hx ha
  · exact v x hx k (by omega) ha
/-- how many colours are used, if each comes behind those below it -/
def gd_us (h : Nat → Int) : Nat → Int
  | 0 => 0
  | i + 1 => max (gd_us h i) (h i + 1)
def gd_rg (h : Nat → Int) (i : Nat) : Prop := ∀ b : Nat, b < i → h b ≤ gd_us h b
theorem gd_us_congr {h h' : Nat → Int} {i : Nat} (e : ∀ a : Nat, a < i → h' a = h a) : gd_us h' i = gd_us h i := by
  induction i with
  | zero => rfl
  | succ i ih => rw [gd_us, gd_us, ih (fun a ha => e a (by omega)), e i (by omega)]
theorem gd_us_gt (h : Nat → Int) (i : Nat) : 0 ≤ gd_us h i ∧ ∀ a : Nat, a < i → h a + 1 ≤ gd_us h i := by
  induction i with
  | zero => exact ⟨Int.le_refl _, fun a ha => by omega⟩
  | succ i ih =>
    rw [gd_us]
    refine ⟨by omega, fun a ha => ?_⟩
    by_cases e : a = i
    · rw [e]; omega
    · have := ih.2 a (by omega); omega
theorem gd_rg_congr {h h' : Nat → Int} {i : Nat} (e : ∀ a : Nat, a < i → h' a = h a) (r : gd_rg h i) : gd_rg h' i := by
  intro b hb
  rw [e b hb, gd_us_congr (fun a ha => e a (by omega))]
  exact r b hb
theorem gd_rgx (n pr c : Int) (N : Nat) : ∀ (d k : Nat), k + d = N → ∀ h : Nat → Int, gd_vl n pr c h N → gd_rg h k → ∃ h' : Nat → Int, gd_vl n pr c h' N ∧ gd_rg h' N ∧ ∀ a : Nat, a < k → h' a = h a := by
  intro d
  induction d with
  | zero =>
    intro k hk h v r
    have e : k = N := by omega
    subst e
    exact ⟨h, v, r, fun a _ => rfl⟩
  | succ d ih =>
    intro k hk h v r
    by_cases c1 : h k ≤ gd_us h k
    · obtain ⟨h', a1, a2, a3⟩ := ih (k + 1) (by omega) h v (fun b hb => by
        by_cases e : b = k
        · rw [e]; exact c1
        · exact r b (by omega))
      exact ⟨h', a1, a2, fun a ha => a3 a (by omega)⟩
    · have u := gd_us_gt h k
      have hkc := (v k (by omega)).1
      generalize hu : gd_us h k = U at *
      have e : ∀ a : Nat, a < k → (if h a = U then h k else if h a = h k then U else h a) = h a := by
        intro a ha
        have := u.2 a ha
        rw [if_neg (by omega), if_neg (by omega)]
      obtain ⟨h', a1, a2, a3⟩ := ih (k + 1) (by omega) (fun a => if h a = U then h k else if h a = h k then U else h a) (by
        intro b hb
        have w := v b hb
        refine ⟨?_, fun a ha hm => ?_⟩
        · dsimp only
          repeat' split
          all_goals omega
        · have w2 := w.2 a ha hm
          dsimp only
          repeat' split
          all_goals omega) (by
        intro b hb
        by_cases eb : b = k
        · subst eb
          rw [gd_us_congr (h := h) e, hu]
          dsimp only
          rw [if_neg (by omega), if_pos rfl]
          omega
        · rw [gd_us_congr (h := h) (fun a ha => e a (by omega))]
          dsimp only
          rw [e b (by omega)]
          exact r b (by omega))
      exact ⟨h', a1, a2, fun a ha => (a3 a (by omega)).trans (e a ha)⟩
/-- all flags unlike -/
theorem gd_vl_id (n pr : Int) (N : Nat) (hN : n = N) : gd_vl n pr n (fun a => (a : Int)) N ∧ gd_rg (fun a => (a : Int)) N := by
  have e : ∀ i : Nat, gd_us (fun a => (a : Int)) i = i := by
    intro i
    induction i with
    | zero => rfl
    | succ i ih => rw [gd_us, ih]; omega
  exact ⟨fun b hb => ⟨by dsimp only; omega, fun a ha _ => by dsimp only; omega⟩, fun b hb => by rw [e]; exact Int.le_refl _⟩
/-- what colours answers -/
def gd_isc (n pr i v : Int) : Prop := ((1 ≤ n ∧ n ≤ 8) ∧ (0 ≤ pr ∧ pr ≤ gw_w (gw_shl 1 (gw_w ((gw_w (n * gw_w (n - 1))).tdiv 2)) - 1)) ∧ -1 ≤ i ∧ i ≤ n - 1 → ∃ (c : Nat) (h : Nat → Int), 1 ≤ c ∧ gd_vl n pr c h n.toNat ∧ gd_lm n pr c n.toNat h n.toNat ∧ (∀ c' : Nat, 1 ≤ c' → c' < c → ∀ h' : Nat → Int, ¬ gd_vl n pr c' h' n.toNat) ∧ v = if 0 ≤ i then h i.toNat else c) ∧ (¬ ((1 ≤ n ∧ n ≤ 8) ∧ (0 ≤ pr ∧ pr ≤ gw_w (gw_shl 1 (gw_w ((gw_w (n * gw_w (n - 1))).tdiv 2)) - 1)) ∧ -1 ≤ i ∧ i ≤ n - 1) → v = -1)
theorem gd_lm_uniq {n pr c : Int} {N : Nat} {h h' : Nat → Int} (v : gd_vl n pr c h N) (v' : gd_vl n pr c h' N) (l : gd_lm n pr c N h N) (l' : gd_lm n pr c N h' N) : ∀ k : Nat, k ≤ N → ∀ a : Nat, a < k → h a = h' a := by
  intro k
  induction k with
  | zero => intro _ a ha; omega
  | succ k ih =>
    intro hk a ha
    have e := ih (by omega)
    by_cases ea : a = k
    · subst ea
      have a1 := l h' v' a (by omega) (fun x hx => (e x hx).symm)
      have a2 := l' h v a (by omega) (fun x hx => e x hx)
      omega
    · exact e a (by omega)
theorem gd_isc_uniq {n pr i v v' : Int} (h : gd_isc n pr i v) (h' : gd_isc n pr i v') : v = v' := by
  by_cases ok : (1 ≤ n ∧ n ≤ 8) ∧ (0 ≤ pr ∧ pr ≤ gw_w (gw_shl 1 (gw_w ((gw_w (n * gw_w (n - 1))).tdiv 2)) - 1)) ∧ -1 ≤ i ∧ i ≤ n - 1
  · obtain ⟨c, f, c1, vf, lf, mf, rfl⟩ := h.1 ok
    obtain ⟨c', f', c1', vf', lf', mf', rfl⟩ := h'.1 ok
    have e : c = c' := by
      rcases Nat.lt_trichotomy c c' with z | z | z
      · exact absurd vf (mf' c c1 z f)
      · exact z
      · exact absurd vf' (mf c' c1' z f')
    subst e
    by_cases hi : 0 ≤ i
    · rw [if_pos hi, if_pos hi]
      exact gd_lm_uniq vf vf' lf lf' n.toNat (Nat.le_refl _) i.toNat (by omega)
    · rw [if_neg hi, if_neg hi]
  · rw [h.2 ok, h'.2 ok]
/-! the reference -/
theorem sp_X12_meet (n pr : Int) (a b : Nat) (m : gw_Mem) (hn : 1 ≤ n ∧ n ≤ 8) (hab : a < b) (hb : (b : Int) < n) : gw_SpecI M_X12_meet 10 [gI n, gI pr, gI (a : Int), gI (b : Int)] m (fun r m' => r = (if gw_and (gw_shr pr (gd_bx n a + b - a - 1)) 1 = 1 then 1 else 0) ∧ m' = m) := by
  refine gw_intro pl_X12_meet rfl (fun Γ => ?_)
  apply r_X12_meet_0
  have key : ∀ (j k : Nat), k + j = a → gw_G M_X12_meet 10 (fun r m' => ∃ v, r = some (gI v) ∧ v = (if gw_and (gw_shr pr (gd_bx n a + b - a - 1)) 1 = 1 then 1 else 0) ∧ m' = m) Γ 6 [some (gI n), some (gI pr), some (gI (a : Int)), some (gI (b : Int)), some (gI (gd_bx n k)), some (gI (k : Int))] [] m := by
    intro j
    induction j with
    | zero =>
      intro k hk
      have e : k = a := by omega
      subst e
      apply r_X12_meet_6
      have r := gd_bx_rng n hn k (by omega)
      refine ⟨fun _ => gw_rE ?_ rfl, fun z => absurd (Int.le_refl _) z⟩
      rw [gw_w_id (x := gd_bx n k + (b : Int)) (by omega), gw_w_id (x := gd_bx n k + (b : Int) - k) (by omega), gw_w_id (x := gd_bx n k + (b : Int) - k - 1) (by omega)]
    | succ j ih =>
      intro k hk
      apply r_X12_meet_6
      have r := gd_bx_rng n hn k (by omega)
      refine ⟨fun z => absurd z (by omega), fun _ => ?_⟩
      have h := ih (k + 1) (by omega)
      rw [gd_bx] at h
      rw [gw_w_id (x := n - 1) (by omega), gw_w_id (x := n - 1 - (k : Int)) (by omega), gw_w_id (x := gd_bx n k + (n - 1 - (k : Int))) (by omega), gw_w1 (by omega)]
      exact h
  exact key a 0 (by omega)
def gd_ptd (n pr c : Int) (N : Nat) (g : gw_Mem) (v : Int) (m' : gw_Mem) : Prop := (∀ o : Nat, o ≠ 136 → m' o = g o) ∧ ((v = 1 ∧ gd_vl n pr c (fun a => m' 136 (a : Int)) N ∧ gd_lm n pr c N (fun a => m' 136 (a : Int)) N) ∨ (v = 0 ∧ ∀ h : Nat → Int, ¬ gd_vl n pr c h N))
def gd_P10 (g : gw_Mem) (Γ : gw_Ga) (n pr c : Int) (N : Nat) (x : Int) (m : gw_Mem) : Prop := ∀ y5 y6 : Option gw_SV, gw_G M_X12_paints 12 (fun r m' => ∃ v, r = some (gI v) ∧ gd_ptd n pr c N g v m') Γ 10 [some (gR 117), some (gI n), some (gI pr), some (gI c), some (gI x), y5, y6] [] m
theorem gd_pn_step (g : gw_Mem) (Γ : gw_Ga) (n pr c : Int) (N : Nat) (hN : n = N) (hn : 1 ≤ n ∧ n ≤ 8) (hc : 1 ≤ c ∧ c ≤ 8) : ∀ (d i : Nat), i + d = N → ∀ (m : gw_Mem), (i < N → -1 ≤ m 136 (i : Int) ∧ m 136 (i : Int) < c) → (∀ o : Nat, o ≠ 136 → m o = g o) → gd_vl n pr c (fun a => m 136 (a : Int)) i → gd_lm n pr c N (fun a => m 136 (a : Int)) i →
    (i < N → ∀ h : Nat → Int, gd_vl n pr c h N → (∀ a : Nat, a < i → h a = m 136 (a : Int)) → m 136 (i : Int) < h i) →
    (∀ m' : gw_Mem, (∀ o : Nat, o ≠ 136 → m' o = g o) → (∀ a : Nat, a < i → m' 136 (a : Int) = m 136 (a : Int)) → (∀ h : Nat → Int, gd_vl n pr c h N → (∀ a : Nat, a < i → h a = m 136 (a : Int)) → False) → gd_P10 g Γ n pr c N ((i : Int) - 1) m') →
    gd_P10 g Γ n pr c N (i : Int) m := by
  intro d
  induction d with
  | zero =>
    intro i hi m _ hf v l _ _ y5 y6
    have e : i = N := by omega
    subst e
    apply r_X12_paints_10
    refine ⟨fun z => absurd z (by omega), fun _ => ⟨fun _ => ?_, fun z => absurd (by omega) z⟩⟩
    apply r_X12_paints_149
    rw [if_pos hN.symm]
    exact ⟨1, rfl, hf, Or.inl ⟨rfl, v, l⟩⟩
  | succ d ih =>
    intro i hi
    have inner : ∀ (e : Nat) (m : gw_Mem), m 136 (i : Int) = c - 1 - e → (-1 ≤ m 136 (i : Int) ∧ m 136 (i : Int) < c) → (∀ o : Nat, o ≠ 136 → m o = g o) → gd_vl n pr c (fun a => m 136 (a : Int)) i → gd_lm n pr c N (fun a => m 136 (a : Int)) i →
      (∀ h : Nat → Int, gd_vl n pr c h N → (∀ a : Nat, a < i → h a = m 136 (a : Int)) → m 136 (i : Int) < h i) →
      (∀ m' : gw_Mem, (∀ o : Nat, o ≠ 136 → m' o = g o) → (∀ a : Nat, a < i → m' 136 (a : Int) = m 136 (a : Int)) → (∀ h : Nat → Int, gd_vl n pr c h N → (∀ a : Nat, a < i → h a = m 136 (a : Int)) → False) → gd_P10 g Γ n pr c N ((i : Int) - 1) m') →
      gd_P10 g Γ n pr c N (i : Int) m := by
      intro e
      induction e with
      | zero =>
        intro m he hr hf v l ls fail y5 y6
        apply r_X12_paints_10
        refine ⟨fun z => absurd z (by omega), fun _ => ⟨fun z => absurd z (by omega), fun _ => ⟨gw_inm (by omega) (by omega), gw_inm (by omega) (by omega), gw_inm (by omega) (by omega), ?_⟩⟩⟩
        have ey : gw_w (m 136 (i : Int) + 1) = c := by rw [gw_w_id (by omega)]; omega
        rw [gw_up_at, if_pos rfl, ey, if_pos (Int.le_refl _)]
        apply r_X12_paints_53
        have go : ∀ x6 : Int, gw_G M_X12_paints 12 (fun r m' => ∃ v, r = some (gI v) ∧ gd_ptd n pr c N g v m') Γ 107 [some (gR 117), some (gI n), some (gI pr), some (gI c), some (gI (i : Int)), some (gI 0), some (gI x6)] [] (gw_up m 136 (i : Int) c) := by
          intro x6
          apply r_X12_paints_107
          refine ⟨fun _ => ⟨gw_inm (by omega) (by omega), ?_⟩, fun z => absurd rfl z⟩
          apply r_X12_paints_146
          rw [gw_up_at, if_pos rfl, if_neg (by omega), gw_w_id (by omega)]
          refine fail _ (fun o ho => by rw [gw_up_ne ho]; exact hf o ho) (fun a ha => by rw [gw_up_at, if_neg (by omega)]) (fun h vh ah => ?_) _ _
          have h1 := ls h vh ah
          have h2 := (vh i (by omega)).1
          omega
        exact ⟨fun _ => go _, fun _ => ⟨fun _ => go _, fun z => absurd rfl z⟩⟩
      | succ e ihe =>
        intro m he hr hf v l ls fail y5 y6
        apply r_X12_paints_10
        refine ⟨fun z => absurd z (by omega), fun _ => ⟨fun z => absurd z (by omega), fun _ => ⟨gw_inm (by omega) (by omega), gw_inm (by omega) (by omega), gw_inm (by omega) (by omega), ?_⟩⟩⟩
        obtain ⟨y, hy⟩ : ∃ y : Int, y = m 136 (i : Int) + 1 := ⟨_, rfl⟩
        have ey : gw_w (m 136 (i : Int) + 1) = y := by rw [gw_w_id (by omega)]; omega
        rw [gw_up_at, if_pos rfl, ey, if_neg (by omega)]
        -- the row with y tried at i
        have e1 : gw_up m 136 (i : Int) y 136 (i : Int) = y := by rw [gw_up_at, if_pos rfl]
        have ea : ∀ a : Nat, a < i → gw_up m 136 (i : Int) y 136 (a : Int) = m 136 (a : Int) := fun a ha => by rw [gw_up_at, if_neg (by omega)]
        have eo : ∀ o : Nat, o ≠ 136 → gw_up m 136 (i : Int) y o = g o := fun o ho => by rw [gw_up_ne ho]; exact hf o ho
        generalize hm1 : gw_up m 136 (i : Int) y = m1 at e1 ea eo ⊢
        have v1 : gd_vl n pr c (fun a => m1 136 (a : Int)) i := gd_vl_congr ea v
        have l1 : gd_lm n pr c N (fun a => m1 136 (a : Int)) i := gd_lm_congr ea l
        have ls1 : ∀ h : Nat → Int, gd_vl n pr c h N → (∀ a : Nat, a < i → h a = m1 136 (a : Int)) → y ≤ h i := fun h vh ah => by
          have := ls h vh (fun a ha => by rw [ah a ha, ea a ha])
          omega
        -- y can't be there: on with the next one
        have again : ∀ m2 : gw_Mem, (∀ o : Nat, o ≠ 136 → m2 o = g o) → (∀ a : Nat, a < i → m2 136 (a : Int) = m 136 (a : Int)) → m2 136 (i : Int) = y → (∀ h : Nat → Int, gd_vl n pr c h N → (∀ a : Nat, a < i → h a = m 136 (a : Int)) → h i ≠ y) → gd_P10 g Γ n pr c N (i : Int) m2 := by
          intro m2 o2 a2 y2 no2
          refine ihe m2 (by omega) (by omega) o2 (gd_vl_congr a2 v) (gd_lm_congr a2 l) (fun h vh ah => ?_) (fun m' o' a' f' => ?_)
          · have h1 := fun a (ha : a < i) => (ah a ha).trans (a2 a ha)
            have h2 := ls h vh h1
            have h3 := no2 h vh h1
            omega
          · exact fail m' o' (fun a ha => by rw [a' a ha, a2 a ha]) (fun h vh ah => f' h vh (fun a ha => by rw [ah a ha, a2 a ha]))
        have at107 : ∀ s x6 : Int, (s = 0 ∧ (∃ a : Nat, a < i ∧ gd_mt n pr a i ∧ m1 136 (a : Int) = y)) ∨ (s = 1 ∧ ∀ a : Nat, a < i → gd_mt n pr a i → m1 136 (a : Int) ≠ y) → gw_G M_X12_paints 12 (fun r m' => ∃ v, r = some (gI v) ∧ gd_ptd n pr c N g v m') Γ 107 [some (gR 117), some (gI n), some (gI pr), some (gI c), some (gI (i : Int)), some (gI s), some (gI x6)] [] m1 := by
          intro s x6 hs
          apply r_X12_paints_107
          rcases hs with ⟨rfl, a, ha, hma, hya⟩ | ⟨rfl, hs⟩
          · refine ⟨fun _ => ⟨gw_inm (by omega) (by omega), ?_⟩, fun z => absurd rfl z⟩
            apply r_X12_paints_146
            rw [e1, if_pos (by omega)]
            refine again m1 eo ea e1 (fun h vh ah hiy => ?_) _ _
            exact (vh i (by omega)).2 a ha hma (by rw [hiy, ah a ha, ← ea a ha, hya])
          · refine ⟨fun z => absurd z (by omega), fun _ => ?_⟩
            rw [gw_w1 (by omega)]
            have v2 : gd_vl n pr c (fun a => m1 136 (a : Int)) (i + 1) := gd_vl_one v1 (by omega) (by intro a ha hma; rw [e1]; exact hs a ha hma)
            have l2 : gd_lm n pr c N (fun a => m1 136 (a : Int)) (i + 1) := gd_lm_one l1 (fun h vh ah => by rw [e1]; exact ls1 h vh ah)
            have back : ∀ m2 : gw_Mem, (∀ a : Nat, a < i + 1 → m2 136 (a : Int) = m1 136 (a : Int)) → ∀ m' : gw_Mem, (∀ o : Nat, o ≠ 136 → m' o = g o) → (∀ a : Nat, a < i + 1 → m' 136 (a : Int) = m2 136 (a : Int)) → (∀ h : Nat → Int, gd_vl n pr c h N → (∀ a : Nat, a < i + 1 → h a = m2 136 (a : Int)) → False) → gd_P10 g Γ n pr c N (((i + 1 : Nat) : Int) - 1) m' := by
              intro m2 e2 m' o' a' f'
              rw [show ((i + 1 : Nat) : Int) - 1 = (i : Int) by omega]
              refine again m' o' (fun a ha => by rw [a' a (by omega), e2 a (by omega), ea a ha]) (by rw [a' i (by omega), e2 i (by omega), e1]) (fun h vh ah hiy => f' h vh (fun a ha => ?_))
              by_cases c1 : a = i
              · rw [c1, hiy, e2 i (by omega), e1]
              · rw [ah a (by omega), e2 a ha, ea a (by omega)]
            refine ⟨fun z => ?_, fun z => ⟨gw_inm (by omega) (by omega), ?_⟩⟩
            · apply r_X12_paints_146
              exact ih (i + 1) (by omega) m1 (fun q => by omega) eo v2 l2 (fun q => by omega) (back m1 (fun _ _ => rfl)) _ _
            · apply r_X12_paints_146
              have ec : ∀ a : Nat, a < i + 1 → gw_up m1 136 ((i + 1 : Nat) : Int) (-1) 136 (a : Int) = m1 136 (a : Int) := fun a ha => by rw [gw_up_at, if_neg (by omega)]
              have ei : gw_up m1 136 ((i + 1 : Nat) : Int) (-1) 136 ((i + 1 : Nat) : Int) = -1 := by rw [gw_up_at, if_pos rfl]
              refine ih (i + 1) (by omega) _ (fun q => by rw [ei]; omega) (fun o ho => by rw [gw_up_ne ho]; exact eo o ho) (gd_vl_congr ec v2) (gd_lm_congr ec l2) (fun q h vh _ => ?_) (back _ ec) _ _
              rw [ei]
              have := (vh (i + 1) q).1
              omega
        have loop : ∀ (j a : Nat) (s : Int), a + j = i → (s = 0 ∧ (∃ x : Nat, x < a ∧ gd_mt n pr x i ∧ m1 136 (x : Int) = y)) ∨ (s = 1 ∧ ∀ x : Nat, x < a → gd_mt n pr x i → m1 136 (x : Int) ≠ y) → gw_G M_X12_paints 12 (fun r m' => ∃ v, r = some (gI v) ∧ gd_ptd n pr c N g v m') Γ 53 [some (gR 117), some (gI n), some (gI pr), some (gI c), some (gI (i : Int)), some (gI s), some (gI (a : Int))] [] m1 := by
          intro j
          induction j with
          | zero =>
            intro a s ha hs
            have e2 : a = i := by omega
            subst e2
            apply r_X12_paints_53
            exact ⟨fun _ => at107 s _ hs, fun z => absurd (Int.le_refl _) z⟩
          | succ j ihj =>
            intro a s ha hs
            apply r_X12_paints_53
            refine ⟨fun z => absurd z (by omega), fun _ => ⟨fun z => ?_, fun z => ?_⟩⟩
            · rcases hs with ⟨rfl, x, hx, h1, h2⟩ | ⟨rfl, _⟩
              · exact at107 0 _ (Or.inl ⟨rfl, x, by omega, h1, h2⟩)
              · omega
            · rcases hs with ⟨rfl, _⟩ | ⟨rfl, hs⟩
              · exact absurd rfl z
              · refine gw_CI.eq (sp_X12_meet n pr a i m1 hn (by omega) (by omega)) rfl ⟨fun _ => ⟨gw_inm (by omega) (by omega), gw_inm (by omega) (by omega)⟩, ?_⟩
                rw [gw_w1 (by omega), e1]
                have next := fun s => ihj (a + 1) s (by omega)
                by_cases c1 : gw_and (gw_shr pr (gd_bx n a + (i : Int) - a - 1)) 1 = 1
                · rw [if_pos c1, if_neg (show ¬ ((1 : Int) = 0) by omega)]
                  by_cases c2 : m1 136 (a : Int) = y
                  · rw [if_pos c2]
                    exact next 0 (Or.inl ⟨rfl, a, by omega, c1, c2⟩)
                  · rw [if_neg c2]
                    refine next 1 (Or.inr ⟨rfl, fun x hx hm => ?_⟩)
                    by_cases c3 : x = a
                    · rw [c3]; exact c2
                    · exact hs x (by omega) hm
                · rw [if_neg c1, if_pos rfl]
                  refine next 1 (Or.inr ⟨rfl, fun x hx hm => ?_⟩)
                  by_cases c3 : x = a
                  · rw [c3] at hm; exact absurd hm c1
                  · exact hs x (by omega) hm
        exact loop i 0 1 (by omega) (Or.inr ⟨rfl, fun x hx => by omega⟩)
    intro m hr hf v l ls fail
    have hr' := hr (by omega)
    exact inner (c - 1 - m 136 (i : Int)).toNat m (by omega) hr' hf v l (ls (by omega)) fail
theorem sp_X12_paints (n pr c : Int) (N : Nat) (hN : n = N) (hn : 1 ≤ n ∧ n ≤ 8) (hc : 1 ≤ c ∧ c ≤ 8) (g : gw_Mem) : gw_SpecI M_X12_paints 12 [gR 117, gI n, gI pr, gI c] g (fun r m' => gd_ptd n pr c N g r m') := by
  refine gw_intro pl_X12_paints rfl (fun Γ => ?_)
  apply r_X12_paints_0
  refine gd_pn_step g Γ n pr c N hN hn hc N 0 (by omega) _ (fun _ => ?_) (fun o ho => by rw [gw_up_ne ho]) (fun b hb => by omega) (fun h _ k hk => by omega) (fun hi h vh _ => ?_) (fun m' o' _ f' => ?_) none none
  · rw [gw_up_at, if_pos (by omega)]; omega
  · rw [gw_up_at, if_pos (by omega)]
    have := (vh 0 hi).1
    omega
  · intro y5 y6
    apply r_X12_paints_10
    refine ⟨fun _ => ?_, fun z => absurd (by omega) z⟩
    apply r_X12_paints_149
    rw [if_neg (by omega)]
    exact ⟨0, rfl, o', Or.inr ⟨rfl, fun h vh => f' h vh (fun a ha => by omega)⟩⟩
theorem gd_tri (n : Int) (hn : 1 ≤ n ∧ n ≤ 8) : n * (n - 1) = 2 * (gw_w ((gw_w (n * gw_w (n - 1))).tdiv 2)) ∧ (0 ≤ gw_w ((gw_w (n * gw_w (n - 1))).tdiv 2) ∧ gw_w ((gw_w (n * gw_w (n - 1))).tdiv 2) ≤ 28) := by
  have h : n = 1 ∨ n = 2 ∨ n = 3 ∨ n = 4 ∨ n = 5 ∨ n = 6 ∨ n = 7 ∨ n = 8 := by omega
  rcases h with rfl | rfl | rfl | rfl | rfl | rfl | rfl | rfl <;> decide
theorem sp_X12_colours (n pr i : Int) (g : gw_Mem) : gw_SpecI M_X12_colours 20 [gR 117, gI n, gI pr, gI i] g (fun r m' => gd_isc n pr i r ∧ ∀ o : Nat, o ≠ 136 → m' o = g o) := by
  refine gw_intro pl_X12_colours rfl (fun Γ => ?_)
  apply r_X12_colours_0
  have bad : ¬ ((1 ≤ n ∧ n ≤ 8) ∧ (0 ≤ pr ∧ pr ≤ gw_w (gw_shl 1 (gw_w ((gw_w (n * gw_w (n - 1))).tdiv 2)) - 1)) ∧ -1 ≤ i ∧ i ≤ n - 1) → gd_isc n pr i (-1) := fun z => ⟨fun q => absurd q z, fun _ => rfl⟩
  refine gw_CI.eq (sp_X12_in n 1 8 g) rfl (gw_b_tf (fun h => ⟨_, rfl, bad (fun z => h z.1), fun _ _ => rfl⟩) (fun h1 => ?_))
  refine gw_CI.eq (sp_X12_in pr 0 _ g) rfl (gw_b_tf (fun h => ⟨_, rfl, bad (fun z => h z.2.1), fun _ _ => rfl⟩) (fun h2 => ?_))
  rw [gw_w_id (x := n - 1) (by omega)]
  refine gw_CI.eq (sp_X12_in i (-1) (n - 1) g) rfl (gw_b_tf (fun h => ⟨_, rfl, bad (fun z => h z.2.2), fun _ _ => rfl⟩) (fun h3 => ?_))
  obtain ⟨N, hN⟩ := gw_nat (x := n) (by omega)
  have key : ∀ (j c : Nat) (q : gw_Mem), c + j = N → 1 ≤ c → (∀ o : Nat, o ≠ 136 → q o = g o) → (∀ c' : Nat, 1 ≤ c' → c' < c → ∀ h' : Nat → Int, ¬ gd_vl n pr c' h' N) → gw_G M_X12_colours 20 (fun r m' => ∃ v, r = some (gI v) ∧ gd_isc n pr i v ∧ ∀ o : Nat, o ≠ 136 → m' o = g o) Γ 53 [some (gR 117), some (gI n), some (gI pr), some (gI i), some (gI (c : Int))] [] q := by
    intro j
    have done : ∀ (c : Nat) (m' : gw_Mem), 1 ≤ c → (∀ c' : Nat, 1 ≤ c' → c' < c → ∀ h' : Nat → Int, ¬ gd_vl n pr c' h' N) → gd_vl n pr c (fun a => m' 136 (a : Int)) N → gd_lm n pr c N (fun a => m' 136 (a : Int)) N → gd_isc n pr i (if 0 ≤ i then m' 136 i else c) := by
      intro c m' c1 no v l
      refine ⟨fun _ => ⟨c, fun a => m' 136 (a : Int), c1, ?_⟩, fun z => absurd ⟨h1, h2, h3⟩ z⟩
      rw [show n.toNat = N by omega]
      refine ⟨v, l, no, ?_⟩
      by_cases hi : 0 ≤ i
      · rw [if_pos hi, if_pos hi]
        show m' 136 i = m' 136 (i.toNat : Int)
        rw [Int.toNat_of_nonneg hi]
      · rw [if_neg hi, if_neg hi]
    induction j with
    | zero =>
      intro c q hc c1 hq no
      apply r_X12_colours_53
      refine gw_CI.of (sp_X12_paints n pr (c : Int) N hN h1 (by omega) q) rfl (fun v m' _ _ hv => ?_)
      obtain ⟨hf, hv⟩ := hv
      rcases hv with ⟨rfl, v1, l1⟩ | ⟨rfl, hv⟩
      · exact ⟨fun z => absurd z (by omega), fun _ => ⟨fun hi => gw_inm hi (by omega), _, rfl, done c m' c1 no v1 l1, fun o ho => by rw [hf o ho, hq o ho]⟩⟩
      · have := (gd_vl_id n pr N hN).1
        rw [show (n : Int) = (c : Int) by omega] at this
        rw [show (n : Int) = (c : Int) by omega] at hv
        exact absurd this (hv _)
    | succ j ih =>
      intro c q hc c1 hq no
      apply r_X12_colours_53
      refine gw_CI.of (sp_X12_paints n pr (c : Int) N hN h1 (by omega) q) rfl (fun v m' _ _ hv => ?_)
      obtain ⟨hf, hv⟩ := hv
      rcases hv with ⟨rfl, v1, l1⟩ | ⟨rfl, hv⟩
      · exact ⟨fun z => absurd z (by omega), fun _ => ⟨fun hi => gw_inm hi (by omega), _, rfl, done c m' c1 no v1 l1, fun o ho => by rw [hf o ho, hq o ho]⟩⟩
      · refine ⟨fun _ => ?_, fun z => absurd rfl z⟩
        rw [gw_w1 (by omega)]
        refine ih (c + 1) m' (by omega) (by omega) (fun o ho => by rw [hf o ho, hq o ho]) (fun c' a1 a2 h' => ?_)
        by_cases e : c' = c
        · rw [e]; exact hv h'
        · exact no c' a1 (by omega) h'
  exact key (N - 1) 1 g (by omega) (by omega) (fun _ _ => rfl) (fun c' a b => by omega)
