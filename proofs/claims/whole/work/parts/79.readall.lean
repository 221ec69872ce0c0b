/-! the reference reads a text -/
theorem gz_tk_congr {r r' : Int → Int} (kd pl : Int) : ∀ n : Nat, (∀ j : Int, j < 3 * (n : Int) → r' j = r j) → gz_tk r' kd pl n = gz_tk r kd pl n := by
  intro n
  induction n with
  | zero => intro _; rfl
  | succ n ih =>
    intro h
    rw [gz_tk, gz_tk, ih (fun j hj => h j (by omega)), h (3 * (n : Int)) (by omega), h (3 * (n : Int) + 1) (by omega)]
theorem gz_tt_congr {r r' : Int → Int} : ∀ n : Nat, (∀ j : Int, j < 3 * (n : Int) → r' j = r j) → gz_tt r' n = gz_tt r n := by
  intro n
  induction n with
  | zero => intro _; rfl
  | succ n ih =>
    intro h
    rw [gz_tt, gz_tt, ih (fun j hj => h j (by omega)), h (3 * (n : Int)) (by omega)]
theorem gz_mc_congr (t : Int → Int) (L : Int) {r r' : Int → Int} (n : Nat) (p : Int) (h : ∀ j : Int, j < 3 * (n : Int) → r' j = r j) : gz_mc t L r' n p = gz_mc t L r n p := by
  unfold gz_mc
  rw [gz_tk_congr _ _ n h]
theorem gz_pc_congr (t : Int → Int) (L : Int) {r r' : Int → Int} (n : Nat) (p : Int) (h : ∀ j : Int, j < 3 * (n : Int) → r' j = r j) : gz_pc t L r' n p = gz_pc t L r n p := by
  unfold gz_pc
  rw [gz_tt_congr n h]
def gz_r3 (r : Int → Int) (n : Int) (a b c : Int) : Int → Int := fun j => if j = 3 * n then a else if j = 3 * n + 1 then b else if j = 3 * n + 2 then c else r j
theorem gz_r3_at (r : Int → Int) (n a b c : Int) : gz_r3 r n a b c (3 * n) = a ∧ gz_r3 r n a b c (3 * n + 1) = b ∧ gz_r3 r n a b c (3 * n + 2) = c ∧ ∀ j : Int, j < 3 * n → gz_r3 r n a b c j = r j := by
  unfold gz_r3
  refine ⟨by rw [if_pos rfl], by rw [if_neg (by omega), if_pos rfl], by rw [if_neg (by omega), if_neg (by omega), if_pos rfl], fun j hj => by rw [if_neg (by omega), if_neg (by omega), if_neg (by omega)]⟩
theorem gz_lp_s (t : Int → Int) (L : Int) (cl : (Int → Int) → Nat → Int → Int × Int × Int × Int × Int) (M : Nat) (sep : Int) (f n : Nat) (p : Int) (r : Int → Int) : gz_lp t L cl M sep (f + 1) n p r =
    if (cl r n p).1 = 0 then (-20 - (cl r n p).2.1, r)
    else if L ≤ gz_ne t L (cl r n p).2.1 then ((n : Int) + 1, gz_r3 r n (cl r n p).2.2.1 (cl r n p).2.2.2.1 (cl r n p).2.2.2.2)
    else if n + 1 < M ∧ t (gz_ne t L (cl r n p).2.1) = sep then gz_lp t L cl M sep f (n + 1) (gz_ne t L (cl r n p).2.1 + 1) (gz_r3 r n (cl r n p).2.2.1 (cl r n p).2.2.2.1 (cl r n p).2.2.2.2)
    else (-20 - gz_ne t L (cl r n p).2.1, r) := rfl
/-- what a row that was read holds, by a condition on each entry -/
theorem gz_lp_good (t : Int → Int) (L : Int) (cl : (Int → Int) → Nat → Int → Int × Int × Int × Int × Int) (M : Nat) (sep : Int) (C : (Int → Int) → Nat → Prop) (hL : 0 ≤ L)
    (hcl : ∀ (r : Int → Int) (n : Nat) (p : Int), 0 ≤ p ∧ p ≤ L → (0 ≤ (cl r n p).2.1 ∧ (cl r n p).2.1 ≤ L) ∧ ((cl r n p).1 = 0 ∨ ((cl r n p).1 = 1 ∧ C (gz_r3 r n (cl r n p).2.2.1 (cl r n p).2.2.2.1 (cl r n p).2.2.2.2) n)))
    (hC : ∀ (r r' : Int → Int) (n : Nat), (∀ j : Int, j < 3 * ((n : Int) + 1) → r' j = r j) → C r n → C r' n) :
    ∀ (f n : Nat) (p : Int) (r : Int → Int), f + n = M → 0 < f → 0 ≤ p ∧ p ≤ L → (∀ k : Nat, k < n → C r k) → ((gz_lp t L cl M sep f n p r).1 < 0 ∧ -20 - L ≤ (gz_lp t L cl M sep f n p r).1) ∨ ((1 ≤ (gz_lp t L cl M sep f n p r).1 ∧ (gz_lp t L cl M sep f n p r).1 ≤ M) ∧ ∀ k : Nat, (k : Int) < (gz_lp t L cl M sep f n p r).1 → C (gz_lp t L cl M sep f n p r).2 k) := by
  intro f
  induction f with
  | zero => intro n p r _ h; omega
  | succ f ih =>
    intro n p r hf _ hp hr
    have h := hcl r n p hp
    rw [gz_lp_s]
    generalize cl r n p = c at *
    by_cases c1 : c.1 = 0
    · rw [if_pos c1]
      left
      dsimp only
      omega
    · rw [if_neg c1]
      obtain ⟨h1, h2⟩ := h
      have h3 : c.1 = 1 ∧ C (gz_r3 r n c.2.2.1 c.2.2.2.1 c.2.2.2.2) n := by
        rcases h2 with h2 | h2
        · exact absurd h2 c1
        · exact h2
      have a1 := gz_ne_in t h1
      have all : ∀ k : Nat, k < n + 1 → C (gz_r3 r n c.2.2.1 c.2.2.2.1 c.2.2.2.2) k := by
        intro k hk
        by_cases e : k = n
        · rw [e]; exact h3.2
        · exact hC r _ k (fun j hj => (gz_r3_at r n c.2.2.1 c.2.2.2.1 c.2.2.2.2).2.2.2 j (by omega)) (hr k (by omega))
      by_cases c2 : L ≤ gz_ne t L c.2.1
      · rw [if_pos c2]
        right
        dsimp only
        exact ⟨by omega, fun k hk => all k (by omega)⟩
      · rw [if_neg c2]
        by_cases c3 : n + 1 < M ∧ t (gz_ne t L c.2.1) = sep
        · rw [if_pos c3]
          exact ih (n + 1) _ _ (by omega) (by omega) (by omega) all
        · rw [if_neg c3]
          left
          dsimp only
          omega
theorem gz_ss_0 (g : gw_Mem) : gw_up (gw_up g 117 13 0) 117 14 0 = gz_ss g (g 128) 0 0 := by
  funext o j
  unfold gw_up gz_ss
  by_cases c1 : o = 128
  · rw [if_neg (by omega), if_neg (by omega), if_pos c1, c1]
  · rw [if_neg c1]
    by_cases c2 : o = 117 ∧ j = 14
    · rw [if_pos c2, if_neg (by omega), if_pos c2]
    · rw [if_neg c2, if_neg c2]
theorem gz_ss_u12 (g : gw_Mem) (r : Int → Int) (w p x : Int) : gw_up (gz_ss g r w p) 117 12 x = gz_ss (gw_up g 117 12 x) r w p := by
  funext o j
  unfold gw_up gz_ss
  by_cases c1 : o = 117 ∧ j = 12
  · rw [if_pos c1, if_neg (by omega), if_neg (by omega), if_neg (by omega)]
    show x = if o = 117 ∧ j = 12 then x else g o j
    rw [if_pos c1]
  · rw [if_neg c1]
    show _ = if o = 128 then r j else if o = 117 ∧ j = 13 then p else if o = 117 ∧ j = 14 then w else if o = 117 ∧ j = 12 then x else g o j
    rw [if_neg c1]
theorem sp_X12_readAll (t : Int → Int) (L : Int) (g : gw_Mem) (hT : gz_tp t L g) (x1 : Int) (cl : (Int → Int) → Nat → Int → Int × Int × Int × Int × Int) (M : Nat) (sep : Int)
    (hx : x1 = 0 ∧ M = 10 ∧ sep = 44 ∨ x1 = 1 ∧ M = 8 ∧ sep = 59)
    (hin : ∀ (r : Int → Int) (n : Nat) (p : Int), 0 ≤ p ∧ p ≤ L → (0 ≤ (cl r n p).2.1 ∧ (cl r n p).2.1 ≤ L) ∧ ((cl r n p).1 = 0 ∨ (cl r n p).1 = 1))
    (hcg : ∀ (r r' : Int → Int) (n : Nat) (p : Int), (∀ j : Int, j < 3 * (n : Int) → r' j = r j) → cl r' n p = cl r n p)
    (hsp : ∀ (r : Int → Int) (n : Nat) (p : Int), n < M → 0 ≤ p ∧ p ≤ L → (x1 = 0 → gw_SpecV M_X12_personClause 14 [gR 117, gI (n : Int)] (gz_ss g r 0 p) (fun m' => gz_po g r n (cl r n p) m')) ∧ (¬ x1 = 0 → gw_SpecV M_X12_markClause 14 [gR 117, gI (n : Int)] (gz_ss g r 0 p) (fun m' => gz_po g r n (cl r n p) m'))) :
    gw_SpecI M_X12_readAll 16 [gR 117, gI x1] g (fun v m' => v = (gz_lp t L cl M sep M 0 0 (g 128)).1 ∧ ∃ (r' : Int → Int) (w q : Int), m' = gz_ss (gw_up g 117 12 0) r' w q ∧ ∀ j : Int, 0 ≤ j → j < 3 * v → r' j = (gz_lp t L cl M sep M 0 0 (g 128)).2 j) := by
  refine gw_intro pl_X12_readAll rfl (fun Γ => ?_)
  have hL := hT.2.1
  apply r_X12_readAll_0
  rw [gz_ss_0]
  obtain ⟨R, hR⟩ : ∃ R, R = gz_lp t L cl M sep M 0 0 (g 128) := ⟨_, rfl⟩
  rw [← hR]
  -- the end
  have fin100 : ∀ (n : Int) (x3 z : Int) (r' : Int → Int) (w q : Int), (0 ≤ n ∧ n ≤ 10) → (0 ≤ q ∧ q ≤ L) → (z = 0 ∧ R.1 = n ∧ (∀ j : Int, 0 ≤ j → j < 3 * n → r' j = R.2 j) ∨ z = 1 ∧ R.1 = -20 - q) → gw_G M_X12_readAll 16 (fun r m' => ∃ v, r = some (gI v) ∧ v = R.1 ∧ ∃ (r' : Int → Int) (w q : Int), m' = gz_ss (gw_up g 117 12 0) r' w q ∧ ∀ j : Int, 0 ≤ j → j < 3 * v → r' j = R.2 j) Γ 100 [some (gR 117), some (gI x1), some (gI n), some (gI x3)] [gI z, gR 117] (gz_ss g r' w q) := by
    intro n x3 z r' w q hn hq hz
    apply r_X12_readAll_100
    rw [gz_ss_u14, gz_ss_u12, gz_ss_14, gz_ss_13]
    rcases hz with ⟨rfl, h1, h2⟩ | ⟨rfl, h1⟩
    · rw [if_pos rfl]
      exact ⟨Or.inl rfl, n, rfl, h1.symm, r', 0, q, rfl, h2⟩
    · rw [if_neg (by omega), gw_w_id (by omega)]
      exact ⟨Or.inr rfl, _, rfl, h1.symm, r', 1, q, rfl, fun j h0 h3 => by omega⟩
  have w14 : ∀ (n : Int) (r' : Int → Int) (q : Int), (0 ≤ n ∧ n ≤ 10) → (0 ≤ q ∧ q ≤ L) → R.1 = -20 - q → gw_G M_X12_readAll 16 (fun r m' => ∃ v, r = some (gI v) ∧ v = R.1 ∧ ∃ (r' : Int → Int) (w q : Int), m' = gz_ss (gw_up g 117 12 0) r' w q ∧ ∀ j : Int, 0 ≤ j → j < 3 * v → r' j = R.2 j) Γ 14 [some (gR 117), some (gI x1), some (gI n), some (gI 0)] [] (gz_ss g r' 1 q) := by
    intro n r' q hn hq h1
    apply r_X12_readAll_14
    rw [gz_ss_14]
    exact ⟨fun _ => ⟨fun z => absurd z (by omega), fun _ => fin100 n 0 1 r' 1 q hn hq (Or.inr ⟨rfl, h1⟩)⟩, fun z => absurd rfl z⟩
  have hM : (if x1 = 0 then (10 : Int) else 8) = M ∧ (if x1 = 0 then (44 : Int) else 59) = sep ∧ sep ≠ 0 ∧ M ≤ 10 := by
    rcases hx with ⟨rfl, rfl, rfl⟩ | ⟨rfl, rfl, rfl⟩
    · decide
    · decide
  have key : ∀ (f n : Nat) (p x3 : Int) (r rr : Int → Int), f + n = M → 0 < f → 0 ≤ p ∧ p ≤ L → (∀ j : Int, j < 3 * (n : Int) → r j = rr j) → R = gz_lp t L cl M sep f n p rr → x3 ≠ 0 → gw_G M_X12_readAll 16 (fun r m' => ∃ v, r = some (gI v) ∧ v = R.1 ∧ ∃ (r' : Int → Int) (w q : Int), m' = gz_ss (gw_up g 117 12 0) r' w q ∧ ∀ j : Int, 0 ≤ j → j < 3 * v → r' j = R.2 j) Γ 14 [some (gR 117), some (gI x1), some (gI (n : Int)), some (gI x3)] [] (gz_ss g r 0 p) := by
    intro f
    induction f with
    | zero => intro n p x3 r rr _ h; omega
    | succ f ih =>
      intro n p x3 r rr hf _ hp hr hR3 hx3
      apply r_X12_readAll_14
      have sp := hsp r n p (by omega) hp
      have ci := hin r n p hp
      have cc := hcg rr r n p hr
      rw [gz_lp_s, ← cc] at hR3
      generalize cl r n p = c at *
      -- behind the clause
      have nxt : ∀ m' : gw_Mem, gz_po g r n c m' → gw_G M_X12_readAll 16 (fun r m' => ∃ v, r = some (gI v) ∧ v = R.1 ∧ ∃ (r' : Int → Int) (w q : Int), m' = gz_ss (gw_up g 117 12 0) r' w q ∧ ∀ j : Int, 0 ≤ j → j < 3 * v → r' j = R.2 j) Γ 35 [some (gR 117), some (gI x1), some (gI (n : Int)), some (gI x3)] [] m' := by
        intro m' hm'
        obtain ⟨r', rfl, h1, h2⟩ := hm'
        apply r_X12_readAll_35
        rw [hM.1, hM.2.1, gw_w1 (by omega)]
        have a1 := gz_ne_in t ci.1
        have nn := gz_ne_ne t ci.1
        by_cases c1 : c.1 = 0
        · rw [if_pos c1] at hR3
          rw [c1]
          have e : R.1 = -20 - c.2.1 := by rw [hR3]
          refine ⟨fun _ => ?_, fun _ => gw_CI.eq (sp_X12_has1 L g r' c.2.1 ci.1 hL.2 sep) rfl ?_⟩
          · apply r_X12_readAll_76
            exact w14 _ r' _ (by omega) ci.1 e
          · rw [if_pos rfl]
            apply r_X12_readAll_76
            exact w14 _ r' _ (by omega) ci.1 e
        · rw [if_neg c1] at hR3
          have c11 : c.1 = 1 := by omega
          have h3 := h1 c11
          rw [c11]
          have agree : ∀ j : Int, j < 3 * ((n + 1 : Nat) : Int) → r' j = gz_r3 rr n c.2.2.1 c.2.2.2.1 c.2.2.2.2 j := by
            intro j hj
            have q := gz_r3_at rr n c.2.2.1 c.2.2.2.1 c.2.2.2.2
            by_cases d1 : j = 3 * (n : Int)
            · rw [d1, q.1]; exact h3.1
            · by_cases d2 : j = 3 * (n : Int) + 1
              · rw [d2, q.2.1]; exact h3.2.1
              · by_cases d3 : j = 3 * (n : Int) + 2
                · rw [d3, q.2.2.1]; exact h3.2.2
                · rw [q.2.2.2 j (by omega), h2 j (by omega)]
                  exact hr j (by omega)
          -- no more
          have stop : ∀ q0 : Int, (q0 = c.2.1 ∨ q0 = gz_ne t L c.2.1) → ¬ (n + 1 < M ∧ t (gz_ne t L c.2.1) = sep ∧ ¬ L ≤ gz_ne t L c.2.1) → gw_G M_X12_readAll 16 (fun r m' => ∃ v, r = some (gI v) ∧ v = R.1 ∧ ∃ (r' : Int → Int) (w q : Int), m' = gz_ss (gw_up g 117 12 0) r' w q ∧ ∀ j : Int, 0 ≤ j → j < 3 * v → r' j = R.2 j) Γ 14 [some (gR 117), some (gI x1), some (gI ((n + 1 : Nat) : Int)), some (gI 0)] [] (gz_ss g r' 0 q0) := by
            intro q0 hq0 hno
            apply r_X12_readAll_14
            rw [gz_ss_14]
            have hq1 : 0 ≤ q0 ∧ q0 ≤ L := by rcases hq0 with rfl | rfl <;> omega
            have eq : gz_ne t L q0 = gz_ne t L c.2.1 := by
              rcases hq0 with rfl | rfl
              · rfl
              · exact nn
            refine ⟨fun _ => ⟨fun _ => gw_CI.eq (sp_X12_here t L g hT r' 0 q0 hq1) rfl ?_, fun z => absurd rfl z⟩, fun z => absurd rfl z⟩
            rw [eq]
            refine fin100 _ 0 _ r' 0 _ (by omega) a1.1 ?_
            by_cases d1 : L ≤ gz_ne t L c.2.1
            · rw [if_pos d1] at hR3
              have e0 : gz_by t L (gz_ne t L c.2.1) = 0 := by unfold gz_by; rw [if_pos d1]
              rw [if_pos e0]
              refine Or.inl ⟨rfl, by rw [hR3]; show (n : Int) + 1 = ((n + 1 : Nat) : Int); omega, fun j _ hj => ?_⟩
              rw [hR3]
              exact agree j hj
            · rw [if_neg d1, if_neg (fun z => hno ⟨z.1, z.2, d1⟩)] at hR3
              have e0 : ¬ gz_by t L (gz_ne t L c.2.1) = 0 := by
                unfold gz_by
                rw [if_neg d1]
                have := (hT.2.2 (gz_ne t L c.2.1) a1.1.1 (by omega)).2
                omega
              rw [if_neg e0]
              exact Or.inr ⟨rfl, by rw [hR3]⟩
          refine ⟨fun d => ?_, fun d => gw_CI.eq (sp_X12_has0 t L g hT r' c.2.1 ci.1 sep) rfl ?_⟩
          · apply r_X12_readAll_76
            exact stop _ (Or.inl rfl) (by omega)
          · apply r_X12_readAll_76
            by_cases d1 : gz_by t L (gz_ne t L c.2.1) = sep
            · rw [if_pos d1, if_neg (by omega)]
              have d2 := gz_by_lt (t := t) (L := L) (p := gz_ne t L c.2.1) (by omega)
              have d3 : t (gz_ne t L c.2.1) = sep := by
                unfold gz_by at d1
                rwa [if_neg (by omega)] at d1
              rw [if_neg (by omega), if_pos ⟨by omega, d3⟩] at hR3
              exact ih (n + 1) _ 1 r' _ (by omega) (by omega) (by omega) agree hR3 (by omega)
            · rw [if_neg d1, if_pos rfl, Int.add_zero]
              refine stop _ (Or.inr rfl) (fun z => d1 ?_)
              unfold gz_by
              rw [if_neg z.2.2]
              exact z.2.1
      refine ⟨fun z => absurd z hx3, fun _ => ⟨fun z => gw_CV.of (sp.1 z) rfl (fun m' _ h => nxt m' h), fun z => gw_CV.of (sp.2 z) rfl (fun m' _ h => nxt m' h)⟩⟩
  exact key M 0 0 1 (g 128) (g 128) (by omega) (by omega) (by omega) (fun _ _ => rfl) hR (by omega)
