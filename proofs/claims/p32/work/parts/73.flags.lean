/-! the class: colours -/
def gc_mt (n pr : Int) (m : gw_Mem) : Prop := m 101 0 = n ∧ ∀ a b : Nat, a < b → (b : Int) < n → (gw_and (gw_shr (m 102 (b : Int)) (a : Int)) 1 = 1 ↔ gd_mt n pr a b)
theorem sp_X1_load (n pr : Int) (m : gw_Mem) (hn : 1 ≤ n ∧ n ≤ 8) : gw_SpecV M_X1_load 10 [gR 101, gI n, gI pr] m (fun m' => gc_mt n pr m' ∧ ∀ o : Nat, o ≠ 101 → o ≠ 102 → m' o = m o) := by
  refine gw_intro pl_X1_load rfl (fun Γ => ?_)
  apply r_X1_load_0
  obtain ⟨N, hN⟩ := gw_nat (x := n) (by omega)
  -- the bits laid so far: all of flags below a, those of a below b
  have inner : ∀ (jo a : Nat), a + jo = N → ∀ (q : gw_Mem) (y5 : Option gw_SV), q 101 0 = n → (∀ o : Nat, o ≠ 101 → o ≠ 102 → q o = m o) → (∀ b : Nat, b < N → (0 ≤ q 102 (b : Int) ∧ q 102 (b : Int) < 256) ∧ ∀ x : Nat, x < N → (gw_and (gw_shr (q 102 (b : Int)) (x : Int)) 1 ≠ 0 ↔ x < b ∧ x < a ∧ gd_mt n pr x b)) → gw_G M_X1_load 10 (fun r m' => r = none ∧ gc_mt n pr m' ∧ ∀ o : Nat, o ≠ 101 → o ≠ 102 → m' o = m o) Γ 30 [some (gR 101), some (gI n), some (gI pr), some (gI (gd_bx n a)), some (gI (a : Int)), y5] [] q := by
    intro jo
    induction jo with
    | zero =>
      intro a ha q y5 h1 h2 h3
      apply r_X1_load_30
      refine ⟨fun _ => ⟨rfl, ⟨h1, fun x b hx hb => ?_⟩, h2⟩, fun z => absurd (by omega) z⟩
      have w := (h3 b (by omega)).2 x (by omega)
      have w2 := gd_and01 (gw_shr (q 102 (b : Int)) (x : Int))
      constructor
      · intro z
        exact (w.mp (by omega)).2.2
      · intro z
        have := w.mpr ⟨hx, by omega, z⟩
        omega
    | succ jo iho =>
      intro a ha q y5 h1 h2 h3
      apply r_X1_load_30
      refine ⟨fun z => absurd z (by omega), fun _ => ?_⟩
      have rb := gd_bx_rng n hn a (by omega)
      have go : ∀ (ji b : Nat), b + ji = N → a < b → ∀ q : gw_Mem, q 101 0 = n → (∀ o : Nat, o ≠ 101 → o ≠ 102 → q o = m o) → (∀ b' : Nat, b' < N → (0 ≤ q 102 (b' : Int) ∧ q 102 (b' : Int) < 256) ∧ ∀ x : Nat, x < N → (gw_and (gw_shr (q 102 (b' : Int)) (x : Int)) 1 ≠ 0 ↔ x < b' ∧ (x < a ∨ x = a ∧ b' < b) ∧ gd_mt n pr x b')) → gw_G M_X1_load 10 (fun r m' => r = none ∧ gc_mt n pr m' ∧ ∀ o : Nat, o ≠ 101 → o ≠ 102 → m' o = m o) Γ 42 [some (gR 101), some (gI n), some (gI pr), some (gI (gd_bx n a + b - a - 1)), some (gI (a : Int)), some (gI (b : Int))] [] q := by
        intro ji
        induction ji with
        | zero =>
          intro b hb hab q h1 h2 h3
          apply r_X1_load_42
          refine ⟨fun _ => ?_, fun z => absurd (by omega) z⟩
          rw [gw_w1 (by omega), show gd_bx n a + (b : Int) - a - 1 = gd_bx n (a + 1) by rw [gd_bx]; omega]
          refine iho (a + 1) (by omega) q _ h1 h2 (fun b' hb' => ⟨(h3 b' hb').1, fun x hx => ?_⟩)
          rw [(h3 b' hb').2 x hx]
          constructor
          · exact fun z => ⟨z.1, by omega, z.2.2⟩
          · exact fun z => ⟨z.1, by omega, z.2.2⟩
        | succ ji ihi =>
          intro b hb hab q h1 h2 h3
          apply r_X1_load_42
          refine ⟨fun z => absurd z (by omega), fun _ => ?_⟩
          have nxt : ∀ q' : gw_Mem, q' 101 0 = n → (∀ o : Nat, o ≠ 101 → o ≠ 102 → q' o = m o) → (∀ b' : Nat, b' < N → (0 ≤ q' 102 (b' : Int) ∧ q' 102 (b' : Int) < 256) ∧ ∀ x : Nat, x < N → (gw_and (gw_shr (q' 102 (b' : Int)) (x : Int)) 1 ≠ 0 ↔ x < b' ∧ (x < a ∨ x = a ∧ b' < b + 1) ∧ gd_mt n pr x b')) → gw_G M_X1_load 10 (fun r m' => r = none ∧ gc_mt n pr m' ∧ ∀ o : Nat, o ≠ 101 → o ≠ 102 → m' o = m o) Γ 71 [some (gR 101), some (gI n), some (gI pr), some (gI (gd_bx n a + b - a - 1)), some (gI (a : Int)), some (gI (b : Int))] [] q' := by
            intro q' a1 a2 a3
            apply r_X1_load_71
            have h4 := ihi (b + 1) (by omega) (by omega) q' a1 a2 a3
            rw [gw_w1 (by omega), show gw_w (gd_bx n a + (b : Int) - a - 1 + 1) = gd_bx n a + ((b + 1 : Nat) : Int) - a - 1 by rw [gw_w_id (by omega)]; omega]
            exact h4
          refine ⟨fun z => ⟨gw_inm (by omega) (by omega), gw_inm (by omega) (by omega), nxt _ (by rw [gw_up_ne (by omega)]; exact h1) (fun o o1 o2 => by rw [gw_up_ne o2]; exact h2 o o1 o2) (fun b' hb' => ?_)⟩, fun z => nxt q h1 h2 (fun b' hb' => ⟨(h3 b' hb').1, fun x hx => ?_⟩)⟩
          · rw [gw_up_at]
            by_cases e : b' = b
            · subst e
              rw [if_pos rfl]
              have w := h3 b' hb'
              have bt := gd_bit w.1 (k := (a : Int)) (by omega)
              refine ⟨bt.1, fun x hx => ?_⟩
              have b2 := bt.2 (x : Int) (by omega)
              have b3 := w.2 x hx
              by_cases ex : x = a
              · subst ex
                exact ⟨fun _ => ⟨hab, Or.inr ⟨rfl, by omega⟩, z⟩, fun _ q => (b2.mp q).2 rfl⟩
              · constructor
                · intro q
                  have := b3.mp (fun q2 => q (b2.mpr ⟨q2, by omega⟩))
                  exact ⟨this.1, by omega, this.2.2⟩
                · intro q q2
                  exact b3.mpr ⟨q.1, by omega, q.2.2⟩ (b2.mp q2).1
            · rw [if_neg (by omega)]
              refine ⟨(h3 b' hb').1, fun x hx => ?_⟩
              rw [(h3 b' hb').2 x hx]
              constructor
              · exact fun q => ⟨q.1, by omega, q.2.2⟩
              · exact fun q => ⟨q.1, by omega, q.2.2⟩
          · rw [(h3 b' hb').2 x hx]
            constructor
            · exact fun q => ⟨q.1, by omega, q.2.2⟩
            · intro q
              refine ⟨q.1, ?_, q.2.2⟩
              rcases q.2.1 with q1 | ⟨q1, q2⟩
              · exact Or.inl q1
              · by_cases e : b' = b
                · subst e
                  subst q1
                  exact absurd q.2.2 z
                · exact Or.inr ⟨q1, by omega⟩
      have h4 := go jo (a + 1) (by omega) (by omega) q h1 h2 (fun b' hb' => ⟨(h3 b' hb').1, fun x hx => by
        rw [(h3 b' hb').2 x hx]
        exact ⟨fun q => ⟨q.1, by omega, q.2.2⟩, fun q => ⟨q.1, by omega, q.2.2⟩⟩⟩)
      rw [show gd_bx n a + ((a + 1 : Nat) : Int) - a - 1 = gd_bx n a by omega] at h4
      rw [gw_w1 (by omega)]
      exact h4
  have first : ∀ (j a : Nat), a + j = N → ∀ q : gw_Mem, q 101 0 = n → (∀ o : Nat, o ≠ 101 → o ≠ 102 → q o = m o) → (∀ b : Nat, b < a → q 102 (b : Int) = 0) → gw_G M_X1_load 10 (fun r m' => r = none ∧ gc_mt n pr m' ∧ ∀ o : Nat, o ≠ 101 → o ≠ 102 → m' o = m o) Γ 7 [some (gR 101), some (gI n), some (gI pr), some (gI (a : Int)), none, none] [] q := by
    intro j
    induction j with
    | zero =>
      intro a ha q h1 h2 h3
      apply r_X1_load_7
      refine ⟨fun _ => ?_, fun z => absurd (by omega) z⟩
      refine inner N 0 (by omega) q _ h1 h2 (fun b hb => ?_)
      rw [h3 b (by omega)]
      refine ⟨by omega, fun x hx => ?_⟩
      have h0 := gd_bit00 ⟨x, by omega⟩
      exact ⟨fun z => absurd h0 z, fun z => by omega⟩
    | succ j ih =>
      intro a ha q h1 h2 h3
      apply r_X1_load_7
      refine ⟨fun z => absurd z (by omega), fun _ => ⟨gw_inm (by omega) (by omega), ?_⟩⟩
      rw [gw_w1 (by omega)]
      refine ih (a + 1) (by omega) _ (by rw [gw_up_ne (by omega)]; exact h1) (fun o o1 o2 => by rw [gw_up_ne o2]; exact h2 o o1 o2) (fun b hb => ?_)
      rw [gw_up_at]
      split
      · rfl
      · exact h3 b (by omega)
  exact first N 0 (by omega) _ (by rw [gw_up_at, if_pos rfl]) (fun o o1 _ => by rw [gw_up_ne o1]) (fun b hb => by omega)
theorem sp_X1_isFree (n pr : Int) (m : gw_Mem) (hn : 1 ≤ n ∧ n ≤ 8) (hm : gc_mt n pr m) (i : Nat) (hi : (i : Int) < n) (x : Int) : gw_SpecI M_X1_isFree 10 [gR 101, gI (i : Int), gI x] m (fun r m' => ((r = 1 ∧ ∀ a : Nat, a < i → gd_mt n pr a i → m 103 (a : Int) ≠ x) ∨ (r = 0 ∧ ∃ a : Nat, a < i ∧ gd_mt n pr a i ∧ m 103 (a : Int) = x)) ∧ m' = m) := by
  refine gw_intro pl_X1_isFree rfl (fun Γ => ?_)
  apply r_X1_isFree_0
  have key : ∀ (j k : Nat), k + j = i → (∀ a : Nat, a < k → gd_mt n pr a i → m 103 (a : Int) ≠ x) → gw_G M_X1_isFree 10 (fun r m' => ∃ v, r = some (gI v) ∧ ((v = 1 ∧ ∀ a : Nat, a < i → gd_mt n pr a i → m 103 (a : Int) ≠ x) ∨ (v = 0 ∧ ∃ a : Nat, a < i ∧ gd_mt n pr a i ∧ m 103 (a : Int) = x)) ∧ m' = m) Γ 2 [some (gR 101), some (gI (i : Int)), some (gI x), some (gI (k : Int))] [] m := by
    intro j
    induction j with
    | zero =>
      intro k hk h
      have e : k = i := by omega
      subst e
      apply r_X1_isFree_2
      exact ⟨fun _ => ⟨1, rfl, Or.inl ⟨rfl, h⟩, rfl⟩, fun z => absurd (Int.le_refl _) z⟩
    | succ j ih =>
      intro k hk h
      apply r_X1_isFree_2
      have w := hm.2 k i (by omega) hi
      have nxt : (gd_mt n pr k i → m 103 (k : Int) ≠ x) → gw_G M_X1_isFree 10 (fun r m' => ∃ v, r = some (gI v) ∧ ((v = 1 ∧ ∀ a : Nat, a < i → gd_mt n pr a i → m 103 (a : Int) ≠ x) ∨ (v = 0 ∧ ∃ a : Nat, a < i ∧ gd_mt n pr a i ∧ m 103 (a : Int) = x)) ∧ m' = m) Γ 33 [some (gR 101), some (gI (i : Int)), some (gI x), some (gI (k : Int))] [] m := by
        intro h1
        apply r_X1_isFree_33
        rw [gw_w1 (by omega)]
        refine ih (k + 1) (by omega) (fun a ha hma => ?_)
        by_cases e : a = k
        · rw [e] at hma ⊢; exact h1 hma
        · exact h a (by omega) hma
      refine ⟨fun z => absurd z (by omega), fun _ => ⟨gw_inm (by omega) (by omega), fun z => ⟨gw_inm (by omega) (by omega), fun z2 => ?_, fun z2 => nxt (fun _ => z2)⟩, fun z => nxt (fun z2 => absurd (w.mpr z2) z)⟩⟩
      exact ⟨0, rfl, Or.inr ⟨rfl, k, by omega, w.mp z, z2⟩, rfl⟩
  exact key i 0 (by omega) (fun a ha => by omega)
def gc_pf (n pr c : Int) (N i : Nat) (m : gw_Mem) (v : Int) (m' : gw_Mem) : Prop := (∀ o : Nat, o ≠ 103 → m' o = m o) ∧ (∀ a : Nat, a < i → m' 103 (a : Int) = m 103 (a : Int)) ∧ ((v = 1 ∧ gd_vl n pr c (fun a => m' 103 (a : Int)) N ∧ gd_rg (fun a => m' 103 (a : Int)) N ∧ ∀ h : Nat → Int, gd_vl n pr c h N → gd_rg h N → (∀ a : Nat, a < i → h a = m 103 (a : Int)) → ∀ k : Nat, i ≤ k → k < N → (∀ a : Nat, a < k → h a = m' 103 (a : Int)) → m' 103 (k : Int) ≤ h k) ∨ (v = 0 ∧ ∀ h : Nat → Int, gd_vl n pr c h N → gd_rg h N → (∀ a : Nat, a < i → h a = m 103 (a : Int)) → False))
theorem sp_X1_paintFrom (n pr c : Int) (N : Nat) (hN : n = N) (hn : 1 ≤ n ∧ n ≤ 8) (hc : 1 ≤ c ∧ c ≤ 8) : ∀ (d i : Nat), i + d = N → ∀ (m : gw_Mem), gc_mt n pr m → gd_vl n pr c (fun a => m 103 (a : Int)) i → gd_rg (fun a => m 103 (a : Int)) i → gw_SpecI M_X1_paintFrom (12 + d) [gR 101, gI (i : Int), gI (gd_us (fun a => m 103 (a : Int)) i), gI c] m (fun v m' => gc_pf n pr c N i m v m') := by
  intro d
  induction d with
  | zero =>
    intro i hi m hm v r
    refine gw_intro pl_X1_paintFrom rfl (fun Γ => ?_)
    apply r_X1_paintFrom_0 _ _ _ _ (by omega)
    have e : i = N := by omega
    subst e
    rw [hm.1]
    exact ⟨fun z => absurd z (by omega), fun _ => ⟨1, rfl, fun _ _ => rfl, fun _ _ => rfl, Or.inl ⟨rfl, v, r, fun h _ _ _ k h1 h2 => by omega⟩⟩⟩
  | succ d ih =>
    intro i hi m hm v r
    refine gw_intro pl_X1_paintFrom rfl (fun Γ => ?_)
    apply r_X1_paintFrom_0 _ _ _ _ (by omega)
    rw [hm.1]
    refine ⟨fun _ => ?_, fun z => absurd (by omega) z⟩
    have us := gd_us_gt (fun a => m 103 (a : Int)) i
    have usc : gd_us (fun a => m 103 (a : Int)) i ≤ c := by
      have : ∀ k : Nat, k ≤ i → gd_us (fun a => m 103 (a : Int)) k ≤ c := by
        intro k
        induction k with
        | zero => intro _; show (0 : Int) ≤ c; omega
        | succ k ihk =>
          intro hk
          have a1 := ihk (by omega)
          have a2 := (v k (by omega)).1
          dsimp only at a2
          rw [gd_us]
          omega
      exact this i (Nat.le_refl _)
    have key : ∀ (e x : Nat), (x : Int) + e = c → ∀ q : gw_Mem, (∀ o : Nat, o ≠ 103 → q o = m o) → (∀ a : Nat, a < i → q 103 (a : Int) = m 103 (a : Int)) → (∀ h : Nat → Int, gd_vl n pr c h N → gd_rg h N → (∀ a : Nat, a < i → h a = m 103 (a : Int)) → (x : Int) ≤ h i) →
        gw_G M_X1_paintFrom (12 + (d + 1)) (fun r m' => ∃ v, r = some (gI v) ∧ gc_pf n pr c N i m v m') Γ 13 [some (gR 101), some (gI (i : Int)), some (gI (gd_us (fun a => m 103 (a : Int)) i)), some (gI c), some (gI (x : Int))] [] q := by
      intro e
      induction e with
      | zero =>
        intro x hx q qo qa qh
        have out : gc_pf n pr c N i m 0 q := ⟨qo, qa, Or.inr ⟨rfl, fun h vh rh ah => by
          have h1 := qh h vh rh ah
          have h2 := (vh i (by omega)).1
          omega⟩⟩
        apply r_X1_paintFrom_13 _ _ _ _ _ (by omega)
        exact ⟨fun _ => ⟨0, rfl, out⟩, fun _ => ⟨fun _ => ⟨0, rfl, out⟩, fun z => absurd (by omega) z⟩⟩
      | succ e ihe =>
        intro x hx q qo qa qh
        apply r_X1_paintFrom_13 _ _ _ _ _ (by omega)
        refine ⟨fun z => ⟨0, rfl, qo, qa, Or.inr ⟨rfl, fun h vh rh ah => ?_⟩⟩, fun z => ⟨fun z2 => absurd z2 (by omega), fun _ => ?_⟩⟩
        · have h1 := qh h vh rh ah
          have h2 := rh i (by omega)
          rw [gd_us_congr (h := fun a => m 103 (a : Int)) ah] at h2
          omega
        have hq : gc_mt n pr q := ⟨by rw [qo 101 (by omega)]; exact hm.1, fun a b h1 h2 => by rw [qo 102 (by omega)]; exact hm.2 a b h1 h2⟩
        have nxt : ∀ q' : gw_Mem, (∀ o : Nat, o ≠ 103 → q' o = m o) → (∀ a : Nat, a < i → q' 103 (a : Int) = m 103 (a : Int)) → (∀ h : Nat → Int, gd_vl n pr c h N → gd_rg h N → (∀ a : Nat, a < i → h a = m 103 (a : Int)) → h i ≠ x) → gw_G M_X1_paintFrom (12 + (d + 1)) (fun r m' => ∃ v, r = some (gI v) ∧ gc_pf n pr c N i m v m') Γ 64 [some (gR 101), some (gI (i : Int)), some (gI (gd_us (fun a => m 103 (a : Int)) i)), some (gI c), some (gI (x : Int))] [] q' := by
          intro q' o' a' h'
          apply r_X1_paintFrom_64 _ _ _ _ _ (by omega)
          rw [gw_w1 (by omega)]
          refine ihe (x + 1) (by omega) q' o' a' (fun h vh rh ah => ?_)
          have h1 := qh h vh rh ah
          have h2 := h' h vh rh ah
          omega
        refine gw_CI.of (sp_X1_isFree n pr q hn hq i (by omega) (x : Int)) (by simp only [Nat.blt_eq]; omega) (fun v1 m2 _ _ hv => ?_)
        obtain ⟨hv, rfl⟩ := hv
        rcases hv with ⟨rfl, hv⟩ | ⟨rfl, a, ha, hma, hxa⟩
        · refine ⟨fun z => absurd z (by omega), fun _ => ⟨gw_inm (by omega) (by omega), ?_⟩⟩
          have e1 : gw_up m2 103 (i : Int) (x : Int) 103 (i : Int) = x := by rw [gw_up_at, if_pos rfl]
          have ea : ∀ a : Nat, a < i → gw_up m2 103 (i : Int) (x : Int) 103 (a : Int) = m 103 (a : Int) := fun a ha => by rw [gw_up_at, if_neg (by omega)]; exact qa a ha
          have eo : ∀ o : Nat, o ≠ 103 → gw_up m2 103 (i : Int) (x : Int) o = m o := fun o ho => by rw [gw_up_ne ho]; exact qo o ho
          generalize gw_up m2 103 (i : Int) (x : Int) = u at e1 ea eo ⊢
          have eus : gd_us (fun a => u 103 (a : Int)) (i + 1) = max (gd_us (fun a => m 103 (a : Int)) i) (gw_w ((x : Int) + 1)) := by
            rw [gd_us, gd_us_congr (h := fun a => m 103 (a : Int)) ea]
            try dsimp only
            rw [e1, gw_w_id (by omega)]
          have vu : gd_vl n pr c (fun a => u 103 (a : Int)) (i + 1) := gd_vl_one (gd_vl_congr ea v) (by omega) (fun a ha hma => by rw [e1, ea a ha, ← qa a ha]; exact hv a ha hma)
          have ru : gd_rg (fun a => u 103 (a : Int)) (i + 1) := by
            intro b hb
            by_cases eb : b = i
            · subst eb
              rw [gd_us_congr (h := fun a => m 103 (a : Int)) ea]
              dsimp only
              rw [e1]
              omega
            · exact gd_rg_congr ea r b (by omega)
          have IH := ih (i + 1) (by omega) u ⟨by rw [eo 101 (by omega)]; exact hm.1, fun a b h1 h2 => by rw [eo 102 (by omega)]; exact hm.2 a b h1 h2⟩ vu ru
          rw [eus] at IH
          rw [gw_w1 (n := i) (by omega)]
          refine gw_CI.of IH (by simp only [Nat.blt_eq]; omega) (fun v4 m5 _ _ h5 => ?_)
          obtain ⟨f5, a5, h5⟩ := h5
          rcases h5 with ⟨rfl, v5, r5, l5⟩ | ⟨rfl, n5⟩
          · refine ⟨fun z => absurd z (by omega), fun _ => ⟨1, rfl, fun o ho => by rw [f5 o ho, eo o ho], fun a ha => by rw [a5 a (by omega), ea a ha], Or.inl ⟨rfl, v5, r5, fun h vh rh ah k k1 k2 k3 => ?_⟩⟩⟩
            by_cases ek : k = i
            · rw [ek, a5 i (by omega), e1]
              exact qh h vh rh ah
            · exact l5 h vh rh (fun a ha => by rw [k3 a (by omega), a5 a ha]) k (by omega) k2 k3
          · refine ⟨fun _ => nxt m5 (fun o ho => by rw [f5 o ho, eo o ho]) (fun a ha => by rw [a5 a (by omega), ea a ha]) (fun h vh rh ah hx => ?_), fun z => absurd rfl z⟩
            refine n5 h vh rh (fun a ha => ?_)
            by_cases ek : a = i
            · rw [ek, e1]; exact hx
            · rw [ah a (by omega), ea a (by omega)]
        · refine ⟨fun _ => nxt m2 qo qa (fun h vh rh ah hx => ?_), fun z => absurd rfl z⟩
          exact (vh i (by omega)).2 a ha hma (by rw [hx, ah a ha, ← qa a ha, hxa])
    exact key c.toNat 0 (by omega) m (fun _ _ => rfl) (fun _ _ => rfl) (fun h vh _ _ => (vh i (by omega)).1.1)
theorem gc_pf_all {n pr c : Int} {N : Nat} {m m' : gw_Mem} {v : Int} (h : gc_pf n pr c N 0 m v m') : (∀ o : Nat, o ≠ 103 → m' o = m o) ∧ ((v = 1 ∧ gd_vl n pr c (fun a => m' 103 (a : Int)) N ∧ gd_lm n pr c N (fun a => m' 103 (a : Int)) N) ∨ (v = 0 ∧ ∀ h : Nat → Int, ¬ gd_vl n pr c h N)) := by
  obtain ⟨h1, _, h2⟩ := h
  refine ⟨h1, ?_⟩
  rcases h2 with ⟨rfl, v2, r2, l2⟩ | ⟨rfl, n2⟩
  · refine Or.inl ⟨rfl, v2, fun x vx k hk ax => Classical.byContradiction fun hlt => ?_⟩
    dsimp only at hlt ax
    have rx : gd_rg x (k + 1) := by
      intro b hb
      by_cases eb : b = k
      · subst eb
        have := r2 b hk
        rw [gd_us_congr (h := fun a => m' 103 (a : Int)) ax]
        dsimp only at this
        omega
      · have := r2 b (by omega)
        rw [gd_us_congr (h := fun a => m' 103 (a : Int)) (fun a ha => ax a (by omega)), ax b (by omega)]
        exact this
    obtain ⟨y, vy, ry, ay⟩ := gd_rgx n pr c N (N - (k + 1)) (k + 1) (by omega) x vx rx
    have := l2 y vy ry (fun a ha => by omega) k (by omega) hk (fun a ha => by rw [ay a (by omega), ax a ha])
    rw [ay k (by omega)] at this
    omega
  · refine Or.inr ⟨rfl, fun x vx => ?_⟩
    obtain ⟨y, vy, ry, _⟩ := gd_rgx n pr c N N 0 (by omega) x vx (fun b hb => by omega)
    exact n2 y vy ry (fun a ha => by omega)
theorem sp_X1_paint (n pr : Int) (N : Nat) (hN : n = N) (hn : 1 ≤ n ∧ n ≤ 8) (m : gw_Mem) (hm : gc_mt n pr m) : gw_SpecI M_X1_paint 24 [gR 101] m (fun r m' => (∀ o : Nat, o ≠ 103 → m' o = m o) ∧ ∃ c : Nat, r = c ∧ 1 ≤ c ∧ gd_vl n pr c (fun a => m' 103 (a : Int)) N ∧ gd_lm n pr c N (fun a => m' 103 (a : Int)) N ∧ ∀ c' : Nat, 1 ≤ c' → c' < c → ∀ h' : Nat → Int, ¬ gd_vl n pr c' h' N) := by
  refine gw_intro pl_X1_paint rfl (fun Γ => ?_)
  apply r_X1_paint_0
  have key : ∀ (j c : Nat), c + j = N → 1 ≤ c → ∀ q : gw_Mem, (∀ o : Nat, o ≠ 103 → q o = m o) → (∀ c' : Nat, 1 ≤ c' → c' < c → ∀ h' : Nat → Int, ¬ gd_vl n pr c' h' N) → gw_G M_X1_paint 24 (fun r m' => ∃ v, r = some (gI v) ∧ (∀ o : Nat, o ≠ 103 → m' o = m o) ∧ ∃ c : Nat, v = c ∧ 1 ≤ c ∧ gd_vl n pr c (fun a => m' 103 (a : Int)) N ∧ gd_lm n pr c N (fun a => m' 103 (a : Int)) N ∧ ∀ c' : Nat, 1 ≤ c' → c' < c → ∀ h' : Nat → Int, ¬ gd_vl n pr c' h' N) Γ 2 [some (gR 101), some (gI (c : Int))] [] q := by
    intro j
    induction j with
    | zero =>
      intro c hc c1 q qo no
      apply r_X1_paint_2
      have hq : gc_mt n pr q := ⟨by rw [qo 101 (by omega)]; exact hm.1, fun a b h1 h2 => by rw [qo 102 (by omega)]; exact hm.2 a b h1 h2⟩
      rw [hq.1]
      refine ⟨fun _ => ?_, fun z => absurd (by omega) z⟩
      refine gw_CI.of (sp_X1_paintFrom n pr n N hN hn hn N 0 (by omega) q hq (fun b hb => by omega) (fun b hb => by omega)) (by simp only [Nat.blt_eq]; omega) (fun v1 m2 _ _ h => ?_)
      obtain ⟨f2, h2⟩ := gc_pf_all h
      have e : m2 101 0 = n := by rw [f2 101 (by omega)]; exact hq.1
      rw [e]
      rcases h2 with ⟨_, v2, l2⟩ | ⟨_, n2⟩
      · have ec : n = (c : Int) := by omega
        exact ⟨n, rfl, fun o ho => by rw [f2 o ho, qo o ho], c, ec, c1, by rw [← ec]; exact v2, by rw [← ec]; exact l2, no⟩
      · exact absurd (gd_vl_id n pr N hN).1 (n2 _)
    | succ j ih =>
      intro c hc c1 q qo no
      apply r_X1_paint_2
      have hq : gc_mt n pr q := ⟨by rw [qo 101 (by omega)]; exact hm.1, fun a b h1 h2 => by rw [qo 102 (by omega)]; exact hm.2 a b h1 h2⟩
      rw [hq.1]
      refine ⟨fun z => absurd z (by omega), fun _ => ?_⟩
      refine gw_CI.of (sp_X1_paintFrom n pr (c : Int) N hN hn (by omega) N 0 (by omega) q hq (fun b hb => by omega) (fun b hb => by omega)) (by simp only [Nat.blt_eq]; omega) (fun v1 m2 _ _ h => ?_)
      obtain ⟨f2, h2⟩ := gc_pf_all h
      rcases h2 with ⟨rfl, v2, l2⟩ | ⟨rfl, n2⟩
      · exact ⟨fun z => absurd z (by omega), fun _ => ⟨c, rfl, fun o ho => by rw [f2 o ho, qo o ho], c, rfl, c1, v2, l2, no⟩⟩
      · refine ⟨fun _ => ?_, fun z => absurd rfl z⟩
        rw [gw_w1 (by omega)]
        refine ih (c + 1) (by omega) (by omega) m2 (fun o ho => by rw [f2 o ho, qo o ho]) (fun c' a1 a2 h' => ?_)
        by_cases e : c' = c
        · rw [e]; exact n2 h'
        · exact no c' a1 (by omega) h'
  exact key (N - 1) 1 (by omega) (by omega) m (fun _ _ => rfl) (fun c' a b => by omega)
theorem gd_pairs (n pr : Int) (hn : 1 ≤ n ∧ n ≤ 8) (hp : gw_inR pr) : (0 ≤ pr ∧ gw_shr pr (gw_w ((gw_w (n * gw_w (n - 1))).tdiv 2)) = 0) ↔ 0 ≤ pr ∧ pr ≤ gw_w (gw_shl 1 (gw_w ((gw_w (n * gw_w (n - 1))).tdiv 2)) - 1) := by
  have sh : ∀ (k : Int) (K : Nat), ((Int32.ofInt k &&& 31).toBitVec.smod 32).toNat = K → gw_shr pr k = pr / 2 ^ K := by
    intro k K h
    unfold gw_shr
    rw [pk_shr _ _ K h, gw_toInt_id hp, Int.shiftRight_eq_div_pow]
    rfl
  have h : n = 1 ∨ n = 2 ∨ n = 3 ∨ n = 4 ∨ n = 5 ∨ n = 6 ∨ n = 7 ∨ n = 8 := by omega
  rcases h with rfl | rfl | rfl | rfl | rfl | rfl | rfl | rfl
  · rw [show gw_w ((gw_w (1 * gw_w (1 - 1))).tdiv 2) = 0 by decide, sh 0 0 (by decide), show gw_w (gw_shl 1 0 - 1) = 0 by decide]
    omega
  · rw [show gw_w ((gw_w (2 * gw_w (2 - 1))).tdiv 2) = 1 by decide, sh 1 1 (by decide), show gw_w (gw_shl 1 1 - 1) = 1 by decide]
    omega
  · rw [show gw_w ((gw_w (3 * gw_w (3 - 1))).tdiv 2) = 3 by decide, sh 3 3 (by decide), show gw_w (gw_shl 1 3 - 1) = 7 by decide]
    omega
  · rw [show gw_w ((gw_w (4 * gw_w (4 - 1))).tdiv 2) = 6 by decide, sh 6 6 (by decide), show gw_w (gw_shl 1 6 - 1) = 63 by decide]
    omega
  · rw [show gw_w ((gw_w (5 * gw_w (5 - 1))).tdiv 2) = 10 by decide, sh 10 10 (by decide), show gw_w (gw_shl 1 10 - 1) = 1023 by decide]
    omega
  · rw [show gw_w ((gw_w (6 * gw_w (6 - 1))).tdiv 2) = 15 by decide, sh 15 15 (by decide), show gw_w (gw_shl 1 15 - 1) = 32767 by decide]
    omega
  · rw [show gw_w ((gw_w (7 * gw_w (7 - 1))).tdiv 2) = 21 by decide, sh 21 21 (by decide), show gw_w (gw_shl 1 21 - 1) = 2097151 by decide]
    omega
  · rw [show gw_w ((gw_w (8 * gw_w (8 - 1))).tdiv 2) = 28 by decide, sh 28 28 (by decide), show gw_w (gw_shl 1 28 - 1) = 268435455 by decide]
    omega
theorem sp_X11_arePairs (n pr : Int) (m : gw_Mem) : gw_SpecI M_X11_arePairs 10 [gI n, gI pr] m (fun r m' => r = (if pr < 0 then (0 : Int) else (if gw_shr pr (gw_w ((gw_w (n * (gw_w (n - 1)))).tdiv 2)) = 0 then (1 : Int) else (0 : Int))) ∧ m' = m) := by
  refine gw_intro pl_X11_arePairs rfl (fun Γ => ?_)
  apply r_X11_arePairs_0
  exact gw_rE rfl rfl
theorem sp_X11_colours (n pr i : Int) (hp : gw_inR pr) (m : gw_Mem) : gw_SpecI M_X11_colours 30 [gR 0, gI n, gI pr, gI i] m (fun r m' => gd_isc n pr i r ∧ ∀ o : Nat, o ≠ 101 → o ≠ 102 → o ≠ 103 → m' o = m o) := by
  refine gw_intro pl_X11_colours rfl (fun Γ => ?_)
  apply r_X11_colours_0
  have bad : ¬ ((1 ≤ n ∧ n ≤ 8) ∧ (0 ≤ pr ∧ pr ≤ gw_w (gw_shl 1 (gw_w ((gw_w (n * gw_w (n - 1))).tdiv 2)) - 1)) ∧ -1 ≤ i ∧ i ≤ n - 1) → gd_isc n pr i (-1) := fun z => ⟨fun q => absurd q z, fun _ => rfl⟩
  refine gw_CI.eq (sp_X11_within n 1 8 m) rfl (gw_b_tf (fun h => ⟨_, rfl, bad (fun z => h z.1), fun _ _ _ _ => rfl⟩) (fun h1 => ?_))
  have e1 : gw_w (n - 1) = n - 1 := gw_w_id (by omega)
  have pi := gd_pairs n pr h1 hp
  rw [e1] at pi bad ⊢
  refine gw_CI.eq (sp_X11_within i (-1) (n - 1) m) rfl (gw_b_tf (fun h => ⟨_, rfl, bad (fun z => h z.2.2), fun _ _ _ _ => rfl⟩) (fun h2 => ?_))
  have ap := sp_X11_arePairs n pr m
  rw [e1] at ap
  refine gw_CI.eq ap rfl ?_
  have no : ¬ (0 ≤ pr ∧ gw_shr pr (gw_w ((gw_w (n * (n - 1))).tdiv 2)) = 0) → gd_isc n pr i (-1) := fun z => bad (fun q => z (pi.mpr q.2.1))
  refine ⟨fun z => ⟨_, rfl, no (fun q => ?_), fun _ _ _ _ => rfl⟩, fun z => ?_⟩
  · rw [if_neg (by omega), if_pos q.2] at z
    omega
  have ok : 0 ≤ pr ∧ gw_shr pr (gw_w ((gw_w (n * (n - 1))).tdiv 2)) = 0 := by
    by_cases c1 : pr < 0
    · rw [if_pos c1] at z; exact absurd rfl z
    · rw [if_neg c1] at z
      by_cases c2 : gw_shr pr (gw_w ((gw_w (n * (n - 1))).tdiv 2)) = 0
      · exact ⟨by omega, c2⟩
      · rw [if_neg c2] at z; exact absurd rfl z
  obtain ⟨N, hN⟩ := gw_nat (x := n) (by omega)
  refine gw_CV.of (sp_X1_load n pr m h1) rfl (fun m10 _ hq => ?_)
  refine gw_CI.of (sp_X1_paint n pr N hN h1 m10 hq.1) rfl (fun v m13 _ _ hv => ?_)
  obtain ⟨f, c, rfl, c1, vc, lc, nc⟩ := hv
  refine ⟨fun hi => gw_inm hi (by omega), _, rfl, ⟨fun _ => ⟨c, fun a => m13 103 (a : Int), c1, ?_⟩, fun q => absurd ⟨h1, by rw [e1]; exact pi.mp ok, h2⟩ q⟩, fun o o1 o2 o3 => by rw [f o o3, hq.2 o o1 o2]⟩
  rw [show n.toNat = N by omega]
  refine ⟨vc, lc, nc, ?_⟩
  by_cases hi : 0 ≤ i
  · rw [if_pos hi, if_pos hi]
    show m13 103 i = m13 103 (i.toNat : Int)
    rw [Int.toNat_of_nonneg hi]
  · rw [if_neg hi, if_neg hi]
