/-! the reference: slots -/
theorem gd_pm_congr {n : Nat} {p q : Nat → Int} (e : ∀ a : Nat, a < n → q a = p a) (h : gd_pm n p) : gd_pm n q := by
  intro i hi
  rw [e i hi]
  refine ⟨(h i hi).1, fun j hj => ?_⟩
  rw [e j (by omega)]
  exact (h i hi).2 j hj
def gz_tn (n : Nat) (g : gw_Mem) (v : Int) (m' : gw_Mem) : Prop := (∀ o : Nat, o ≠ 142 → m' o = g o) ∧ ((v = 0 ∧ ∀ q : Nat → Int, gd_pm n q → gd_rk q n ≤ gd_rk (fun a => g 142 (a : Int)) n) ∨ (v = 1 ∧ gd_pm n (fun a => m' 142 (a : Int)) ∧ gd_rk (fun a => g 142 (a : Int)) n < gd_rk (fun a => m' 142 (a : Int)) n ∧ ∀ q : Nat → Int, gd_pm n q → gd_rk (fun a => g 142 (a : Int)) n < gd_rk q n → gd_rk (fun a => m' 142 (a : Int)) n ≤ gd_rk q n))
theorem sp_X12_turns (n : Nat) (hn : 2 ≤ n ∧ n ≤ 6) (g : gw_Mem) (hp : gd_pm n (fun a => g 142 (a : Int))) : gw_SpecI M_X12_turns 10 [gR 117, gI (n : Int)] g (fun v m' => gz_tn n g v m') := by
  refine gw_intro pl_X12_turns rfl (fun Γ => ?_)
  obtain ⟨p, hpd⟩ : ∃ p : Nat → Int, p = fun a : Nat => g 142 (a : Int) := ⟨_, rfl⟩
  have pe : ∀ a : Nat, g 142 (a : Int) = p a := fun a => by rw [hpd]
  rw [← hpd] at hp
  -- the end is turned about
  have rev : ∀ (k j : Nat), k < j → j < n → (∀ a b : Nat, k + 1 ≤ a → a < b → b < n → p b < p a) → p k < p j → (∀ a : Nat, j < a → a < n → p a < p k) → ∀ (e a b : Nat) (x4 : Int) (q : gw_Mem), a + b = k + n → k + 1 ≤ a → b < n → b < a + e →
      (∀ o : Nat, o ≠ 142 → q o = g o) → (∀ i : Nat, i < n → (k < i ∧ (i < a ∨ b < i)) → q 142 (i : Int) = p (gd_tau n k j i)) → (∀ i : Nat, i < n → ¬ (k < i ∧ (i < a ∨ b < i)) → q 142 (i : Int) = if i = k then p j else if i = j then p k else p i) →
      gw_G M_X12_turns 10 (fun r m' => ∃ v, r = some (gI v) ∧ gz_tn n g v m') Γ 100 [some (gR 117), some (gI (n : Int)), some (gI (k : Int)), some (gI (j : Int)), some (gI x4), some (gI (a : Int)), some (gI (b : Int))] [] q := by
    intro k j hkj hjn desc hpj hpa e
    have t1 : ∀ i : Nat, i < k → gd_tau n k j i = i := fun i hi => by unfold gd_tau; rw [if_pos hi]
    have t2 : gd_tau n k j k = j := by unfold gd_tau; rw [if_neg (by omega), if_pos rfl]
    have t3 : ∀ i : Nat, k < i → gd_tau n k j i = if k + n - i = j then k else k + n - i := fun i hi => by unfold gd_tau; rw [if_neg (by omega), if_neg (by omega)]
    have fin : ∀ (a b : Nat) (q : gw_Mem), a + b = k + n → b ≤ a → k + 1 ≤ a → b < n → (∀ o : Nat, o ≠ 142 → q o = g o) → (∀ i : Nat, i < n → (k < i ∧ (i < a ∨ b < i)) → q 142 (i : Int) = p (gd_tau n k j i)) → (∀ i : Nat, i < n → ¬ (k < i ∧ (i < a ∨ b < i)) → q 142 (i : Int) = if i = k then p j else if i = j then p k else p i) → gz_tn n g 1 q := by
      intro a b q hab hba hka hbn hf h1 h2
      have all : ∀ i : Nat, i < n → q 142 (i : Int) = p (gd_tau n k j i) := by
        intro i hi
        by_cases c : k < i ∧ (i < a ∨ b < i)
        · exact h1 i hi c
        · rw [h2 i hi c]
          by_cases c1 : i = k
          · rw [if_pos c1, c1, t2]
          · rw [if_neg c1]
            by_cases c2 : i < k
            · rw [if_neg (by omega), t1 i c2]
            · rw [t3 i (by omega)]
              have e1 : k + n - i = i := by omega
              rw [e1]
              by_cases c3 : i = j
              · rw [if_pos c3, if_pos c3]
              · rw [if_neg c3, if_neg c3]
      obtain ⟨n1, n2, n3⟩ := gd_next hn.2 hp hkj hjn desc hpj hpa
      have er := gd_rk_congr (p := fun a : Nat => q 142 (a : Int)) (q := fun i => p (gd_tau n k j i)) (k := n) all
      refine ⟨hf, Or.inr ⟨rfl, gd_pm_congr all n1, ?_, ?_⟩⟩
      · rw [er, ← hpd]; exact n2
      · intro x hx hlt
        rw [er]
        rw [← hpd] at hlt
        exact n3 x hx hlt
    induction e with
    | zero =>
      intro a b x4 q hab hka hbn hlt hf h1 h2
      apply r_X12_turns_100
      exact ⟨fun _ => ⟨1, rfl, fin a b q hab (by omega) hka hbn hf h1 h2⟩, fun z => absurd (by omega) z⟩
    | succ e ih =>
      intro a b x4 q hab hka hbn hlt hf h1 h2
      apply r_X12_turns_100
      refine ⟨fun z => ⟨1, rfl, fin a b q hab (by omega) hka hbn hf h1 h2⟩, fun z => ⟨gw_inm (by omega) (by omega), gw_inm (by omega) (by omega), gw_inm (by omega) (by omega), gw_inm (by omega) (by omega), ?_⟩⟩
      rw [gw_w1 (by omega), show gw_w ((b : Int) + -1) = ((b - 1 : Nat) : Int) by rw [gw_w_id (by omega)]; omega]
      have ga := h2 a (by omega) (by omega)
      have gb := h2 b (by omega) (by omega)
      refine ih (a + 1) (b - 1) _ _ (by omega) (by omega) (by omega) (by omega) (fun o ho => by rw [gw_up_ne ho, gw_up_ne ho]; exact hf o ho) (fun i hi hc => ?_) (fun i hi hc => ?_)
      · rw [gw_up_at, gw_up_at]
        by_cases c1 : i = b
        · rw [if_pos (by omega), ga, t3 i (by omega), show k + n - i = a by omega, if_neg (show ¬ a = k by omega)]
          by_cases c2 : a = j
          · rw [if_pos c2, if_pos c2]
          · rw [if_neg c2, if_neg c2]
        · rw [if_neg (by omega)]
          by_cases c3 : i = a
          · rw [if_pos (by omega), gb, t3 i (by omega), show k + n - i = b by omega, if_neg (show ¬ b = k by omega)]
            by_cases c2 : b = j
            · rw [if_pos c2, if_pos c2]
            · rw [if_neg c2, if_neg c2]
          · rw [if_neg (by omega)]
            exact h1 i hi (by omega)
      · rw [gw_up_at, gw_up_at, if_neg (by omega), if_neg (by omega)]
        exact h2 i hi (by omega)
  -- whom it changes with
  have swap : ∀ (k : Nat), k + 1 < n → (∀ a b : Nat, k + 1 ≤ a → a < b → b < n → p b < p a) → p k < p (k + 1) → ∀ (e j : Nat) (y4 y5 y6 : Option gw_SV), j = k + 1 + e → j < n → (∀ a : Nat, j < a → a < n → p a < p k) →
      gw_G M_X12_turns 10 (fun r m' => ∃ v, r = some (gI v) ∧ gz_tn n g v m') Γ 41 [some (gR 117), some (gI (n : Int)), some (gI (k : Int)), some (gI (j : Int)), y4, y5, y6] [] g := by
    intro k hk desc hk1 e
    have sw : ∀ (j : Nat) (y4 y5 y6 : Option gw_SV), k < j → j < n → p k < p j → (∀ a : Nat, j < a → a < n → p a < p k) → gw_in (j : Int) 6 ∧ gw_in (k : Int) 6 ∧ ((g 142 (k : Int) ≤ g 142 (j : Int) → gw_in (k : Int) 6 ∧ gw_in (j : Int) 6 ∧ gw_in (k : Int) 6 ∧ gw_in (j : Int) 6 ∧ gw_G M_X12_turns 10 (fun r m' => ∃ v, r = some (gI v) ∧ gz_tn n g v m') Γ 100 [some (gR 117), some (gI (n : Int)), some (gI (k : Int)), some (gI (j : Int)), some (gI (g 142 (k : Int))), some (gI (gw_w ((k : Int) + 1))), some (gI (gw_w ((n : Int) - 1)))] [] (gw_up (gw_up g 142 (k : Int) (g 142 (j : Int))) 142 (j : Int) (g 142 (k : Int))))) := by
      intro j y4 y5 y6 hkj hjn hpj hpa
      refine ⟨gw_inm (by omega) (by omega), gw_inm (by omega) (by omega), fun _ => ⟨gw_inm (by omega) (by omega), gw_inm (by omega) (by omega), gw_inm (by omega) (by omega), gw_inm (by omega) (by omega), ?_⟩⟩
      rw [gw_w1 (by omega), show gw_w ((n : Int) - 1) = ((n - 1 : Nat) : Int) by rw [gw_w_id (by omega)]; omega]
      refine rev k j hkj hjn desc hpj hpa n (k + 1) (n - 1) _ _ (by omega) (by omega) (by omega) (by omega) (fun o ho => by rw [gw_up_ne ho, gw_up_ne ho]) (fun i hi hc => by omega) (fun i hi hc => ?_)
      rw [gw_up_at, gw_up_at, pe, pe, pe]
      by_cases c1 : i = j
      · rw [if_pos (by omega), if_neg (by omega), if_pos c1]
      · rw [if_neg (by omega)]
        by_cases c2 : i = k
        · rw [if_pos (by omega), if_pos c2]
        · rw [if_neg (by omega), if_neg c2, if_neg c1]
    induction e with
    | zero =>
      intro j y4 y5 y6 hj hjn hpa
      apply r_X12_turns_41
      have s := sw j y4 y5 y6 (by omega) hjn (by rw [hj]; exact hk1) hpa
      refine ⟨s.1, s.2.1, s.2.2, fun z => absurd ?_ z⟩
      rw [pe, pe, hj]
      exact Int.le_of_lt hk1
    | succ e ih =>
      intro j y4 y5 y6 hj hjn hpa
      apply r_X12_turns_41
      by_cases c : p k < p j
      · have s := sw j y4 y5 y6 (by omega) hjn c hpa
        refine ⟨s.1, s.2.1, s.2.2, fun z => absurd ?_ z⟩
        rw [pe, pe]
        exact Int.le_of_lt c
      · have ne := gd_pm_inj hp (a := k) (b := j) (by omega) hjn (by omega)
        refine ⟨gw_inm (by omega) (by omega), gw_inm (by omega) (by omega), fun z => ?_, fun z => ?_⟩
        · rw [pe, pe] at z
          omega
        · rw [show gw_w ((j : Int) + -1) = ((j - 1 : Nat) : Int) by rw [gw_w_id (by omega)]; omega]
          refine ih (j - 1) _ _ _ (by omega) (by omega) (fun a h1 h2 => ?_)
          by_cases e1 : a = j
          · rw [e1]; omega
          · exact hpa a (by omega) h2
  have look : ∀ (e : Nat) (y3 y4 y5 y6 : Option gw_SV), e < n → (∀ a : Nat, e ≤ a → a + 1 < n → p (a + 1) < p a) → gw_G M_X12_turns 10 (fun r m' => ∃ v, r = some (gI v) ∧ gz_tn n g v m') Γ 4 [some (gR 117), some (gI (n : Int)), some (gI ((e : Int) - 1)), y3, y4, y5, y6] [] g := by
    intro e
    induction e with
    | zero =>
      intro y3 y4 y5 y6 he desc
      apply r_X12_turns_4
      refine ⟨fun _ => ?_, fun z => absurd (by omega) z⟩
      apply r_X12_turns_31
      refine ⟨fun z => absurd z (by omega), fun _ => ⟨0, rfl, fun _ _ => rfl, Or.inl ⟨rfl, ?_⟩⟩⟩
      rw [← hpd]
      exact gd_last hn.2 hp (fun a b h1 h2 => gd_falls (k := 0) desc a b (by omega) h1 h2)
    | succ e ih =>
      intro y3 y4 y5 y6 he desc
      rw [show ((e + 1 : Nat) : Int) - 1 = (e : Int) by omega]
      apply r_X12_turns_4
      rw [gw_w1 (by omega)]
      refine ⟨fun z => absurd z (by omega), fun _ => ⟨gw_inm (by omega) (by omega), gw_inm (by omega) (by omega), fun z => ?_, fun z => ?_⟩⟩
      · rw [pe, pe] at z
        have ne := gd_pm_inj hp (a := e) (b := e + 1) (by omega) he (by omega)
        apply r_X12_turns_31
        refine ⟨fun _ => ?_, fun q => absurd (by omega) q⟩
        rw [show gw_w ((n : Int) - 1) = ((n - 1 : Nat) : Int) by rw [gw_w_id (by omega)]; omega]
        exact swap e he (fun a b h1 h2 h3 => gd_falls desc a b h1 h2 h3) (by omega) (n - 1 - (e + 1)) (n - 1) _ _ _ (by omega) (by omega) (fun a h1 h2 => by omega)
      · rw [pe, pe] at z
        rw [show gw_w ((e : Int) + -1) = (e : Int) - 1 by rw [gw_w_id (by omega)]; omega]
        refine ih _ _ _ _ (by omega) (fun a h1 h2 => ?_)
        by_cases c : a = e
        · rw [c]; omega
        · exact desc a (by omega) h2
  apply r_X12_turns_0
  have h := look (n - 1) none none none none (by omega) (fun a h1 h2 => by omega)
  rw [show ((n - 1 : Nat) : Int) - 1 = (n : Int) - 2 by omega] at h
  rw [gw_w_id (by omega)]
  exact h
/-- b is at least as good as q -/
def gz_bt (cm nd : Int → Int) (n : Nat) (b q : Nat → Int) : Prop := (gz_wq cm nd b n).2 < (gz_wq cm nd q n).2 ∨ ((gz_wq cm nd b n).2 = (gz_wq cm nd q n).2 ∧ gd_rk b n ≤ gd_rk q n)
theorem gz_bt_congr {cm nd : Int → Int} {n : Nat} {b b' q : Nat → Int} (e : ∀ a : Nat, a < n → b' a = b a) (h : gz_bt cm nd n b q) : gz_bt cm nd n b' q := by
  unfold gz_bt
  rw [gz_wq_congr e, gd_rk_congr e]
  exact h
theorem sp_X12_slots (g : gw_Mem) (hJ : gd_JS g) (s l i n k : Int) : gw_SpecI M_X12_slots 20 [gR 117, gI s, gI l, gI i, gI n, gI k] g (fun r m' => gd_isl g s l i n k r ∧ ∀ o : Nat, o ≠ 142 → o ≠ 143 → m' o = g o) := by
  refine gw_intro pl_X12_slots rfl (fun Γ => ?_)
  apply r_X12_slots_0
  have bad : ¬ ((0 ≤ s ∧ s ≤ 3) ∧ (0 ≤ l ∧ l ≤ 2) ∧ (2 ≤ n ∧ n ≤ 6) ∧ -1 ≤ k ∧ k ≤ n - 1) → gd_isl g s l i n k (-1) := fun z => ⟨fun _ => rfl, fun q => absurd q z⟩
  refine gw_CI.eq (sp_X12_isSheet s g) rfl (gw_b_tf (fun h => ⟨_, rfl, bad (fun z => h z.1), fun _ _ _ => rfl⟩) (fun h1 => ?_))
  refine gw_CI.eq (sp_X12_isLane l g) rfl (gw_b_tf (fun h => ⟨_, rfl, bad (fun z => h z.2.1), fun _ _ _ => rfl⟩) (fun h2 => ?_))
  refine gw_CI.eq (sp_X12_in n 2 6 g) rfl (gw_b_tf (fun h => ⟨_, rfl, bad (fun z => h z.2.2.1), fun _ _ _ => rfl⟩) (fun h3 => ?_))
  rw [gw_w_id (x := n - 1) (by omega)]
  refine gw_CI.eq (sp_X12_in k (-1) (n - 1) g) rfl (gw_b_tf (fun h => ⟨_, rfl, bad (fun z => h z.2.2.2), fun _ _ _ => rfl⟩) (fun h4 => ?_))
  have ok := And.intro h1 (And.intro h2 (And.intro h3 h4))
  rw [gw_w_id (x := 2 * n) (by omega)]
  refine gw_CI.eq (sp_X12_finds s l i (2 * n) g h1) rfl ⟨fun hfd => ?_, fun hfd => ⟨_, rfl, ⟨fun z => absurd ok z, fun _ => ⟨fun _ => rfl, fun z => absurd z hfd⟩⟩, fun _ _ _ => rfl⟩⟩
  have rg : 0 ≤ i ∧ i + 2 * n ≤ 24 := by
    have hsz := (hJ s h1).2
    unfold gd_fd at hfd
    by_cases c1 : g 138 s < 0
    · rw [if_pos c1] at hfd; omega
    · rw [if_neg c1] at hfd
      by_cases c2 : g 138 s = l
      · rw [if_pos c2] at hfd
        by_cases c3 : 0 ≤ i ∧ i + 2 * n ≤ g 139 s
        · omega
        · rw [if_neg c3] at hfd; omega
      · rw [if_neg c2] at hfd; omega
  rw [gw_w_id (x := 24 * s) (by omega), gw_w_id (x := 24 * s + i) (by omega)]
  obtain ⟨N, hN⟩ := gw_nat (x := n) (by omega)
  have eN : n.toNat = N := by omega
  obtain ⟨cm, hcm⟩ : ∃ cm : Int → Int, cm = fun x : Int => g 140 (24 * s + i + 2 * x) := ⟨_, rfl⟩
  obtain ⟨nd, hnd⟩ : ∃ nd : Int → Int, nd = fun x : Int => g 140 (24 * s + i + 2 * x + 1) := ⟨_, rfl⟩
  have no : ¬ gd_okg cm nd N → gd_isl g s l i n k (-2) := fun z => ⟨fun q => absurd ok q, fun _ => ⟨fun q => absurd hfd (by omega), fun _ => ⟨fun _ => rfl, fun q => absurd (by rw [hcm, hnd, ← eN]; exact q) z⟩⟩⟩
  have yes : gd_okg cm nd N → ∀ b : Nat → Int, gz_bo cm nd N b → gd_isl g s l i n k (if 0 ≤ k then b k.toNat else (gz_wq cm nd b N).2) := fun z b hb => ⟨fun q => absurd ok q, fun _ => ⟨fun q => absurd hfd (by omega), fun _ => ⟨fun q => absurd z (by rw [hcm, hnd, ← eN]; exact q), fun _ => ⟨b, by rw [eN, ← hcm, ← hnd]; exact hb, by rw [eN, ← hcm, ← hnd]⟩⟩⟩⟩
  have ec : ∀ x : Int, g 140 (24 * s + i + 2 * x) = cm x := fun x => by rw [hcm]
  have en : ∀ x : Int, g 140 (24 * s + i + 2 * x + 1) = nd x := fun x => by rw [hnd]
  clear hcm hnd
  -- round the orders
  have orders : gd_okg cm nd N → ∀ (e : Nat) (least more : Int) (q : gw_Mem) (x6 : Int) (y10 y11 y12 y13 y14 : Option gw_SV), (∀ o : Nat, o ≠ 142 → o ≠ 143 → q o = g o) →
      ((more = 0 ∧ gz_bo cm nd N (fun a => q 143 (a : Int)) ∧ least = (gz_wq cm nd (fun a => q 143 (a : Int)) N).2) ∨
       (more = 1 ∧ 46656 ≤ gd_rk (fun a => q 142 (a : Int)) N + e ∧ gd_pm N (fun a => q 142 (a : Int)) ∧ ((least = -1 ∧ ∀ p : Nat → Int, gd_pm N p → gd_rk (fun a => q 142 (a : Int)) N ≤ gd_rk p N) ∨ (gd_pm N (fun a => q 143 (a : Int)) ∧ least = (gz_wq cm nd (fun a => q 143 (a : Int)) N).2 ∧ gd_rk (fun a => q 143 (a : Int)) N < gd_rk (fun a => q 142 (a : Int)) N ∧ ∀ p : Nat → Int, gd_pm N p → gd_rk p N < gd_rk (fun a => q 142 (a : Int)) N → gz_bt cm nd N (fun a => q 143 (a : Int)) p)))) →
      gw_G M_X12_slots 20 (fun r m' => ∃ v, r = some (gI v) ∧ gd_isl g s l i n k v ∧ ∀ o : Nat, o ≠ 142 → o ≠ 143 → m' o = g o) Γ 159 [some (gR 117), some (gI s), some (gI l), some (gI i), some (gI n), some (gI k), some (gI x6), some (gI (24 * s + i)), some (gI least), some (gI more), y10, y11, y12, y13, y14] [] q := by
    intro hg e
    have done : ∀ (least : Int) (q : gw_Mem), (∀ o : Nat, o ≠ 142 → o ≠ 143 → q o = g o) → gz_bo cm nd N (fun a => q 143 (a : Int)) → least = (gz_wq cm nd (fun a => q 143 (a : Int)) N).2 → (0 ≤ k → gw_in k 6) ∧ ∃ v, (some (gI (if 0 ≤ k then q 143 k else least)) : Option gw_SV) = some (gI v) ∧ gd_isl g s l i n k v ∧ ∀ o : Nat, o ≠ 142 → o ≠ 143 → q o = g o := by
      intro least q hq hb hl
      refine ⟨fun hk => gw_inm hk (by omega), _, rfl, ?_, hq⟩
      have y := yes hg _ hb
      rw [hl]
      by_cases hk : 0 ≤ k
      · rw [if_pos hk] at y ⊢
        rwa [Int.toNat_of_nonneg hk] at y
      · rw [if_neg hk] at y ⊢
        exact y
    induction e with
    | zero =>
      intro least more q x6 y10 y11 y12 y13 y14 hq hc
      rcases hc with ⟨rfl, hb, hl⟩ | ⟨_, h46, hpm, _⟩
      · apply r_X12_slots_159
        exact ⟨fun _ => done least q hq hb hl, fun z => absurd rfl z⟩
      · have := gd_rk_rng (n := N) (by omega) (gd_pm_5 (by omega) hpm)
        omega
    | succ e ih =>
      intro least more q x6 y10 y11 y12 y13 y14 hq hc
      rcases hc with ⟨rfl, hb, hl⟩ | ⟨rfl, h46, hpm, hst⟩
      · apply r_X12_slots_159
        exact ⟨fun _ => done least q hq hb hl, fun z => absurd rfl z⟩
      apply r_X12_slots_159
      refine ⟨fun z => absurd z (by omega), fun _ => ?_⟩
      obtain ⟨p, hp⟩ : ∃ p : Nat → Int, p = fun a : Nat => q 142 (a : Int) := ⟨_, rfl⟩
      have pe : ∀ a : Nat, q 142 (a : Int) = p a := fun a => by rw [hp]
      rw [← hp] at hpm hst h46
      have q140 : q 140 = g 140 := hq 140 (by omega) (by omega)
      have wr := fun j (hj : j ≤ N) => gz_wq_rng hg (p := p) j (fun a ha => (hpm a (by omega)).1)
      -- to the next order
      have turn : ∀ (is x10 x11 x12 x13 : Int) (y14 : Option gw_SV) (q2 : gw_Mem), (∀ o : Nat, o ≠ 142 → o ≠ 143 → q2 o = g o) → q2 142 = q 142 → gd_pm N (fun a => q2 143 (a : Int)) → (if x12 = 0 then least else x11) = (gz_wq cm nd (fun a => q2 143 (a : Int)) N).2 → gd_rk (fun a => q2 143 (a : Int)) N ≤ gd_rk p N → (∀ p' : Nat → Int, gd_pm N p' → gd_rk p' N ≤ gd_rk p N → gz_bt cm nd N (fun a => q2 143 (a : Int)) p') →
          gw_G M_X12_slots 20 (fun r m' => ∃ v, r = some (gI v) ∧ gd_isl g s l i n k v ∧ ∀ o : Nat, o ≠ 142 → o ≠ 143 → m' o = g o) Γ 309 [some (gR 117), some (gI s), some (gI l), some (gI i), some (gI n), some (gI k), some (gI x6), some (gI (24 * s + i)), some (gI least), some (gI 1), some (gI x10), some (gI x11), some (gI x12), some (gI x13), y14] [] q2 := by
        intro is x10 x11 x12 x13 y14 q2 f2 e2 b1 b2 b3 b4
        apply r_X12_slots_309
        have e3 : (fun a : Nat => q2 142 (a : Int)) = p := by rw [hp, e2]
        have ht := sp_X12_turns N (by omega) q2 (by rw [e3]; exact hpm)
        rw [← hN] at ht
        refine gw_CI.of ht rfl (fun v m23 _ _ hv => ?_)
        obtain ⟨f3, hv⟩ := hv
        rw [e3] at hv
        have e143 : m23 143 = q2 143 := f3 143 (by omega)
        refine ih _ _ m23 _ _ _ _ _ _ (fun o o1 o2 => by rw [f3 o o1, f2 o o1 o2]) ?_
        rw [e143]
        rcases hv with ⟨rfl, hv⟩ | ⟨rfl, v1, v2, v3⟩
        · exact Or.inl ⟨rfl, ⟨b1, fun x hx => b4 x hx (hv x hx)⟩, b2⟩
        · refine Or.inr ⟨rfl, by omega, v1, Or.inr ⟨b1, b2, by omega, fun x hx hlt => b4 x hx ?_⟩⟩
          refine Classical.byContradiction fun c => ?_
          have := v3 x hx (by omega)
          omega
      -- what is waited by this order
      have sum : ∀ (j x : Nat) (y13 y14 : Option gw_SV), x + j = N → gw_G M_X12_slots 20 (fun r m' => ∃ v, r = some (gI v) ∧ gd_isl g s l i n k v ∧ ∀ o : Nat, o ≠ 142 → o ≠ 143 → m' o = g o) Γ 173 [some (gR 117), some (gI s), some (gI l), some (gI i), some (gI n), some (gI k), some (gI x6), some (gI (24 * s + i)), some (gI least), some (gI 1), some (gI (gz_wq cm nd p x).1), some (gI (gz_wq cm nd p x).2), some (gI (x : Int)), y13, y14] [] q := by
        intro j
        induction j with
        | zero =>
          intro x y13 y14 hx
          have e1 : x = N := by omega
          subst e1
          apply r_X12_slots_173
          refine ⟨fun _ => ?_, fun z => absurd (by omega) z⟩
          have w0 := (wr x (Nat.le_refl _)).2
          -- the best is laid down
          have lay : (least < 0 ∨ ¬ least ≤ (gz_wq cm nd p x).2) → ∀ (j y : Nat) (q2 : gw_Mem), y + j = x → (∀ o : Nat, o ≠ 142 → o ≠ 143 → q2 o = g o) → q2 142 = q 142 → (∀ a : Nat, a < y → q2 143 (a : Int) = p a) → gw_G M_X12_slots 20 (fun r m' => ∃ v, r = some (gI v) ∧ gd_isl g s l i n k v ∧ ∀ o : Nat, o ≠ 142 → o ≠ 143 → m' o = g o) Γ 277 [some (gR 117), some (gI s), some (gI l), some (gI i), some (gI n), some (gI k), some (gI x6), some (gI (24 * s + i)), some (gI least), some (gI 1), some (gI (gz_wq cm nd p x).1), some (gI (gz_wq cm nd p x).2), some (gI 1), some (gI (y : Int)), y14] [] q2 := by
            intro hbt j
            induction j with
            | zero =>
              intro y q2 hy f2 e2 a2
              apply r_X12_slots_277
              refine ⟨fun _ => ?_, fun z => absurd (by omega) z⟩
              have e1 : y = x := by omega
              subst e1
              refine turn 1 _ _ 1 _ _ q2 f2 e2 (gd_pm_congr a2 hpm) ?_ ?_ (fun p' hp' hle => gz_bt_congr a2 ?_)
              · rw [if_neg (by omega), gz_wq_congr a2]
              · rw [gd_rk_congr a2]; exact Int.le_refl _
              · by_cases c : gd_rk p' y = gd_rk p y
                · have eq := gd_rk_eq (by omega) hp' hpm c
                  right
                  exact ⟨by rw [gz_wq_congr eq], by omega⟩
                · rcases hst with ⟨_, hst⟩ | ⟨hpm143, hst1, _, hst2⟩
                  · have := hst p' hp'
                    omega
                  · left
                    have h5 := hst2 p' hp' (by omega)
                    have w1 := (gz_wq_rng hg (p := fun a => q 143 (a : Int)) y (fun a ha => (hpm143 a ha).1)).2
                    unfold gz_bt at h5
                    omega
            | succ j ihj =>
              intro y q2 hy f2 e2 a2
              apply r_X12_slots_277
              refine ⟨fun z => absurd z (by omega), fun _ => ⟨fun z => absurd z (by omega), fun _ => ⟨gw_inm (by omega) (by omega), gw_inm (by omega) (by omega), ?_⟩⟩⟩
              rw [gw_w1 (by omega), e2, pe]
              refine ihj (y + 1) _ (by omega) (fun o o1 o2 => by rw [gw_up_ne o2]; exact f2 o o1 o2) (by rw [gw_up_ne (by omega)]; exact e2) (fun a ha => ?_)
              rw [gw_up_at]
              by_cases c : a = y
              · rw [if_pos (by omega), c]
              · rw [if_neg (by omega)]
                exact a2 a (by omega)
          by_cases c1 : least < 0
          · rw [if_pos c1]
            exact lay (Or.inl c1) x 0 q (by omega) hq rfl (fun a ha => by omega)
          · rw [if_neg c1]
            by_cases c2 : least ≤ (gz_wq cm nd p x).2
            · rw [if_pos c2]
              apply r_X12_slots_277
              refine ⟨fun z => absurd z (by omega), fun _ => ⟨fun _ => ?_, fun z => absurd rfl z⟩⟩
              rcases hst with ⟨hst, _⟩ | ⟨st1, st2, st3, st4⟩
              · omega
              · refine turn 0 _ _ 0 _ _ q hq rfl st1 (by rw [if_pos rfl]; exact st2) (by omega) (fun p' hp' hle => ?_)
                by_cases c : gd_rk p' x = gd_rk p x
                · have eq := gd_rk_eq (by omega) hp' hpm c
                  unfold gz_bt
                  rw [gz_wq_congr eq]
                  omega
                · exact st4 p' hp' (by omega)
            · rw [if_neg c2]
              exact lay (Or.inr c2) x 0 q (by omega) hq rfl (fun a ha => by omega)
        | succ j ihj =>
          intro x y13 y14 hx
          apply r_X12_slots_173
          have px := (hpm x (by omega)).1
          rw [pe, q140, gw_w_id (x := 2 * p x) (by omega), gw_w_id (x := 24 * s + i + 2 * p x) (by omega), gw_w_id (x := 24 * s + i + 2 * p x + 1) (by omega), ec, en, gw_w1 (by omega)]
          have gx := hg (p x) px.1 px.2
          have w0 := wr x (by omega)
          have w1 := wr (x + 1) (by omega)
          have w2 : (1000 + 99 * (x : Int)) * x ≤ 100000 := by
            have h6 : x = 0 ∨ x = 1 ∨ x = 2 ∨ x = 3 ∨ x = 4 ∨ x = 5 := by omega
            rcases h6 with rfl | rfl | rfl | rfl | rfl | rfl <;> decide
          have em : (if cm (p x) ≤ (gz_wq cm nd p x).1 then (gz_wq cm nd p x).1 else cm (p x)) = max (gz_wq cm nd p x).1 (cm (p x)) := by
            split <;> omega
          rw [em, gw_w_id (x := max (gz_wq cm nd p x).1 (cm (p x)) + nd (p x)) (by omega), gw_w_id (x := max (gz_wq cm nd p x).1 (cm (p x)) - cm (p x)) (by omega), gw_w_id (x := (gz_wq cm nd p x).2 + (max (gz_wq cm nd p x).1 (cm (p x)) - cm (p x))) (by omega)]
          refine ⟨fun z => absurd z (by omega), fun _ => ⟨gw_inm (by omega) (by omega), gw_inm (by omega) (by omega), gw_inm (by omega) (by omega), gw_inm (by omega) (by omega), ?_⟩⟩
          exact ihj (x + 1) _ _ (by omega)
      exact sum N 0 _ _ (by omega)
  -- the groups are looked at
  have chk : ∀ (j x : Nat) (q : gw_Mem), x + j = N → (∀ o : Nat, o ≠ 142 → o ≠ 143 → q o = g o) → (∀ a : Nat, a < x → q 142 (a : Int) = a ∧ (0 ≤ cm a ∧ cm a ≤ 999) ∧ 1 ≤ nd a ∧ nd a ≤ 99) → gw_G M_X12_slots 20 (fun r m' => ∃ v, r = some (gI v) ∧ gd_isl g s l i n k v ∧ ∀ o : Nat, o ≠ 142 → o ≠ 143 → m' o = g o) Γ 80 [some (gR 117), some (gI s), some (gI l), some (gI i), some (gI n), some (gI k), some (gI (gd_fd g s l i (2 * n))), some (gI (24 * s + i)), some (gI (x : Int)), none, none, none, none, none, none] [] q := by
    intro j
    induction j with
    | zero =>
      intro x q hx hq ha
      apply r_X12_slots_80
      refine ⟨fun _ => ?_, fun z => absurd (by omega) z⟩
      have hg : gd_okg cm nd N := by
        intro y y0 y1
        have := (ha y.toNat (by omega)).2
        rwa [Int.toNat_of_nonneg y0] at this
      have f1 := gd_first1 (n := N) (by omega)
      have e1 : ∀ a : Nat, a < N → (fun a : Nat => q 142 (a : Int)) a = (fun i : Nat => (i : Int)) a := fun a h => (ha a (by omega)).1
      have pm := gd_pm_congr e1 f1.1
      have rr := gd_rk_rng (n := N) (by omega) (gd_pm_5 (by omega) pm)
      exact orders hg 46656 (-1) 1 q _ _ _ _ _ _ hq (Or.inr ⟨rfl, by omega, pm, Or.inl ⟨rfl, fun p hp => by rw [gd_rk_congr e1]; exact f1.2 p hp⟩⟩)
    | succ j ih =>
      intro x q hx hq ha
      apply r_X12_slots_80
      refine ⟨fun z => absurd z (by omega), fun _ => ?_⟩
      have q140 : q 140 = g 140 := hq 140 (by omega) (by omega)
      rw [gw_w_id (x := 2 * (x : Int)) (by omega), gw_w_id (x := 24 * s + i + 2 * (x : Int)) (by omega), gw_w_id (x := 24 * s + i + 2 * (x : Int) + 1) (by omega), q140, ec, gw_w1 (by omega)]
      refine ⟨gw_inm (by omega) (by omega), gw_CI.eq (sp_X12_in (cm x) 0 999 q) rfl (gw_b_tf (fun h => ⟨_, rfl, no (fun z => h (z x (by omega) (by omega)).1), hq⟩) (fun h5 => ⟨gw_inm (by omega) (by omega), ?_⟩))⟩
      rw [q140, en]
      refine gw_CI.eq (sp_X12_in (nd x) 1 99 q) rfl (gw_b_tf (fun h => ⟨_, rfl, no (fun z => h (z x (by omega) (by omega)).2), hq⟩) (fun h6 => ⟨gw_inm (by omega) (by omega), ?_⟩))
      refine ih (x + 1) _ (by omega) (fun o o1 o2 => by rw [gw_up_ne o1]; exact hq o o1 o2) (fun a h7 => ?_)
      rw [gw_up_at]
      by_cases c : a = x
      · rw [if_pos (by omega), c]
        exact ⟨rfl, h5, h6⟩
      · rw [if_neg (by omega)]
        exact ha a (by omega)
  exact chk N 0 g (by omega) (fun _ _ _ => rfl) (fun a ha => by omega)
