/-! the reference's clauses -/
theorem gz_nu_ne (t : Int → Int) {L p : Int} (lo hi : Int) (h : 0 ≤ p ∧ p ≤ L) : gz_nu t L lo hi (gz_ne t L p) = gz_nu t L lo hi p := by
  unfold gz_nu
  rw [gz_ne_ne t h]
def gz_po (g : gw_Mem) (r : Int → Int) (n : Nat) (c : Int × Int × Int × Int × Int) (m' : gw_Mem) : Prop := ∃ r' : Int → Int, m' = gz_ss g r' (1 - c.1) c.2.1 ∧ (c.1 = 1 → r' (3 * (n : Int)) = c.2.2.1 ∧ r' (3 * (n : Int) + 1) = c.2.2.2.1 ∧ r' (3 * (n : Int) + 2) = c.2.2.2.2) ∧ ∀ j : Int, j < 3 * (n : Int) → r' j = r j
theorem gz_mc_in (t : Int → Int) {L p : Int} (r : Int → Int) (n : Nat) (h : 0 ≤ p ∧ p ≤ L) : (0 ≤ (gz_mc t L r n p).2.1 ∧ (gz_mc t L r n p).2.1 ≤ L) ∧ ((gz_mc t L r n p).1 = 0 ∨ ((gz_mc t L r n p).1 = 1 ∧ (0 ≤ (gz_mc t L r n p).2.2.1 ∧ (gz_mc t L r n p).2.2.1 ≤ 3) ∧ (0 ≤ (gz_mc t L r n p).2.2.2.1 ∧ (gz_mc t L r n p).2.2.2.1 ≤ 99) ∧ (gd_lo (gz_mc t L r n p).2.2.1 ≤ (gz_mc t L r n p).2.2.2.2 ∧ (gz_mc t L r n p).2.2.2.2 ≤ gd_hi (gz_mc t L r n p).2.2.1) ∧ gz_tk r (gz_mc t L r n p).2.2.1 (gz_mc t L r n p).2.2.2.1 n = 0)) := by
  obtain ⟨c, hc⟩ : ∃ c, c = gz_mc t L r n p := ⟨_, rfl⟩
  rw [← hc]
  unfold gz_mc at hc
  have a1 := gz_ne_in t h
  have a2 := gz_kd_in (gz_by t L (gz_ne t L p)) 115 108 119 116
  by_cases c1 : gz_kd (gz_by t L (gz_ne t L p)) 115 108 119 116 < 0
  · rw [if_pos c1] at hc
    subst hc
    exact ⟨by dsimp only; omega, Or.inl rfl⟩
  · rw [if_neg c1] at hc
    have b1 : gz_by t L (gz_ne t L p) ≠ 0 := by
      rcases a2 with a2 | a2
      · omega
      · exact a2.2.2
    have b2 := gz_by_lt b1
    generalize gz_kd (gz_by t L (gz_ne t L p)) 115 108 119 116 = KD at *
    generalize gz_ne t L p = P1 at *
    have a3 := gz_nu_in t (L := L) (lo := 0) (hi := 99) (p := P1 + 1) (by omega)
    have a4 := gz_ne_in t (L := L) (p := P1 + 1) (by omega)
    generalize gz_nu t L 0 99 (P1 + 1) = NU at *
    by_cases c2 : NU.1 = 0
    · rw [if_pos c2] at hc
      subst hc
      exact ⟨by dsimp only; omega, Or.inl rfl⟩
    · rw [if_neg c2] at hc
      by_cases c3 : gz_tk r KD NU.2.2 n = 1
      · rw [if_pos c3] at hc
        subst hc
        exact ⟨by dsimp only; omega, Or.inl rfl⟩
      · rw [if_neg c3] at hc
        have a5 := gz_ne_in t (L := L) (p := NU.2.1) (by omega)
        generalize gz_ne t L NU.2.1 = Q at *
        by_cases c4 : gz_by t L Q ≠ 58
        · rw [if_pos c4] at hc
          subst hc
          exact ⟨by dsimp only; omega, Or.inl rfl⟩
        · rw [if_neg c4] at hc
          have b3 := gz_by_lt (t := t) (L := L) (p := Q) (by omega)
          have a6 := gz_nu_in t (L := L) (lo := gd_lo KD) (hi := gd_hi KD) (p := Q + 1) (by omega)
          generalize gz_nu t L (gd_lo KD) (gd_hi KD) (Q + 1) = N2 at *
          subst hc
          dsimp only
          have tk := (gz_tk_iff r KD NU.2.2 n).1
          refine ⟨by omega, ?_⟩
          rcases a6.2 with ⟨d1, d2, d3⟩ | ⟨d1, d2⟩
          · right
            exact ⟨d1, by omega, by omega, ⟨d2, d3⟩, by omega⟩
          · exact Or.inl d1
theorem sp_X12_markClause (t : Int → Int) (L : Int) (g : gw_Mem) (hT : gz_tp t L g) (r : Int → Int) (p : Int) (hp : 0 ≤ p ∧ p ≤ L) (n : Nat) (hn : n < 8) : gw_SpecV M_X12_markClause 14 [gR 117, gI (n : Int)] (gz_ss g r 0 p) (fun m' => gz_po g r n (gz_mc t L r n p) m') := by
  refine gw_intro pl_X12_markClause rfl (fun Γ => ?_)
  obtain ⟨c, hc⟩ : ∃ c, c = gz_mc t L r n p := ⟨_, rfl⟩
  rw [← hc]
  unfold gz_mc at hc
  have hL := hT.2.1
  have a1 := gz_ne_in t hp
  have e3 : gw_w (3 * (n : Int)) = 3 * (n : Int) := gw_w_id (by omega)
  -- a wrong one ends
  have w93 : ∀ (q x2 x3 x4 x5 : Int), 0 ≤ q ∧ q ≤ L → c.1 = 0 → c.2.1 = q → gw_G M_X12_markClause 14 (fun v m' => v = none ∧ gz_po g r n c m') Γ 93 [some (gR 117), some (gI (n : Int)), some (gI x2), some (gI x3), some (gI x4), some (gI x5)] [] (gz_ss g r 1 q) := by
    intro q x2 x3 x4 x5 hq h1 h2
    apply r_X12_markClause_93
    rw [e3, gw_w_id (x := 3 * (n : Int) + 1) (by omega), gw_w_id (x := 3 * (n : Int) + 2) (by omega)]
    refine gw_CI.eq (sp_X12_has1 L g r q hq hL.2 58) rfl ⟨gw_inm (by omega) (by omega), gw_inm (by omega) (by omega), ?_⟩
    rw [if_pos rfl, gz_ss_u14, gz_ss_u128, gz_ss_u128]
    refine gw_CI.eq (sp_X12_number1 g _ q _ _) rfl ⟨gw_inm (by omega) (by omega), rfl, ?_⟩
    rw [gz_ss_u128]
    refine ⟨_, by rw [h1, h2]; rfl, fun z => by omega, fun j hj => ?_⟩
    try dsimp only
    rw [if_neg (by omega), if_neg (by omega), if_neg (by omega)]
  have w35 : ∀ (q x2 x3 x4 x5 : Int), 0 ≤ q ∧ q ≤ L → c.1 = 0 → c.2.1 = q → gw_G M_X12_markClause 14 (fun v m' => v = none ∧ gz_po g r n c m') Γ 35 [some (gR 117), some (gI (n : Int)), some (gI x2), some (gI x3), some (gI x4), some (gI x5)] [] (gz_ss g r 1 q) := by
    intro q x2 x3 x4 x5 hq h1 h2
    apply r_X12_markClause_35
    rw [gz_ss_14]
    exact ⟨fun _ => w93 q x2 x3 x4 x5 hq h1 h2, fun _ => ⟨fun z => absurd z (by omega), fun _ => w93 q x2 x3 x4 x5 hq h1 h2⟩⟩
  apply r_X12_markClause_0
  refine gw_CI.eq (sp_X12_letter0 t L g hT r p hp 115 108 119 116) rfl ?_
  have a2 := gz_kd_in (gz_by t L (gz_ne t L p)) 115 108 119 116
  have np := gz_ne_ne t hp
  by_cases c1 : gz_kd (gz_by t L (gz_ne t L p)) 115 108 119 116 < 0
  · rw [if_pos c1] at hc ⊢
    generalize gz_ne t L p = P1 at *
    refine gw_CI.eq (sp_X12_here t L g hT r 1 P1 a1.1) rfl ?_
    rw [np]
    refine gw_CI.eq (sp_X12_number1 g r P1 0 99) rfl ?_
    exact w35 P1 _ _ _ _ a1.1 (by rw [hc]) (by rw [hc])
  · rw [if_neg c1] at hc ⊢
    have b1 : gz_by t L (gz_ne t L p) ≠ 0 := by
      rcases a2 with a2 | a2
      · omega
      · exact a2.2.2
    have b2 := gz_by_lt b1
    generalize gz_kd (gz_by t L (gz_ne t L p)) 115 108 119 116 = KD at *
    generalize gz_ne t L p = P1 at *
    have hp1 : 0 ≤ P1 + 1 ∧ P1 + 1 ≤ L := by omega
    have a4 := gz_ne_in t hp1
    refine gw_CI.eq (sp_X12_here t L g hT r 0 (P1 + 1) hp1) rfl ?_
    rw [gz_ss_13]
    have nu := sp_X12_number0 t L g hT r (gz_ne t L (P1 + 1)) a4.1 0 99
    rw [gz_nu_ne t 0 99 hp1] at nu
    have a3 := gz_nu_in t (L := L) (lo := 0) (hi := 99) (p := P1 + 1) hp1
    generalize gz_nu t L 0 99 (P1 + 1) = NU at *
    refine gw_CI.of nu rfl (fun v7 m8 _ _ hv => ?_)
    obtain ⟨hv, rfl⟩ := hv
    by_cases c2 : NU.1 = 0
    · rw [if_pos c2] at hc
      rw [c2]
      exact w35 NU.2.1 _ _ _ _ a3.1 (by rw [hc]) (by rw [hc])
    · rw [if_neg c2] at hc
      have c21 : NU.1 = 1 := by omega
      rw [c21]
      have ev := hv c21
      subst ev
      have k93 : ∀ (x3 x5 : Int), ¬ gz_tk r KD NU.2.2 n = 1 → gw_G M_X12_markClause 14 (fun v m' => v = none ∧ gz_po g r n c m') Γ 93 [some (gR 117), some (gI (n : Int)), some (gI KD), some (gI x3), some (gI NU.2.2), some (gI x5)] [] (gz_ss g r 0 NU.2.1) := by
        intro x3 x5 c3
        rw [if_neg c3] at hc
        apply r_X12_markClause_93
        rw [e3, gw_w_id (x := 3 * (n : Int) + 1) (by omega), gw_w_id (x := 3 * (n : Int) + 2) (by omega)]
        have a5 := gz_ne_in t (L := L) (p := NU.2.1) a3.1
        refine gw_CI.eq (sp_X12_has0 t L g hT r NU.2.1 a3.1 58) rfl ⟨gw_inm (by omega) (by omega), gw_inm (by omega) (by omega), ?_⟩
        generalize gz_ne t L NU.2.1 = Q at *
        by_cases c4 : gz_by t L Q = 58
        · rw [if_neg (fun z => z c4)] at hc
          rw [if_pos c4, if_neg (show ¬ ((1 : Int) = 0) by omega), gz_ss_u14, gz_ss_u128, gz_ss_u128]
          have b3 := gz_by_lt (t := t) (L := L) (p := Q) (by omega)
          have n2 := sp_X12_number0 t L g hT (fun j => if j = 3 * (n : Int) + 1 then NU.2.2 else (fun j => if j = 3 * (n : Int) then KD else r j) j) (Q + 1) (by omega) (gd_lo KD) (gd_hi KD)
          have a6 := gz_nu_in t (L := L) (lo := gd_lo KD) (hi := gd_hi KD) (p := Q + 1) (by omega)
          generalize gz_nu t L (gd_lo KD) (gd_hi KD) (Q + 1) = N2 at *
          refine gw_CI.of n2 rfl (fun v13 m14 _ _ h13 => ?_)
          obtain ⟨h13, rfl⟩ := h13
          refine ⟨gw_inm (by omega) (by omega), rfl, ?_⟩
          rw [gz_ss_u128]
          refine ⟨_, by rw [hc], fun z => ?_, fun j hj => ?_⟩
          · rw [hc] at z ⊢
            dsimp only at z ⊢
            rw [if_neg (show ¬ (3 * (n : Int) = 3 * (n : Int) + 2) by omega), if_neg (show ¬ (3 * (n : Int) = 3 * (n : Int) + 1) by omega), if_pos rfl, if_neg (show ¬ (3 * (n : Int) + 1 = 3 * (n : Int) + 2) by omega), if_pos rfl, if_pos rfl]
            exact ⟨rfl, rfl, h13 z⟩
          · dsimp only
            rw [if_neg (by omega), if_neg (by omega), if_neg (by omega)]
        · rw [if_pos c4] at hc
          rw [if_neg c4, if_pos rfl, gz_ss_u14, gz_ss_u128, gz_ss_u128, Int.add_zero]
          refine gw_CI.eq (sp_X12_number1 g _ Q _ _) rfl ⟨gw_inm (by omega) (by omega), rfl, ?_⟩
          rw [gz_ss_u128]
          refine ⟨_, by rw [hc]; rfl, fun z => by rw [hc] at z; exact absurd z (by show ¬ ((0 : Int) = 1); omega), fun j hj => ?_⟩
          try dsimp only
          rw [if_neg (by omega), if_neg (by omega), if_neg (by omega)]
      have tki := gz_tk_iff r KD NU.2.2 n
      have loop : ∀ (j k : Nat), k + j = n → (∀ x : Nat, x < k → ¬ (r (3 * (x : Int)) = KD ∧ r (3 * (x : Int) + 1) = NU.2.2)) → gw_G M_X12_markClause 14 (fun v m' => v = none ∧ gz_po g r n c m') Γ 35 [some (gR 117), some (gI (n : Int)), some (gI KD), some (gI (gz_ne t L (P1 + 1))), some (gI NU.2.2), some (gI (k : Int))] [] (gz_ss g r 0 NU.2.1) := by
        intro j
        induction j with
        | zero =>
          intro k hk hno
          apply r_X12_markClause_35
          refine ⟨fun _ => k93 _ _ (fun z => ?_), fun z => absurd (by omega) z⟩
          obtain ⟨x, hx, hx2⟩ := tki.2.mp z
          exact hno x (by omega) hx2
        | succ j ih =>
          intro k hk hno
          apply r_X12_markClause_35
          rw [gz_ss_14, gz_ss_128, gw_w_id (x := 3 * (k : Int)) (by omega), gw_w_id (x := 3 * (k : Int) + 1) (by omega), gz_ss_u14, gz_ss_u13]
          have nxt : ¬ (r (3 * (k : Int)) = KD ∧ r (3 * (k : Int) + 1) = NU.2.2) → gw_G M_X12_markClause 14 (fun v m' => v = none ∧ gz_po g r n c m') Γ 87 [some (gR 117), some (gI (n : Int)), some (gI KD), some (gI (gz_ne t L (P1 + 1))), some (gI NU.2.2), some (gI (k : Int))] [] (gz_ss g r 0 NU.2.1) := by
            intro hk2
            apply r_X12_markClause_87
            rw [gw_w1 (by omega)]
            refine ih (k + 1) (by omega) (fun x hx => ?_)
            by_cases e : x = k
            · rw [e]; exact hk2
            · exact hno x (by omega)
          refine ⟨fun z => absurd z (by omega), fun _ => ⟨fun _ => ⟨gw_inm (by omega) (by omega), fun z1 => ⟨gw_inm (by omega) (by omega), fun z2 => ?_, fun z2 => nxt (fun z => z2 z.2)⟩, fun z1 => nxt (fun z => z1 z.1)⟩, fun z => absurd rfl z⟩⟩
          have c3 := tki.2.mpr ⟨k, by omega, z1, z2⟩
          rw [if_pos c3] at hc
          apply r_X12_markClause_87
          exact w35 _ _ _ _ _ a4.1 (by rw [hc]) (by rw [hc])
      exact loop n 0 (by omega) (fun x hx => by omega)
theorem gz_pc_in (t : Int → Int) {L p : Int} (r : Int → Int) (n : Nat) (h : 0 ≤ p ∧ p ≤ L) : (0 ≤ (gz_pc t L r n p).2.1 ∧ (gz_pc t L r n p).2.1 ≤ L) ∧ ((gz_pc t L r n p).1 = 0 ∨ ((gz_pc t L r n p).1 = 1 ∧ (0 ≤ (gz_pc t L r n p).2.2.1 ∧ (gz_pc t L r n p).2.2.1 ≤ 3) ∧ (1 ≤ (gz_pc t L r n p).2.2.2.1 ∧ (gz_pc t L r n p).2.2.2.1 ≤ 4) ∧ gw_b (gz_pc t L r n p).2.2.2.2 ∧ ¬ ((gz_pc t L r n p).2.2.1 = 3 ∧ gz_tt r n = 1))) := by
  obtain ⟨c, hc⟩ : ∃ c, c = gz_pc t L r n p := ⟨_, rfl⟩
  rw [← hc]
  unfold gz_pc at hc
  have a1 := gz_ne_in t h
  have a2 := gz_kd_in (gz_by t L (gz_ne t L p)) 112 108 111 116
  by_cases c1 : gz_kd (gz_by t L (gz_ne t L p)) 112 108 111 116 < 0
  · rw [if_pos c1] at hc
    subst hc
    exact ⟨by dsimp only; omega, Or.inl rfl⟩
  · rw [if_neg c1] at hc
    have b1 : gz_by t L (gz_ne t L p) ≠ 0 := by
      rcases a2 with a2 | a2
      · omega
      · exact a2.2.2
    have b2 := gz_by_lt b1
    generalize gz_kd (gz_by t L (gz_ne t L p)) 112 108 111 116 = KD at *
    generalize gz_ne t L p = P1 at *
    by_cases c2 : KD = 3 ∧ gz_tt r n = 1
    · rw [if_pos c2] at hc
      subst hc
      exact ⟨by dsimp only; omega, Or.inl rfl⟩
    · rw [if_neg c2] at hc
      have a4 := gz_ne_in t (L := L) (p := P1 + 1) (by omega)
      generalize gz_ne t L (P1 + 1) = P2 at *
      by_cases c3 : 49 ≤ gz_by t L P2 ∧ gz_by t L P2 ≤ 52
      · rw [if_pos c3] at hc
        have b3 := gz_by_lt (t := t) (L := L) (p := P2) (by omega)
        have a5 := gz_ne_in t (L := L) (p := P2 + 1) (by omega)
        generalize gz_ne t L (P2 + 1) = P3 at *
        subst hc
        dsimp only
        by_cases c4 : gz_by t L P3 = 101
        · have b4 := gz_by_lt (t := t) (L := L) (p := P3) (by omega)
          rw [if_pos c4]
          exact ⟨by omega, Or.inr ⟨rfl, by omega, by omega, Or.inr rfl, c2⟩⟩
        · rw [if_neg c4]
          exact ⟨by omega, Or.inr ⟨rfl, by omega, by omega, Or.inl rfl, c2⟩⟩
      · rw [if_neg c3] at hc
        subst hc
        exact ⟨by dsimp only; omega, Or.inl rfl⟩
theorem sp_X12_personClause (t : Int → Int) (L : Int) (g : gw_Mem) (hT : gz_tp t L g) (r : Int → Int) (p : Int) (hp : 0 ≤ p ∧ p ≤ L) (n : Nat) (hn : n < 10) : gw_SpecV M_X12_personClause 14 [gR 117, gI (n : Int)] (gz_ss g r 0 p) (fun m' => gz_po g r n (gz_pc t L r n p) m') := by
  refine gw_intro pl_X12_personClause rfl (fun Γ => ?_)
  obtain ⟨c, hc⟩ : ∃ c, c = gz_pc t L r n p := ⟨_, rfl⟩
  rw [← hc]
  unfold gz_pc at hc
  have hL := hT.2.1
  have a1 := gz_ne_in t hp
  have e3 : gw_w (3 * (n : Int)) = 3 * (n : Int) := gw_w_id (by omega)
  -- a wrong one ends
  have w118 : ∀ (q x2 x3 x4 : Int) (w0 : Int), 0 ≤ q ∧ q ≤ L → c.1 = 0 → c.2.1 = q → gw_G M_X12_personClause 14 (fun v m' => v = none ∧ gz_po g r n c m') Γ 118 [some (gR 117), some (gI (n : Int)), some (gI x2), some (gI x3), some (gI x4)] [gI 1, gR 117] (gz_ss g r w0 q) := by
    intro q x2 x3 x4 w0 hq h1 h2
    apply r_X12_personClause_118
    rw [gz_ss_u14, gz_ss_14, gz_ss_13, gz_ss_u13, e3, gw_w_id (x := 3 * (n : Int) + 1) (by omega), gw_w_id (x := 3 * (n : Int) + 2) (by omega), if_neg (show ¬ ((1 : Int) = 0) by omega), Int.add_zero, gw_w_id (x := q) (by omega), gz_ss_u128, gz_ss_u128]
    refine ⟨Or.inr rfl, gw_inm (by omega) (by omega), gw_inm (by omega) (by omega), ?_⟩
    refine gw_CI.eq (sp_X12_has1 L g _ q hq hL.2 101) rfl ⟨gw_inm (by omega) (by omega), rfl, ?_⟩
    rw [gz_ss_u128]
    refine ⟨_, by rw [h1, h2]; rfl, fun z => by omega, fun j hj => ?_⟩
    try dsimp only
    rw [if_neg (by omega), if_neg (by omega), if_neg (by omega)]
  have w73 : ∀ (q x2 x3 x4 : Int), 0 ≤ q ∧ q ≤ L → c.1 = 0 → c.2.1 = q → gw_G M_X12_personClause 14 (fun v m' => v = none ∧ gz_po g r n c m') Γ 73 [some (gR 117), some (gI (n : Int)), some (gI x2), some (gI x3), some (gI x4)] [] (gz_ss g r 1 q) := by
    intro q x2 x3 x4 hq h1 h2
    apply r_X12_personClause_73
    rw [gz_ss_14]
    refine ⟨fun z => absurd z (by omega), fun _ => ?_⟩
    apply r_X12_personClause_88
    rw [gz_ss_14]
    exact ⟨fun z => absurd z (by omega), fun _ => w118 q _ _ _ 1 hq h1 h2⟩
  have w26 : ∀ (q x2 x3 x4 : Int), 0 ≤ q ∧ q ≤ L → c.1 = 0 → c.2.1 = q → gw_G M_X12_personClause 14 (fun v m' => v = none ∧ gz_po g r n c m') Γ 26 [some (gR 117), some (gI (n : Int)), some (gI x2), some (gI x3), some (gI x4)] [] (gz_ss g r 1 q) := by
    intro q x2 x3 x4 hq h1 h2
    apply r_X12_personClause_26
    rw [gz_ss_14]
    exact ⟨fun _ => w73 q _ _ _ hq h1 h2, fun _ => ⟨fun z => absurd z (by omega), fun _ => w73 q _ _ _ hq h1 h2⟩⟩
  apply r_X12_personClause_0
  have np := gz_ne_ne t hp
  refine gw_CI.eq (sp_X12_here t L g hT r 0 p hp) rfl ?_
  have lt := sp_X12_letter0 t L g hT r (gz_ne t L p) a1.1 112 108 111 116
  rw [np] at lt
  refine gw_CI.eq lt rfl ?_
  rw [gz_ss_13]
  have a2 := gz_kd_in (gz_by t L (gz_ne t L p)) 112 108 111 116
  by_cases c1 : gz_kd (gz_by t L (gz_ne t L p)) 112 108 111 116 < 0
  · rw [if_pos c1] at hc ⊢
    exact w26 _ _ _ _ a1.1 (by rw [hc]) (by rw [hc])
  · rw [if_neg c1] at hc ⊢
    have b1 : gz_by t L (gz_ne t L p) ≠ 0 := by
      rcases a2 with a2 | a2
      · omega
      · exact a2.2.2
    have b2 := gz_by_lt b1
    generalize gz_kd (gz_by t L (gz_ne t L p)) 112 108 111 116 = KD at *
    generalize gz_ne t L p = P1 at *
    have hp1 : 0 ≤ P1 + 1 ∧ P1 + 1 ≤ L := by omega
    have a4 := gz_ne_in t hp1
    have k73 : ∀ x4 : Int, ¬ (KD = 3 ∧ gz_tt r n = 1) → gw_G M_X12_personClause 14 (fun v m' => v = none ∧ gz_po g r n c m') Γ 73 [some (gR 117), some (gI (n : Int)), some (gI P1), some (gI KD), some (gI x4)] [] (gz_ss g r 0 (P1 + 1)) := by
      intro x4 c2
      rw [if_neg c2] at hc
      apply r_X12_personClause_73
      rw [gz_ss_14]
      refine ⟨fun _ => gw_CI.eq (sp_X12_here t L g hT r 0 (P1 + 1) hp1) rfl ?_, fun z => absurd rfl z⟩
      apply r_X12_personClause_88
      rw [gz_ss_14]
      refine ⟨fun _ => gw_CI.eq (sp_X12_in _ 49 52 _) rfl ?_, fun z => absurd rfl z⟩
      generalize gz_ne t L (P1 + 1) = P2 at *
      by_cases c3 : 49 ≤ gz_by t L P2 ∧ gz_by t L P2 ≤ 52
      · rw [if_pos c3] at hc
        have e0 : gw_tf (49 ≤ gz_by t L P2 ∧ gz_by t L P2 ≤ 52) = 1 := by unfold gw_tf; rw [if_pos c3]
        rw [e0, if_neg (show ¬ ((1 : Int) = 0) by omega)]
        have b3 := gz_by_lt (t := t) (L := L) (p := P2) (by omega)
        apply r_X12_personClause_118
        rw [gz_ss_u14, gz_ss_14, gz_ss_13, gz_ss_u13, e3, gw_w_id (x := 3 * (n : Int) + 1) (by omega), gw_w_id (x := 3 * (n : Int) + 2) (by omega), if_pos rfl, gw_w_id (x := P2 + 1) (by omega), gz_ss_u128, gz_ss_u128, gw_w_id (x := gz_by t L P2 - 48) (by omega)]
        refine ⟨Or.inl rfl, gw_inm (by omega) (by omega), gw_inm (by omega) (by omega), ?_⟩
        refine gw_CI.eq (sp_X12_has0 t L g hT _ (P2 + 1) (by omega) 101) rfl ⟨gw_inm (by omega) (by omega), rfl, ?_⟩
        rw [gz_ss_u128]
        generalize gz_ne t L (P2 + 1) = P3 at *
        refine ⟨_, by rw [hc]; rfl, fun z => ?_, fun j hj => ?_⟩
        · rw [hc]
          dsimp only
          rw [if_neg (show ¬ (3 * (n : Int) = 3 * (n : Int) + 2) by omega), if_neg (show ¬ (3 * (n : Int) = 3 * (n : Int) + 1) by omega), if_pos rfl, if_neg (show ¬ (3 * (n : Int) + 1 = 3 * (n : Int) + 2) by omega), if_pos rfl, if_pos rfl]
          refine ⟨rfl, rfl, ?_⟩
          by_cases c4 : gz_by t L P3 = 101
          · rw [if_pos c4, if_neg (by omega)]
          · rw [if_neg c4, if_pos rfl]
        · (try dsimp only)
          rw [if_neg (by omega), if_neg (by omega), if_neg (by omega)]
      · rw [if_neg c3] at hc
        have e0 : gw_tf (49 ≤ gz_by t L P2 ∧ gz_by t L P2 ≤ 52) = 0 := by unfold gw_tf; rw [if_neg c3]
        rw [e0, if_pos rfl]
        exact w118 P2 _ _ _ 0 a4.1 (by rw [hc]) (by rw [hc])
    have tti := gz_tt_iff r n
    have loop : ∀ (j k : Nat), k + j = n → (KD = 3 → ∀ x : Nat, x < k → ¬ r (3 * (x : Int)) = 3) → gw_G M_X12_personClause 14 (fun v m' => v = none ∧ gz_po g r n c m') Γ 26 [some (gR 117), some (gI (n : Int)), some (gI P1), some (gI KD), some (gI (k : Int))] [] (gz_ss g r 0 (P1 + 1)) := by
      intro j
      induction j with
      | zero =>
        intro k hk hno
        apply r_X12_personClause_26
        refine ⟨fun _ => k73 _ (fun z => ?_), fun z => absurd (by omega) z⟩
        obtain ⟨x, hx, hx2⟩ := tti.2.mp z.2
        exact hno z.1 x (by omega) hx2
      | succ j ih =>
        intro k hk hno
        apply r_X12_personClause_26
        rw [gz_ss_14, gz_ss_128, gw_w_id (x := 3 * (k : Int)) (by omega), gz_ss_u14, gz_ss_u13]
        have nxt : (KD = 3 → ¬ r (3 * (k : Int)) = 3) → gw_G M_X12_personClause 14 (fun v m' => v = none ∧ gz_po g r n c m') Γ 67 [some (gR 117), some (gI (n : Int)), some (gI P1), some (gI KD), some (gI (k : Int))] [] (gz_ss g r 0 (P1 + 1)) := by
          intro hk2
          apply r_X12_personClause_67
          rw [gw_w1 (by omega)]
          refine ih (k + 1) (by omega) (fun h3 x hx => ?_)
          by_cases e : x = k
          · rw [e]; exact hk2 h3
          · exact hno h3 x (by omega)
        refine ⟨fun z => absurd z (by omega), fun _ => ⟨fun _ => ⟨fun z1 => ⟨gw_inm (by omega) (by omega), fun z2 => ?_, fun z2 => nxt (fun _ => z2)⟩, fun z1 => nxt (fun z => absurd z z1)⟩, fun z => absurd rfl z⟩⟩
        have c2 : KD = 3 ∧ gz_tt r n = 1 := ⟨z1, tti.2.mpr ⟨k, by omega, z2⟩⟩
        rw [if_pos c2] at hc
        apply r_X12_personClause_67
        exact w26 _ _ _ _ a1.1 (by rw [hc]) (by rw [hc])
    exact loop n 0 (by omega) (fun _ x hx => by omega)
