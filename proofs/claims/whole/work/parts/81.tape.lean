/-! the class reads a text: bytes, numbers, letters -/
def gz_tc (t : Int → Int) (L : Int) (m : gw_Mem) : Prop := m 46 1 = L ∧ (0 ≤ L ∧ L ≤ 80) ∧ ∀ j : Int, 0 ≤ j → j < L → m 47 j = t j ∧ 32 ≤ t j ∧ t j ≤ 126
/-- only where it is has changed -/
def gz_h (m m' : gw_Mem) : Prop := (∀ o : Nat, o ≠ 46 → m' o = m o) ∧ m' 46 1 = m 46 1
theorem gz_h_rf (m : gw_Mem) : gz_h m m := ⟨fun _ _ => rfl, rfl⟩
theorem gz_h_tr {a b c : gw_Mem} (h : gz_h a b) (h' : gz_h b c) : gz_h a c := ⟨fun o ho => by rw [h'.1 o ho, h.1 o ho], by rw [h'.2, h.2]⟩
theorem gz_h_tc {t : Int → Int} {L : Int} {m m' : gw_Mem} (h : gz_h m m') (hT : gz_tc t L m) : gz_tc t L m' := ⟨by rw [h.2]; exact hT.1, hT.2.1, fun j h0 h1 => by rw [h.1 47 (by omega)]; exact hT.2.2 j h0 h1⟩
theorem gz_h_u2 (m : gw_Mem) (x : Int) : gz_h m (gw_up m 46 2 x) ∧ gw_up m 46 2 x 46 2 = x ∧ gw_up m 46 2 x 46 3 = m 46 3 := ⟨⟨fun o ho => by rw [gw_up_ne ho], by rw [gw_up_at, if_neg (by omega)]⟩, by rw [gw_up_at, if_pos rfl], by rw [gw_up_at, if_neg (by omega)]⟩
theorem gz_h_u3 (m : gw_Mem) (x : Int) : gz_h m (gw_up m 46 3 x) ∧ gw_up m 46 3 x 46 2 = m 46 2 ∧ gw_up m 46 3 x 46 3 = x := ⟨⟨fun o ho => by rw [gw_up_ne ho], by rw [gw_up_at, if_neg (by omega)]⟩, by rw [gw_up_at, if_neg (by omega)], by rw [gw_up_at, if_pos rfl]⟩
theorem sp_X9_next (t : Int → Int) (L p : Int) (m : gw_Mem) (hT : gz_tc t L m) (hp : m 46 2 = p) (h : 0 ≤ p ∧ p ≤ L) : gw_SpecI M_X9_next 10 [gR 46] m (fun v m' => v = (if L ≤ gz_ne t L p then -1 else t (gz_ne t L p)) ∧ gz_h m m' ∧ m' 46 2 = gz_ne t L p ∧ m' 46 3 = m 46 3) := by
  refine gw_intro pl_X9_next rfl (fun Γ => ?_)
  have key : ∀ (n : Nat) (x : Int) (u : gw_Mem), 0 ≤ x → L - x = n → gz_h m u → u 46 2 = x → u 46 3 = m 46 3 → gz_ne t L x = gz_ne t L p → gw_G M_X9_next 10 (fun r m' => ∃ v, r = some (gI v) ∧ v = (if L ≤ gz_ne t L p then -1 else t (gz_ne t L p)) ∧ gz_h m m' ∧ m' 46 2 = gz_ne t L p ∧ m' 46 3 = m 46 3) Γ 0 [some (gR 46)] [] u := by
    intro n
    induction n with
    | zero =>
      intro x u h0 h1 hu h2 h3 he
      have hT' := gz_h_tc hu hT
      apply r_X9_next_0
      rw [hT'.1, h2]
      refine ⟨fun _ => ?_, fun z => absurd (by omega) z⟩
      apply r_X9_next_38
      rw [hT'.1, h2]
      have e0 : gz_ne t L p = x := by rw [← he, gz_ne_0 (by omega)]
      exact ⟨fun z => absurd (by omega) z, _, rfl, by rw [e0, if_pos (by omega), if_pos (by omega)], hu, e0.symm, h3⟩
    | succ n ih =>
      intro x u h0 h1 hu h2 h3 he
      have hT' := gz_h_tc hu hT
      apply r_X9_next_0
      have hL := hT.2.1
      have tx := hT'.2.2 x h0 (by omega)
      rw [hT'.1, h2, tx.1]
      refine ⟨fun z => absurd z (by omega), fun _ => ⟨gw_inm h0 (by omega), fun hb => ?_, fun hb => ?_⟩⟩
      · have q := gz_h_u2 u (gw_w (x + 1))
        rw [gw_w_id (x := x + 1) (by omega)] at q ⊢
        exact ih (x + 1) _ (by omega) (by omega) (gz_h_tr hu q.1) q.2.1 (by rw [q.2.2]; exact h3) (by rw [← he, ← gz_ne_1 (by omega) hb])
      · apply r_X9_next_38
        rw [hT'.1, h2, tx.1]
        have e0 : gz_ne t L p = x := by rw [← he, gz_ne_2 hb]
        exact ⟨fun _ => gw_inm h0 (by omega), _, rfl, by rw [e0, if_neg (by omega)], hu, e0.symm, h3⟩
  exact key (L - p).toNat p m h.1 (by omega) (gz_h_rf m) hp rfl rfl
theorem gz_nx {t : Int → Int} {L p c : Int} (hc : c ≠ -1) (hc0 : c ≠ 0) : (if L ≤ gz_ne t L p then -1 else t (gz_ne t L p)) = c ↔ gz_by t L (gz_ne t L p) = c := by
  unfold gz_by
  by_cases h : L ≤ gz_ne t L p
  · rw [if_pos h, if_pos h]
    exact ⟨fun z => absurd z.symm hc, fun z => absurd z.symm hc0⟩
  · rw [if_neg h, if_neg h]
theorem sp_X9_passes (t : Int → Int) (L p c : Int) (hc : c ≠ -1) (hc0 : c ≠ 0) (m : gw_Mem) (hT : gz_tc t L m) (hp : m 46 2 = p) (h : 0 ≤ p ∧ p ≤ L) : gw_SpecI M_X9_passes 11 [gR 46, gI c] m (fun v m' => v = (if gz_by t L (gz_ne t L p) = c then 1 else 0) ∧ gz_h m m' ∧ m' 46 2 = gz_ne t L p + (if gz_by t L (gz_ne t L p) = c then 1 else 0)) := by
  refine gw_intro pl_X9_passes rfl (fun Γ => ?_)
  apply r_X9_passes_0
  have hL := hT.2.1
  have a := gz_ne_in t h
  refine gw_CI.of (sp_X9_next t L p m hT hp h) rfl (fun v1 m2 _ _ hv => ?_)
  obtain ⟨rfl, h1, h2, h3⟩ := hv
  refine ⟨fun z => ?_, fun z => ?_⟩
  · rw [gz_nx hc hc0] at z
    rw [if_pos z, h2, gw_w_id (x := gz_ne t L p + 1) (by omega)]
    have q := gz_h_u2 m2 (gz_ne t L p + 1)
    exact ⟨1, rfl, rfl, gz_h_tr h1 q.1, q.2.1⟩
  · rw [gz_nx hc hc0] at z
    rw [if_neg z]
    exact ⟨0, rfl, rfl, h1, by omega⟩
/-- the four letters of a text constant -/
def gz_l4 (o : Nat) : (Int × Int × Int × Int) := if o = 2000 then (115, 108, 119, 116) else (112, 108, 111, 116)
theorem sp_X9_signNumber (o : Nat) (ho : o = 2000 ∨ o = 2001) (t : Int → Int) (L p : Int) (m : gw_Mem) (hT : gz_tc t L m) (hp : m 46 2 = p) (h : 0 ≤ p ∧ p ≤ L) : gw_SpecI M_X9_signNumber 12 [gR 46, gR o] m (fun v m' => (gz_kd (gz_by t L (gz_ne t L p)) (gz_l4 o).1 (gz_l4 o).2.1 (gz_l4 o).2.2.1 (gz_l4 o).2.2.2 < 0 → v = -1) ∧ (¬ gz_kd (gz_by t L (gz_ne t L p)) (gz_l4 o).1 (gz_l4 o).2.1 (gz_l4 o).2.2.1 (gz_l4 o).2.2.2 < 0 → v = gz_kd (gz_by t L (gz_ne t L p)) (gz_l4 o).1 (gz_l4 o).2.1 (gz_l4 o).2.2.1 (gz_l4 o).2.2.2) ∧ gz_h m m' ∧ m' 46 2 = gz_ne t L p) := by
  refine gw_intro pl_X9_signNumber rfl (fun Γ => ?_)
  apply r_X9_signNumber_0 o ho _ (by decide)
  refine gw_CI.of (sp_X9_next t L p m hT hp h) rfl (fun v1 m2 _ _ hv => ?_)
  obtain ⟨rfl, h1, h2, h3⟩ := hv
  obtain ⟨v, hv⟩ : ∃ v : Int, v = (if L ≤ gz_ne t L p then -1 else t (gz_ne t L p)) := ⟨_, rfl⟩
  obtain ⟨b, hb⟩ : ∃ b : Int, b = gz_by t L (gz_ne t L p) := ⟨_, rfl⟩
  have eqv : ∀ c : Int, c ≠ -1 → c ≠ 0 → (v = c ↔ b = c) := fun c c1 c2 => by rw [hv, hb]; exact gz_nx c1 c2
  have v0 : b = 0 → v ≠ 115 ∧ v ≠ 108 ∧ v ≠ 119 ∧ v ≠ 116 ∧ v ≠ 112 ∧ v ≠ 111 := by
    intro z
    have q : ∀ c : Int, c ≠ -1 → c ≠ 0 → v ≠ c := fun c c1 c2 w => by have := (eqv c c1 c2).mp w; omega
    exact ⟨q _ (by omega) (by omega), q _ (by omega) (by omega), q _ (by omega) (by omega), q _ (by omega) (by omega), q _ (by omega) (by omega), q _ (by omega) (by omega)⟩
  rw [← hv, ← hb]
  have s0 : gw_sb 2000 0 = 115 ∧ gw_sb 2000 1 = 108 ∧ gw_sb 2000 2 = 119 ∧ gw_sb 2000 3 = 116 := by decide
  have s1 : gw_sb 2001 0 = 112 ∧ gw_sb 2001 1 = 108 ∧ gw_sb 2001 2 = 111 ∧ gw_sb 2001 3 = 116 := by decide
  have w1 : gw_w (0 + 1) = 1 ∧ gw_w (1 + 1) = 2 ∧ gw_w (2 + 1) = 3 ∧ gw_w (3 + 1) = 4 := by decide
  have go : ∀ (a0 a1 a2 a3 : Int), gw_sb o 0 = a0 → gw_sb o 1 = a1 → gw_sb o 2 = a2 → gw_sb o 3 = a3 → gz_l4 o = (a0, a1, a2, a3) → (a0 ≠ -1 ∧ a0 ≠ 0) → (a1 ≠ -1 ∧ a1 ≠ 0) → (a2 ≠ -1 ∧ a2 ≠ 0) → (a3 ≠ -1 ∧ a3 ≠ 0) → gw_G M_X9_signNumber 12 (fun r m' => ∃ v, r = some (gI v) ∧ (gz_kd b (gz_l4 o).1 (gz_l4 o).2.1 (gz_l4 o).2.2.1 (gz_l4 o).2.2.2 < 0 → v = -1) ∧ (¬ gz_kd b (gz_l4 o).1 (gz_l4 o).2.1 (gz_l4 o).2.2.1 (gz_l4 o).2.2.2 < 0 → v = gz_kd b (gz_l4 o).1 (gz_l4 o).2.1 (gz_l4 o).2.2.1 (gz_l4 o).2.2.2) ∧ gz_h m m' ∧ m' 46 2 = gz_ne t L p) Γ 7 [some (gR 46), some (gR o), some (gI v), some (gI 0)] [] m2 := by
    intro a0 a1 a2 a3 e0 e1 e2 e3 e4 n0 n1 n2 n3
    rw [e4]
    dsimp only
    have i4 : ∀ x : Int, 0 ≤ x → x < 4 → gw_in x 4 := fun x a b => gw_inm a b
    have q0 := eqv a0 n0.1 n0.2
    have q1 := eqv a1 n1.1 n1.2
    have q2 := eqv a2 n2.1 n2.2
    have q3 := eqv a3 n3.1 n3.2
    have res : ∀ x : Int, (0 ≤ x ∧ gz_kd b a0 a1 a2 a3 = x) ∨ (x = -1 ∧ gz_kd b a0 a1 a2 a3 < 0) → ∃ v, (some (gI x) : Option gw_SV) = some (gI v) ∧ (gz_kd b a0 a1 a2 a3 < 0 → v = -1) ∧ (¬ gz_kd b a0 a1 a2 a3 < 0 → v = gz_kd b a0 a1 a2 a3) ∧ gz_h m m2 ∧ m2 46 2 = gz_ne t L p := by
      intro x hx
      exact ⟨x, rfl, fun z => by omega, fun z => by omega, h1, h2⟩
    have kd : gz_kd b a0 a1 a2 a3 = if b = 0 then -4 else if b = a0 then 0 else if b = a1 then 1 else if b = a2 then 2 else if b = a3 then 3 else -4 := rfl
    have p0 : v = a0 → gz_kd b a0 a1 a2 a3 = 0 := fun z => by
      have e := q0.mp z
      rw [kd, if_neg (fun w => n0.2 (e.symm.trans w)), if_pos e]
    have p1 : ¬ v = a0 → v = a1 → gz_kd b a0 a1 a2 a3 = 1 := fun z0 z => by
      have e := q1.mp z
      rw [kd, if_neg (fun w => n1.2 (e.symm.trans w)), if_neg (fun w => z0 (q0.mpr w)), if_pos e]
    have p2 : ¬ v = a0 → ¬ v = a1 → v = a2 → gz_kd b a0 a1 a2 a3 = 2 := fun z0 z1 z => by
      have e := q2.mp z
      rw [kd, if_neg (fun w => n2.2 (e.symm.trans w)), if_neg (fun w => z0 (q0.mpr w)), if_neg (fun w => z1 (q1.mpr w)), if_pos e]
    have p3 : ¬ v = a0 → ¬ v = a1 → ¬ v = a2 → v = a3 → gz_kd b a0 a1 a2 a3 = 3 := fun z0 z1 z2 z => by
      have e := q3.mp z
      rw [kd, if_neg (fun w => n3.2 (e.symm.trans w)), if_neg (fun w => z0 (q0.mpr w)), if_neg (fun w => z1 (q1.mpr w)), if_neg (fun w => z2 (q2.mpr w)), if_pos e]
    have p4 : ¬ v = a0 → ¬ v = a1 → ¬ v = a2 → ¬ v = a3 → gz_kd b a0 a1 a2 a3 = -4 := fun z0 z1 z2 z3 => by
      rw [kd, if_neg (fun w => z0 (q0.mpr w)), if_neg (fun w => z1 (q1.mpr w)), if_neg (fun w => z2 (q2.mpr w)), if_neg (fun w => z3 (q3.mpr w))]
      split <;> rfl
    clear q0 q1 q2 q3 n0 n1 n2 n3 kd v0 eqv
    apply r_X9_signNumber_7 _ o ho _ _ _ (by decide)
    rw [e0, w1.1]
    refine ⟨fun z => absurd z (by decide), fun _ => ⟨i4 _ (by decide) (by decide), fun z => res 0 (Or.inl ⟨by decide, p0 z.symm⟩), fun z => ?_⟩⟩
    apply r_X9_signNumber_7 _ o ho _ _ _ (by decide)
    rw [e1, w1.2.1]
    refine ⟨fun z => absurd z (by decide), fun _ => ⟨i4 _ (by decide) (by decide), fun z' => res 1 (Or.inl ⟨by decide, p1 (fun w => z w.symm) z'.symm⟩), fun z' => ?_⟩⟩
    apply r_X9_signNumber_7 _ o ho _ _ _ (by decide)
    rw [e2, w1.2.2.1]
    refine ⟨fun z => absurd z (by decide), fun _ => ⟨i4 _ (by decide) (by decide), fun z'' => res 2 (Or.inl ⟨by decide, p2 (fun w => z w.symm) (fun w => z' w.symm) z''.symm⟩), fun z'' => ?_⟩⟩
    apply r_X9_signNumber_7 _ o ho _ _ _ (by decide)
    rw [e3, w1.2.2.2]
    refine ⟨fun z => absurd z (by decide), fun _ => ⟨i4 _ (by decide) (by decide), fun z3 => res 3 (Or.inl ⟨by decide, p3 (fun w => z w.symm) (fun w => z' w.symm) (fun w => z'' w.symm) z3.symm⟩), fun z3 => ?_⟩⟩
    apply r_X9_signNumber_7 _ o ho _ _ _ (by decide)
    refine ⟨fun _ => res (-1) (Or.inr ⟨rfl, ?_⟩), fun z4 => absurd (by decide) z4⟩
    rw [p4 (fun w => z w.symm) (fun w => z' w.symm) (fun w => z'' w.symm) (fun w => z3 w.symm)]
    decide
  rcases ho with rfl | rfl
  · exact go 115 108 119 116 s0.1 s0.2.1 s0.2.2.1 s0.2.2.2 rfl (by omega) (by omega) (by omega) (by omega)
  · exact go 112 108 111 116 s1.1 s1.2.1 s1.2.2.1 s1.2.2.2 rfl (by omega) (by omega) (by omega) (by omega)
theorem sp_X9_readNumber (t : Int → Int) (L p lo hi : Int) (hlo : 0 ≤ lo) (hhi : hi ≤ 999) (m : gw_Mem) (hT : gz_tc t L m) (hp : m 46 2 = p) (h : 0 ≤ p ∧ p ≤ L) : gw_SpecI M_X9_readNumber 11 [gR 46, gI lo, gI hi] m (fun v m' => ((gz_nu t L lo hi p).1 = 1 → v = (gz_nu t L lo hi p).2.2) ∧ ((gz_nu t L lo hi p).1 = 0 → v = -1) ∧ gz_h m m' ∧ m' 46 2 = (gz_nu t L lo hi p).2.1 ∧ m' 46 3 = gz_ne t L p) := by
  refine gw_intro pl_X9_readNumber rfl (fun Γ => ?_)
  have hL := hT.2.1
  have a := gz_ne_in t h
  apply r_X9_readNumber_0 _ _ _ (by decide)
  refine gw_CI.of (sp_X9_next t L p m hT hp h) rfl (fun v1 m2 _ _ hv => ?_)
  obtain ⟨rfl, h1, h2, h3⟩ := hv
  obtain ⟨f, hf⟩ : ∃ f : Int, f = gz_ne t L p := ⟨_, rfl⟩
  rw [h2]
  have q3 := gz_h_u3 m2 (gz_ne t L p)
  rw [h2] at q3
  generalize gw_up m2 46 3 (gz_ne t L p) = m3 at *
  have hh := gz_h_tr h1 q3.1
  have dig : (48 ≤ (if L ≤ gz_ne t L p then -1 else t (gz_ne t L p)) ∧ (if L ≤ gz_ne t L p then -1 else t (gz_ne t L p)) ≤ 57) ↔ (48 ≤ gz_by t L (gz_ne t L p) ∧ gz_by t L (gz_ne t L p) ≤ 57) := by
    unfold gz_by
    by_cases c : L ≤ gz_ne t L p
    · rw [if_pos c, if_pos c]; omega
    · rw [if_neg c, if_neg c]
  refine gw_CI.eq (sp_X11_within _ 48 57 m3) rfl (gw_b_tf (fun hd => ?_) (fun hd => ?_))
  · rw [dig] at hd
    have nu : gz_nu t L lo hi p = (0, gz_ne t L p, 0) := by unfold gz_nu; rw [if_neg hd]
    rw [nu]
    exact ⟨-1, rfl, fun z => absurd z (by show ¬ ((0 : Int) = 1); omega), fun _ => rfl, hh, q3.2.1, q3.2.2⟩
  · rw [dig] at hd
    have nu : gz_nu t L lo hi p = if lo ≤ (gz_nr t (L - f).toNat f 0).2 ∧ (gz_nr t (L - f).toNat f 0).2 ≤ hi then (1, gz_nr t (L - f).toNat f 0) else (0, f, 0) := by
      unfold gz_nu
      rw [if_pos hd, hf]
    rw [← hf] at a q3 ⊢
    rw [nu]
    obtain ⟨E, hE⟩ : ∃ E, E = gz_nr t (L - f).toNat f 0 := ⟨_, rfl⟩
    rw [← hE]
    have fin : ∀ (x2 x v x4 : Int) (u : gw_Mem), (x, v) = E → (v ≤ 999 ∧ x4 = v ∨ 999 < v ∧ x4 = 1000) → gz_h m u → u 46 2 = x → u 46 3 = f → gw_G M_X9_readNumber 11 (fun r m' => ∃ w, r = some (gI w) ∧ ((if lo ≤ E.2 ∧ E.2 ≤ hi then ((1 : Int), E) else (0, f, 0)).1 = 1 → w = (if lo ≤ E.2 ∧ E.2 ≤ hi then ((1 : Int), E) else (0, f, 0)).2.2) ∧ ((if lo ≤ E.2 ∧ E.2 ≤ hi then ((1 : Int), E) else (0, f, 0)).1 = 0 → w = -1) ∧ gz_h m m' ∧ m' 46 2 = (if lo ≤ E.2 ∧ E.2 ≤ hi then ((1 : Int), E) else (0, f, 0)).2.1 ∧ m' 46 3 = f) Γ 98 [some (gR 46), some (gI lo), some (gI hi), some (gI x2), some (gI x4)] [] u := by
      intro x2 x v x4 u e hx4 hu u2 u3
      apply r_X9_readNumber_98 _ _ _ _ _ (by decide)
      rw [← e]
      dsimp only
      refine gw_CI.eq (sp_X11_within x4 lo hi u) rfl (gw_b_tf (fun c => ?_) (fun c => ?_))
      · rw [if_neg (by omega)]
        have q := gz_h_u2 u (u 46 3)
        exact ⟨-1, rfl, fun z => absurd z (by show ¬ ((0 : Int) = 1); omega), fun _ => rfl, gz_h_tr hu q.1, by rw [q.2.1]; exact u3, by rw [q.2.2]; exact u3⟩
      · rw [if_pos (by omega)]
        exact ⟨x4, rfl, fun _ => by show x4 = v; omega, fun z => absurd z (by show ¬ ((1 : Int) = 0); omega), hu, u2, u3⟩
    have key : ∀ (n : Nat) (x2 x v x4 : Int) (u : gw_Mem), 0 ≤ x → L - x = n → 0 ≤ v → gz_nr t n x v = E → (v ≤ 999 ∧ x4 = v ∨ 999 < v ∧ x4 = 1000) → gz_h m u → u 46 2 = x → u 46 3 = f → gw_G M_X9_readNumber 11 (fun r m' => ∃ w, r = some (gI w) ∧ ((if lo ≤ E.2 ∧ E.2 ≤ hi then ((1 : Int), E) else (0, f, 0)).1 = 1 → w = (if lo ≤ E.2 ∧ E.2 ≤ hi then ((1 : Int), E) else (0, f, 0)).2.2) ∧ ((if lo ≤ E.2 ∧ E.2 ≤ hi then ((1 : Int), E) else (0, f, 0)).1 = 0 → w = -1) ∧ gz_h m m' ∧ m' 46 2 = (if lo ≤ E.2 ∧ E.2 ≤ hi then ((1 : Int), E) else (0, f, 0)).2.1 ∧ m' 46 3 = f) Γ 29 [some (gR 46), some (gI lo), some (gI hi), some (gI x2), some (gI x4)] [] u := by
      intro n
      induction n with
      | zero =>
        intro x2 x v x4 u h0 hn hv e hx4 hu u2 u3
        have hT' := gz_h_tc hu hT
        apply r_X9_readNumber_29 _ _ _ _ _ (by decide)
        rw [hT'.1, u2]
        exact ⟨fun _ => fin x2 x v x4 u (by rw [gz_nr] at e; exact e) hx4 hu u2 u3, fun z => absurd (by omega) z⟩
      | succ n ih =>
        intro x2 x v x4 u h0 hn hv e hx4 hu u2 u3
        have hT' := gz_h_tc hu hT
        have tx := hT'.2.2 x h0 (by omega)
        apply r_X9_readNumber_29 _ _ _ _ _ (by decide)
        rw [hT'.1, u2, tx.1]
        rw [gz_nr] at e
        refine ⟨fun z => absurd z (by omega), fun _ => ⟨gw_inm h0 (by omega), gw_CI.eq (sp_X11_within (t x) 48 57 u) rfl (gw_b_tf (fun c => ?_) (fun c => ?_))⟩⟩
        · rw [if_neg c] at e
          exact fin x2 x v x4 u e hx4 hu u2 u3
        · rw [if_pos c] at e
          rw [u2, tx.1, gw_w_id (x := x + 1) (by omega), gw_w_id (x := 10 * x4) (by omega), gw_w_id (x := 10 * x4 + t x) (by omega), gw_w_id (x := 10 * x4 + t x - 48) (by omega)]
          have q := gz_h_u2 u (x + 1)
          refine ⟨gw_inm h0 (by omega), ih x2 (x + 1) _ _ _ (by omega) (by omega) ?_ e ?_ (gz_h_tr hu q.1) q.2.1 (by rw [q.2.2]; exact u3)⟩
          · split <;> omega
          · split <;> omega
    exact key (L - f).toNat _ f 0 0 m3 (by omega) (by omega) (by omega) hE.symm (Or.inl ⟨by omega, rfl⟩) hh q3.2.1 q3.2.2
