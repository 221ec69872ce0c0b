/-! texts: what is read, over a tape t of L bytes -/
def gz_sk (t : Int → Int) : Nat → Int → Int
  | 0, p => p
  | n + 1, p => if t p = 32 then gz_sk t n (p + 1) else p
/-- the place of the next byte that is no blank -/
def gz_ne (t : Int → Int) (L p : Int) : Int := gz_sk t (L - p).toNat p
/-- the byte there; 0: the end -/
def gz_by (t : Int → Int) (L p : Int) : Int := if L ≤ p then 0 else t p
theorem gz_ne_0 {t : Int → Int} {L p : Int} (h : L ≤ p) : gz_ne t L p = p := by
  unfold gz_ne
  rw [show (L - p).toNat = 0 by omega, gz_sk]
theorem gz_ne_1 {t : Int → Int} {L p : Int} (h : p < L) (hb : t p = 32) : gz_ne t L p = gz_ne t L (p + 1) := by
  unfold gz_ne
  rw [show (L - p).toNat = (L - (p + 1)).toNat + 1 by omega, gz_sk, if_pos hb]
theorem gz_ne_2 {t : Int → Int} {L p : Int} (hb : t p ≠ 32) : gz_ne t L p = p := by
  unfold gz_ne
  cases (L - p).toNat with
  | zero => rfl
  | succ n => rw [gz_sk, if_neg hb]
theorem gz_ne_rng (t : Int → Int) (L : Int) : ∀ (n : Nat) (p : Int), 0 ≤ p → p ≤ L → L - p = n → p ≤ gz_ne t L p ∧ gz_ne t L p ≤ L ∧ gz_ne t L (gz_ne t L p) = gz_ne t L p := by
  intro n
  induction n with
  | zero =>
    intro p h0 h1 h2
    have e := gz_ne_0 (t := t) (L := L) (p := p) (by omega)
    rw [e, e]
    omega
  | succ n ih =>
    intro p h0 h1 h2
    by_cases c : t p = 32
    · rw [gz_ne_1 (by omega) c]
      have := ih (p + 1) (by omega) (by omega) (by omega)
      exact ⟨by omega, this.2⟩
    · rw [gz_ne_2 c, gz_ne_2 c]
      omega
theorem gz_ne_in (t : Int → Int) {L p : Int} (h : 0 ≤ p ∧ p ≤ L) : (0 ≤ gz_ne t L p ∧ gz_ne t L p ≤ L) ∧ p ≤ gz_ne t L p := by
  have := gz_ne_rng t L (L - p).toNat p h.1 h.2 (by omega)
  omega
theorem gz_ne_ne (t : Int → Int) {L p : Int} (h : 0 ≤ p ∧ p ≤ L) : gz_ne t L (gz_ne t L p) = gz_ne t L p := (gz_ne_rng t L (L - p).toNat p h.1 h.2 (by omega)).2.2
theorem gz_by_lt {t : Int → Int} {L p : Int} (h : gz_by t L p ≠ 0) : p < L := by
  unfold gz_by at h
  refine Classical.byContradiction fun c => ?_
  rw [if_pos (by omega)] at h
  exact h rfl
/-- a number: its end and value, from place p on -/
def gz_nr (t : Int → Int) : Nat → Int → Int → Int × Int
  | 0, p, v => (p, v)
  | n + 1, p, v => if 48 ≤ t p ∧ t p ≤ 57 then gz_nr t n (p + 1) (if v ≤ 999 then 10 * v + t p - 48 else v) else (p, v)
theorem gz_nr_in (t : Int → Int) (L : Int) : ∀ (n : Nat) (p v : Int), 0 ≤ p → L - p = n → 0 ≤ v → (p ≤ (gz_nr t n p v).1 ∧ (gz_nr t n p v).1 ≤ L) ∧ 0 ≤ (gz_nr t n p v).2 := by
  intro n
  induction n with
  | zero =>
    intro p v h0 h1 h2
    rw [gz_nr]
    dsimp only
    omega
  | succ n ih =>
    intro p v h0 h1 h2
    rw [gz_nr]
    by_cases c : 48 ≤ t p ∧ t p ≤ 57
    · rw [if_pos c]
      have := ih (p + 1) (if v ≤ 999 then 10 * v + t p - 48 else v) (by omega) (by omega) (by split <;> omega)
      omega
    · rw [if_neg c]
      dsimp only
      omega
/-- 1 and the end and the value; 0 and the place of the fault -/
def gz_nu (t : Int → Int) (L lo hi p : Int) : Int × Int × Int :=
  if 48 ≤ gz_by t L (gz_ne t L p) ∧ gz_by t L (gz_ne t L p) ≤ 57 then
    (if lo ≤ (gz_nr t (L - gz_ne t L p).toNat (gz_ne t L p) 0).2 ∧ (gz_nr t (L - gz_ne t L p).toNat (gz_ne t L p) 0).2 ≤ hi then (1, gz_nr t (L - gz_ne t L p).toNat (gz_ne t L p) 0) else (0, gz_ne t L p, 0))
  else (0, gz_ne t L p, 0)
theorem gz_nu_in (t : Int → Int) {L lo hi p : Int} (h : 0 ≤ p ∧ p ≤ L) : (0 ≤ (gz_nu t L lo hi p).2.1 ∧ (gz_nu t L lo hi p).2.1 ≤ L) ∧ ((gz_nu t L lo hi p).1 = 1 ∧ lo ≤ (gz_nu t L lo hi p).2.2 ∧ (gz_nu t L lo hi p).2.2 ≤ hi ∨ (gz_nu t L lo hi p).1 = 0 ∧ (gz_nu t L lo hi p).2.1 = gz_ne t L p) := by
  have a := gz_ne_in t h
  have b := gz_nr_in t L (L - gz_ne t L p).toNat (gz_ne t L p) 0 (by omega) (by omega) (Int.le_refl _)
  unfold gz_nu
  by_cases c : 48 ≤ gz_by t L (gz_ne t L p) ∧ gz_by t L (gz_ne t L p) ≤ 57
  · rw [if_pos c]
    by_cases c2 : lo ≤ (gz_nr t (L - gz_ne t L p).toNat (gz_ne t L p) 0).2 ∧ (gz_nr t (L - gz_ne t L p).toNat (gz_ne t L p) 0).2 ≤ hi
    · rw [if_pos c2]
      dsimp only
      exact ⟨by omega, Or.inl ⟨rfl, c2⟩⟩
    · rw [if_neg c2]
      dsimp only
      exact ⟨by omega, Or.inr ⟨rfl, rfl⟩⟩
  · rw [if_neg c]
    dsimp only
    exact ⟨by omega, Or.inr ⟨rfl, rfl⟩⟩
/-- which of four letters -/
def gz_kd (h a b c d : Int) : Int := if h = 0 then -4 else if h = a then 0 else if h = b then 1 else if h = c then 2 else if h = d then 3 else -4
theorem gz_kd_in (h a b c d : Int) : gz_kd h a b c d = -4 ∨ (0 ≤ gz_kd h a b c d ∧ gz_kd h a b c d ≤ 3 ∧ h ≠ 0) := by
  unfold gz_kd
  repeat' split
  all_goals omega
/-- whether a mark of this kind is at this place, among the first n that were read -/
def gz_tk (r : Int → Int) (kd pl : Int) : Nat → Int
  | 0 => 0
  | n + 1 => if r (3 * (n : Int)) = kd ∧ r (3 * (n : Int) + 1) = pl then 1 else gz_tk r kd pl n
/-- whether a tail is among the first n that were read -/
def gz_tt (r : Int → Int) : Nat → Int
  | 0 => 0
  | n + 1 => if r (3 * (n : Int)) = 3 then 1 else gz_tt r n
theorem gz_tk_iff (r : Int → Int) (kd pl : Int) (n : Nat) : (gz_tk r kd pl n = 0 ∨ gz_tk r kd pl n = 1) ∧ (gz_tk r kd pl n = 1 ↔ ∃ k : Nat, k < n ∧ r (3 * (k : Int)) = kd ∧ r (3 * (k : Int) + 1) = pl) := by
  induction n with
  | zero => exact ⟨Or.inl rfl, ⟨fun z => absurd z (by rw [gz_tk]; omega), fun ⟨k, hk, _⟩ => by omega⟩⟩
  | succ n ih =>
    rw [gz_tk]
    by_cases c : r (3 * (n : Int)) = kd ∧ r (3 * (n : Int) + 1) = pl
    · rw [if_pos c]
      exact ⟨Or.inr rfl, ⟨fun _ => ⟨n, by omega, c⟩, fun _ => rfl⟩⟩
    · rw [if_neg c]
      refine ⟨ih.1, ih.2.trans ⟨fun ⟨k, hk, h⟩ => ⟨k, by omega, h⟩, fun ⟨k, hk, h⟩ => ⟨k, ?_, h⟩⟩⟩
      by_cases e : k = n
      · subst e; exact absurd h c
      · omega
theorem gz_tt_iff (r : Int → Int) (n : Nat) : (gz_tt r n = 0 ∨ gz_tt r n = 1) ∧ (gz_tt r n = 1 ↔ ∃ k : Nat, k < n ∧ r (3 * (k : Int)) = 3) := by
  induction n with
  | zero => exact ⟨Or.inl rfl, ⟨fun z => absurd z (by rw [gz_tt]; omega), fun ⟨k, hk, _⟩ => by omega⟩⟩
  | succ n ih =>
    rw [gz_tt]
    by_cases c : r (3 * (n : Int)) = 3
    · rw [if_pos c]
      exact ⟨Or.inr rfl, ⟨fun _ => ⟨n, by omega, c⟩, fun _ => rfl⟩⟩
    · rw [if_neg c]
      refine ⟨ih.1, ih.2.trans ⟨fun ⟨k, hk, h⟩ => ⟨k, by omega, h⟩, fun ⟨k, hk, h⟩ => ⟨k, ?_, h⟩⟩⟩
      by_cases e : k = n
      · subst e; exact absurd h c
      · omega
/-- a mark's clause: 1, its end, kind, place, length; 0, the place of the fault -/
def gz_mc (t : Int → Int) (L : Int) (r : Int → Int) (n : Nat) (p : Int) : Int × Int × Int × Int × Int :=
  if gz_kd (gz_by t L (gz_ne t L p)) 115 108 119 116 < 0 then (0, gz_ne t L p, 0, 0, 0)
  else if (gz_nu t L 0 99 (gz_ne t L p + 1)).1 = 0 then (0, (gz_nu t L 0 99 (gz_ne t L p + 1)).2.1, 0, 0, 0)
  else if gz_tk r (gz_kd (gz_by t L (gz_ne t L p)) 115 108 119 116) (gz_nu t L 0 99 (gz_ne t L p + 1)).2.2 n = 1 then (0, gz_ne t L (gz_ne t L p + 1), 0, 0, 0)
  else if gz_by t L (gz_ne t L (gz_nu t L 0 99 (gz_ne t L p + 1)).2.1) ≠ 58 then (0, gz_ne t L (gz_nu t L 0 99 (gz_ne t L p + 1)).2.1, 0, 0, 0)
  else ((gz_nu t L (gd_lo (gz_kd (gz_by t L (gz_ne t L p)) 115 108 119 116)) (gd_hi (gz_kd (gz_by t L (gz_ne t L p)) 115 108 119 116)) (gz_ne t L (gz_nu t L 0 99 (gz_ne t L p + 1)).2.1 + 1)).1, (gz_nu t L (gd_lo (gz_kd (gz_by t L (gz_ne t L p)) 115 108 119 116)) (gd_hi (gz_kd (gz_by t L (gz_ne t L p)) 115 108 119 116)) (gz_ne t L (gz_nu t L 0 99 (gz_ne t L p + 1)).2.1 + 1)).2.1, gz_kd (gz_by t L (gz_ne t L p)) 115 108 119 116, (gz_nu t L 0 99 (gz_ne t L p + 1)).2.2, (gz_nu t L (gd_lo (gz_kd (gz_by t L (gz_ne t L p)) 115 108 119 116)) (gd_hi (gz_kd (gz_by t L (gz_ne t L p)) 115 108 119 116)) (gz_ne t L (gz_nu t L 0 99 (gz_ne t L p + 1)).2.1 + 1)).2.2)
/-- one of people: 1, the end, kind, pace, ear; 0, the place of the fault -/
def gz_pc (t : Int → Int) (L : Int) (r : Int → Int) (n : Nat) (p : Int) : Int × Int × Int × Int × Int :=
  if gz_kd (gz_by t L (gz_ne t L p)) 112 108 111 116 < 0 then (0, gz_ne t L p, 0, 0, 0)
  else if gz_kd (gz_by t L (gz_ne t L p)) 112 108 111 116 = 3 ∧ gz_tt r n = 1 then (0, gz_ne t L p, 0, 0, 0)
  else if 49 ≤ gz_by t L (gz_ne t L (gz_ne t L p + 1)) ∧ gz_by t L (gz_ne t L (gz_ne t L p + 1)) ≤ 52 then
    (1, gz_ne t L (gz_ne t L (gz_ne t L p + 1) + 1) + (if gz_by t L (gz_ne t L (gz_ne t L (gz_ne t L p + 1) + 1)) = 101 then 1 else 0), gz_kd (gz_by t L (gz_ne t L p)) 112 108 111 116, gz_by t L (gz_ne t L (gz_ne t L p + 1)) - 48, if gz_by t L (gz_ne t L (gz_ne t L (gz_ne t L p + 1) + 1)) = 101 then 1 else 0)
  else (0, gz_ne t L (gz_ne t L p + 1), 0, 0, 0)
/-- all clauses: how many, or the fault; and the row of what was read -/
def gz_lp (t : Int → Int) (L : Int) (cl : (Int → Int) → Nat → Int → Int × Int × Int × Int × Int) (M : Nat) (sep : Int) : Nat → Nat → Int → (Int → Int) → Int × (Int → Int)
  | 0, _, p, r => (-20 - p, r)
  | f + 1, n, p, r =>
    if (cl r n p).1 = 0 then (-20 - (cl r n p).2.1, r)
    else if L ≤ gz_ne t L (cl r n p).2.1 then ((n : Int) + 1, fun j => if j = 3 * (n : Int) then (cl r n p).2.2.1 else if j = 3 * (n : Int) + 1 then (cl r n p).2.2.2.1 else if j = 3 * (n : Int) + 2 then (cl r n p).2.2.2.2 else r j)
    else if n + 1 < M ∧ t (gz_ne t L (cl r n p).2.1) = sep then gz_lp t L cl M sep f (n + 1) (gz_ne t L (cl r n p).2.1 + 1) (fun j => if j = 3 * (n : Int) then (cl r n p).2.2.1 else if j = 3 * (n : Int) + 1 then (cl r n p).2.2.2.1 else if j = 3 * (n : Int) + 2 then (cl r n p).2.2.2.2 else r j)
    else (-20 - gz_ne t L (cl r n p).2.1, r)
/-! the reference's reading -/
/-- the memory while it reads: a row of what was read, whether it is wrong, where it is -/
def gz_ss (g : gw_Mem) (r : Int → Int) (w p : Int) : gw_Mem := fun o j => if o = 128 then r j else if o = 117 ∧ j = 13 then p else if o = 117 ∧ j = 14 then w else g o j
theorem gz_ss_13 (g : gw_Mem) (r : Int → Int) (w p : Int) : gz_ss g r w p 117 13 = p := by
  unfold gz_ss
  rw [if_neg (by omega), if_pos ⟨rfl, rfl⟩]
theorem gz_ss_14 (g : gw_Mem) (r : Int → Int) (w p : Int) : gz_ss g r w p 117 14 = w := by
  unfold gz_ss
  rw [if_neg (by omega), if_neg (by omega), if_pos ⟨rfl, rfl⟩]
theorem gz_ss_12 (g : gw_Mem) (r : Int → Int) (w p : Int) : gz_ss g r w p 117 12 = g 117 12 := by
  unfold gz_ss
  rw [if_neg (by omega), if_neg (by omega), if_neg (by omega)]
theorem gz_ss_127 (g : gw_Mem) (r : Int → Int) (w p : Int) : gz_ss g r w p 127 = g 127 := by
  funext j
  unfold gz_ss
  rw [if_neg (by omega), if_neg (by omega), if_neg (by omega)]
theorem gz_ss_128 (g : gw_Mem) (r : Int → Int) (w p : Int) : gz_ss g r w p 128 = r := by
  funext j
  unfold gz_ss
  rw [if_pos rfl]
theorem gz_ss_u13 (g : gw_Mem) (r : Int → Int) (w p x : Int) : gw_up (gz_ss g r w p) 117 13 x = gz_ss g r w x := by
  funext o j
  unfold gw_up gz_ss
  by_cases c : o = 117 ∧ j = 13
  · rw [if_pos c, if_neg (by omega), if_pos c]
  · rw [if_neg c, if_neg c, if_neg c]
theorem gz_ss_u14 (g : gw_Mem) (r : Int → Int) (w p x : Int) : gw_up (gz_ss g r w p) 117 14 x = gz_ss g r x p := by
  funext o j
  unfold gw_up gz_ss
  by_cases c : o = 117 ∧ j = 14
  · rw [if_pos c, if_neg (by omega), if_neg (by omega), if_pos c]
  · rw [if_neg c, if_neg c, if_neg c]
theorem gz_ss_u128 (g : gw_Mem) (r : Int → Int) (w p k x : Int) : gw_up (gz_ss g r w p) 128 k x = gz_ss g (fun j => if j = k then x else r j) w p := by
  funext o j
  unfold gw_up gz_ss
  by_cases c : o = 128
  · rw [if_pos c, if_pos c]
    dsimp only
    by_cases c2 : j = k
    · rw [if_pos ⟨c, c2⟩, if_pos c2]
    · rw [if_neg (fun z => c2 z.2), if_neg c2]
  · rw [if_neg (fun z => c z.1), if_neg c, if_neg c]
/-- the tape is t, of L bytes -/
def gz_tp (t : Int → Int) (L : Int) (g : gw_Mem) : Prop := g 117 12 = L ∧ (0 ≤ L ∧ L ≤ 80) ∧ ∀ j : Int, 0 ≤ j → j < L → g 127 j = t j ∧ 32 ≤ t j ∧ t j ≤ 126
theorem sp_X12_here (t : Int → Int) (L : Int) (g : gw_Mem) (hT : gz_tp t L g) (r : Int → Int) (w p : Int) (hp : 0 ≤ p ∧ p ≤ L) : gw_SpecI M_X12_here 10 [gR 117] (gz_ss g r w p) (fun v m' => v = gz_by t L (gz_ne t L p) ∧ m' = gz_ss g r w (gz_ne t L p)) := by
  refine gw_intro pl_X12_here rfl (fun Γ => ?_)
  have key : ∀ (n : Nat) (p : Int), 0 ≤ p → L - p = n → gw_G M_X12_here 10 (fun v m' => ∃ x, v = some (gI x) ∧ x = gz_by t L (gz_ne t L p) ∧ m' = gz_ss g r w (gz_ne t L p)) Γ 0 [some (gR 117)] [] (gz_ss g r w p) := by
    intro n
    induction n with
    | zero =>
      intro p h0 h1
      apply r_X12_here_0
      rw [gz_ss_12, gz_ss_13, hT.1]
      refine ⟨fun _ => ?_, fun z => absurd (by omega) z⟩
      apply r_X12_here_38
      rw [gz_ss_12, gz_ss_13, hT.1, gz_ne_0 (by omega)]
      refine ⟨fun z => absurd (by omega) z, gw_rE ?_ rfl⟩
      unfold gz_by
      rw [if_pos (by omega), if_pos (by omega)]
    | succ n ih =>
      intro p h0 h1
      apply r_X12_here_0
      have hL := hT.2.1
      rw [gz_ss_12, gz_ss_13, gz_ss_127, hT.1, (hT.2.2 p h0 (by omega)).1, gz_ss_u13, gw_w_id (x := p + 1) (by omega)]
      refine ⟨fun z => absurd z (by omega), fun _ => ⟨gw_inm h0 (by omega), fun hb => ?_, fun hb => ?_⟩⟩
      · rw [gz_ne_1 (by omega) hb]
        exact ih (p + 1) (by omega) (by omega)
      · apply r_X12_here_38
        rw [gz_ss_12, gz_ss_13, gz_ss_127, hT.1, (hT.2.2 p h0 (by omega)).1, gz_ne_2 hb]
        refine ⟨fun z => gw_inm h0 (by omega), gw_rE ?_ rfl⟩
        unfold gz_by
        rw [if_neg (by omega)]
  exact key (L - p).toNat p hp.1 (by omega)
theorem sp_X12_has0 (t : Int → Int) (L : Int) (g : gw_Mem) (hT : gz_tp t L g) (r : Int → Int) (p : Int) (hp : 0 ≤ p ∧ p ≤ L) (c : Int) : gw_SpecI M_X12_has 11 [gR 117, gI c] (gz_ss g r 0 p) (fun v m' => v = (if gz_by t L (gz_ne t L p) = c then 1 else 0) ∧ m' = gz_ss g r 0 (gz_ne t L p + (if gz_by t L (gz_ne t L p) = c then 1 else 0))) := by
  refine gw_intro pl_X12_has rfl (fun Γ => ?_)
  have hL := hT.2.1
  have a := gz_ne_in t hp
  apply r_X12_has_0
  rw [gz_ss_14]
  refine ⟨fun _ => gw_CI.eq (sp_X12_here t L g hT r 0 p hp) rfl ?_, fun z => absurd rfl z⟩
  apply r_X12_has_20
  rw [gz_ss_13, gz_ss_u13]
  by_cases h : gz_by t L (gz_ne t L p) = c
  · rw [if_pos h, if_neg (by omega), gw_w_id (by omega)]
    exact ⟨Or.inr rfl, gw_rE rfl rfl⟩
  · rw [if_neg h, if_pos rfl, gw_w_id (by omega)]
    exact ⟨Or.inl rfl, gw_rE rfl rfl⟩
theorem sp_X12_has1 (L : Int) (g : gw_Mem) (r : Int → Int) (p : Int) (hp : 0 ≤ p ∧ p ≤ L) (hL : L ≤ 80) (c : Int) : gw_SpecI M_X12_has 11 [gR 117, gI c] (gz_ss g r 1 p) (fun v m' => v = 0 ∧ m' = gz_ss g r 1 p) := by
  refine gw_intro pl_X12_has rfl (fun Γ => ?_)
  apply r_X12_has_0
  rw [gz_ss_14]
  refine ⟨fun z => absurd z (by omega), fun _ => ?_⟩
  apply r_X12_has_20
  rw [gz_ss_13, gz_ss_u13, if_pos rfl, Int.add_zero, gw_w_id (by omega)]
  exact ⟨Or.inl rfl, gw_rE rfl rfl⟩
theorem sp_X12_number1 (g : gw_Mem) (r : Int → Int) (p lo hi : Int) : gw_SpecI M_X12_number 11 [gR 117, gI lo, gI hi] (gz_ss g r 1 p) (fun v m' => v = 0 ∧ m' = gz_ss g r 1 p) := by
  refine gw_intro pl_X12_number rfl (fun Γ => ?_)
  apply r_X12_number_0
  rw [gz_ss_14]
  refine ⟨fun z => absurd z (by omega), fun _ => ?_⟩
  apply r_X12_number_24
  rw [gz_ss_u14]
  exact gw_rE rfl rfl
theorem sp_X12_number0 (t : Int → Int) (L : Int) (g : gw_Mem) (hT : gz_tp t L g) (r : Int → Int) (p : Int) (hp : 0 ≤ p ∧ p ≤ L) (lo hi : Int) : gw_SpecI M_X12_number 11 [gR 117, gI lo, gI hi] (gz_ss g r 0 p) (fun v m' => ((gz_nu t L lo hi p).1 = 1 → v = (gz_nu t L lo hi p).2.2) ∧ m' = gz_ss g r (1 - (gz_nu t L lo hi p).1) (gz_nu t L lo hi p).2.1) := by
  refine gw_intro pl_X12_number rfl (fun Γ => ?_)
  have hL := hT.2.1
  have a := gz_ne_in t hp
  apply r_X12_number_0
  rw [gz_ss_14]
  refine ⟨fun _ => gw_CI.eq (sp_X12_here t L g hT r 0 p hp) rfl (gw_CI.eq (sp_X12_in _ 48 57 _) rfl (gw_b_tf (fun h => ?_) (fun h1 => ?_))), fun z => absurd rfl z⟩
  · apply r_X12_number_24
    rw [gz_ss_u14]
    unfold gz_nu
    rw [if_neg h]
    exact ⟨_, rfl, fun z => absurd z (by show ¬ ((0 : Int) = 1); omega), rfl⟩
  · obtain ⟨f, hf⟩ : ∃ f : Int, f = gz_ne t L p := ⟨_, rfl⟩
    have nu : gz_nu t L lo hi p = if lo ≤ (gz_nr t (L - f).toNat f 0).2 ∧ (gz_nr t (L - f).toNat f 0).2 ≤ hi then (1, gz_nr t (L - f).toNat f 0) else (0, f, 0) := by
      unfold gz_nu
      rw [if_pos h1, hf]
    rw [gz_ss_13]
    rw [← hf] at a ⊢
    rw [nu]
    have key : ∀ (n : Nat) (x v : Int), 0 ≤ x → L - x = n → (0 ≤ v ∧ v ≤ 9999) → gz_nr t n x v = gz_nr t (L - f).toNat f 0 → gw_G M_X12_number 11 (fun v m' => ∃ x, v = some (gI x) ∧ ((if lo ≤ (gz_nr t (L - f).toNat f 0).2 ∧ (gz_nr t (L - f).toNat f 0).2 ≤ hi then ((1 : Int), gz_nr t (L - f).toNat f 0) else (0, f, 0)).1 = 1 → x = (if lo ≤ (gz_nr t (L - f).toNat f 0).2 ∧ (gz_nr t (L - f).toNat f 0).2 ≤ hi then ((1 : Int), gz_nr t (L - f).toNat f 0) else (0, f, 0)).2.2) ∧ m' = gz_ss g r (1 - (if lo ≤ (gz_nr t (L - f).toNat f 0).2 ∧ (gz_nr t (L - f).toNat f 0).2 ≤ hi then ((1 : Int), gz_nr t (L - f).toNat f 0) else (0, f, 0)).1) (if lo ≤ (gz_nr t (L - f).toNat f 0).2 ∧ (gz_nr t (L - f).toNat f 0).2 ≤ hi then ((1 : Int), gz_nr t (L - f).toNat f 0) else (0, f, 0)).2.1) Γ 39 [some (gR 117), some (gI lo), some (gI hi), some (gI f), some (gI v)] [] (gz_ss g r 0 x) := by
      intro n
      have fin : ∀ (x v : Int), (x, v) = gz_nr t (L - f).toNat f 0 → gw_G M_X12_number 11 (fun v m' => ∃ x, v = some (gI x) ∧ ((if lo ≤ (gz_nr t (L - f).toNat f 0).2 ∧ (gz_nr t (L - f).toNat f 0).2 ≤ hi then ((1 : Int), gz_nr t (L - f).toNat f 0) else (0, f, 0)).1 = 1 → x = (if lo ≤ (gz_nr t (L - f).toNat f 0).2 ∧ (gz_nr t (L - f).toNat f 0).2 ≤ hi then ((1 : Int), gz_nr t (L - f).toNat f 0) else (0, f, 0)).2.2) ∧ m' = gz_ss g r (1 - (if lo ≤ (gz_nr t (L - f).toNat f 0).2 ∧ (gz_nr t (L - f).toNat f 0).2 ≤ hi then ((1 : Int), gz_nr t (L - f).toNat f 0) else (0, f, 0)).1) (if lo ≤ (gz_nr t (L - f).toNat f 0).2 ∧ (gz_nr t (L - f).toNat f 0).2 ≤ hi then ((1 : Int), gz_nr t (L - f).toNat f 0) else (0, f, 0)).2.1) Γ 118 [some (gR 117), some (gI lo), some (gI hi), some (gI f), some (gI v)] [] (gz_ss g r 0 x) := by
        intro x v e
        apply r_X12_number_118
        rw [← e]
        dsimp only
        refine gw_CI.eq (sp_X12_in v lo hi _) rfl ?_
        rw [gz_ss_u14, gz_ss_14, gz_ss_13, gz_ss_u13]
        by_cases c : lo ≤ v ∧ v ≤ hi
        · have e0 : gw_tf (lo ≤ v ∧ v ≤ hi) = 1 := by unfold gw_tf; rw [if_pos c]
          rw [e0, if_neg (show ¬ ((1 : Int) = 0) by omega), if_pos rfl, if_pos c]
          exact ⟨_, rfl, fun _ => rfl, rfl⟩
        · have e0 : gw_tf (lo ≤ v ∧ v ≤ hi) = 0 := by unfold gw_tf; rw [if_neg c]
          rw [e0, if_pos rfl, if_neg (show ¬ ((1 : Int) = 0) by omega), if_neg c]
          exact ⟨_, rfl, fun z => absurd z (by show ¬ ((0 : Int) = 1); omega), rfl⟩
      induction n with
      | zero =>
        intro x v h0 h1 h2 e
        apply r_X12_number_39
        rw [gz_ss_12, gz_ss_13, hT.1]
        exact ⟨fun _ => fin x v (by rw [gz_nr] at e; exact e), fun z => absurd (by omega) z⟩
      | succ n ih =>
        intro x v h0 h1 h2 e
        apply r_X12_number_39
        have tx := hT.2.2 x h0 (by omega)
        rw [gz_ss_12, gz_ss_13, gz_ss_127, hT.1, tx.1]
        rw [gz_nr] at e
        refine ⟨fun z => absurd z (by omega), fun _ => ⟨gw_inm h0 (by omega), gw_CI.eq (sp_X12_in (t x) 48 57 _) rfl (gw_b_tf (fun h => ?_) (fun h3 => ?_))⟩⟩
        · rw [if_neg h] at e
          exact fin x v e
        · rw [if_pos h3] at e
          rw [gz_ss_127, gz_ss_13, gz_ss_u13, tx.1, gw_w_id (x := x + 1) (by omega)]
          refine ⟨fun _ => gw_inm h0 (by omega), ?_⟩
          by_cases c : v ≤ 999
          · rw [if_pos c] at e ⊢
            rw [gw_w_id (x := 10 * v) (by omega), gw_w_id (x := 10 * v + t x) (by omega), gw_w_id (x := 10 * v + t x - 48) (by omega)]
            exact ih (x + 1) _ (by omega) (by omega) (by omega) e
          · rw [if_neg c] at e ⊢
            exact ih (x + 1) v (by omega) (by omega) h2 e
    exact key (L - f).toNat f 0 (by omega) (by omega) (by omega) rfl
theorem sp_X12_letter0 (t : Int → Int) (L : Int) (g : gw_Mem) (hT : gz_tp t L g) (r : Int → Int) (p : Int) (hp : 0 ≤ p ∧ p ≤ L) (a b c d : Int) : gw_SpecI M_X12_letter 11 [gR 117, gI a, gI b, gI c, gI d] (gz_ss g r 0 p) (fun v m' => v = gz_kd (gz_by t L (gz_ne t L p)) a b c d ∧ m' = if gz_kd (gz_by t L (gz_ne t L p)) a b c d < 0 then gz_ss g r 1 (gz_ne t L p) else gz_ss g r 0 (gz_ne t L p + 1)) := by
  refine gw_intro pl_X12_letter rfl (fun Γ => ?_)
  have hL := hT.2.1
  have an := gz_ne_in t hp
  apply r_X12_letter_0
  rw [gz_ss_14]
  refine ⟨fun _ => gw_CI.eq (sp_X12_here t L g hT r 0 p hp) rfl ?_, fun z => absurd rfl z⟩
  apply r_X12_letter_15
  rw [gz_ss_14, if_pos rfl, gz_ss_u14, gz_ss_14, gz_ss_13, gz_ss_u13]
  refine ⟨_, rfl, rfl, ?_⟩
  show gz_ss g r (if 0 ≤ gz_kd (gz_by t L (gz_ne t L p)) a b c d then 0 else 1) (gw_w (gz_ne t L p + if (if 0 ≤ gz_kd (gz_by t L (gz_ne t L p)) a b c d then (0 : Int) else 1) = 0 then 1 else 0)) = _
  by_cases h : 0 ≤ gz_kd (gz_by t L (gz_ne t L p)) a b c d
  · rw [if_pos h, if_pos rfl, if_neg (by omega), gw_w_id (by omega)]
  · rw [if_neg h, if_neg (by omega), if_pos (by omega), Int.add_zero, gw_w_id (by omega)]
