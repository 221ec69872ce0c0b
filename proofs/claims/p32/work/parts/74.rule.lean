/-! by the rule in time; what is chosen -/
theorem gp_vb_att (g : gw_Mem) (T : Int) (c : Nat) : (gd_vb g T c).2 = -1 ∧ (gd_vb g T c).1 = -4 ∨ ∃ i : Nat, i < c ∧ (gd_vb g T c).1 = i ∧ (gd_vb g T c).2 = gd_inT (gd_bq g i) T := by
  induction c with
  | zero => exact Or.inl ⟨rfl, rfl⟩
  | succ c ih =>
    rw [gd_vb]
    by_cases h : (gd_vb g T c).2 < gd_inT (gd_bq g c) T
    · rw [if_pos h]
      generalize hx : gd_inT (gd_bq g c) T = x
      exact Or.inr ⟨c, by omega, rfl, hx.symm⟩
    · rw [if_neg h]
      rcases ih with ih | ⟨i, h1, h2, h3⟩
      · exact Or.inl ih
      · exact Or.inr ⟨i, by omega, h2, h3⟩
theorem gp_lof0 {g : gw_Mem} (hn : 0 < gd_n g) : 0 ≤ gd_lof (gd_walks g) (gd_n g) := by
  have h := gd_walks_heard g
  generalize gd_walks g = w at *
  exact gd_lof_pos (gd_n g) (fun j hj => (h j hj).1) hn
theorem gp_inT_mono {g : gw_Mem} (hn : 0 < gd_n g) {T T' : Int} (h : T ≤ T') : gd_inT g T ≤ gd_inT g T' := by
  have l := gp_lof0 hn
  unfold gd_inT
  generalize gd_walks g = w at *
  by_cases h1 : 0 ≤ gd_alt w ∧ gd_alt w ≤ T
  · rw [if_pos h1, if_pos ⟨h1.1, by omega⟩]
    exact Int.le_refl _
  · rw [if_neg h1]
    split <;> omega
theorem gp_bq_n (g : gw_Mem) (c : Nat) : gd_n (gd_bq g c) = gd_n g := rfl
theorem gp_vb_mono {g : gw_Mem} (hn : 0 < gd_n g) {T T' : Int} (h : T ≤ T') : (gd_vb g T 220).2 ≤ (gd_vb g T' 220).2 := by
  have r := (gd_vb_rng g T' 220).1
  have a := gp_vb_att g T 220
  have ge := gd_vb_ge g T' 220
  generalize gd_vb g T 220 = x at *
  generalize gd_vb g T' 220 = y at *
  rcases a with a | ⟨i, h1, h2, h3⟩
  · omega
  · have z := ge i h1
    have mo := gp_inT_mono (g := gd_bq g i) (by rw [gp_bq_n]; exact hn) h
    omega
/-- the rule as it is, is one of those that are tried -/
theorem gp_bq_self {g : gw_Mem} (hJ : gd_JP g) (hs : g 122 2 < 5) : ∃ c : Nat, c < 220 ∧ gd_bq g c = g := by
  obtain ⟨h0, h1, h2, -⟩ := hJ.2.2.2.2.2.2.2.1
  refine ⟨((g 122 0 - 1) * 55 + g 122 1 * 5 + g 122 2).toNat, by omega, ?_⟩
  have e : ((((g 122 0 - 1) * 55 + g 122 1 * 5 + g 122 2).toNat : Nat) : Int) = (g 122 0 - 1) * 55 + g 122 1 * 5 + g 122 2 := by omega
  unfold gd_bq
  rw [e]
  have e0 : 1 + ((g 122 0 - 1) * 55 + g 122 1 * 5 + g 122 2) / 55 = g 122 0 := by omega
  have e1 : ((g 122 0 - 1) * 55 + g 122 1 * 5 + g 122 2) / 5 % 11 = g 122 1 := by omega
  have e2 : ((g 122 0 - 1) * 55 + g 122 1 * 5 + g 122 2) % 5 = g 122 2 := by omega
  rw [e0, e1, e2]
  rw [gw_up_same g 122 0 rfl, gw_up_same g 122 1 rfl, gw_up_same g 122 2 rfl]
theorem gp_best (g : gw_Mem) (hJ : gd_JP g) (hn : 0 < g 117 6) (t : Int) (ht : 0 ≤ t ∧ t ≤ 299) : (gd_vb g t 220).1 < 0 ∧ ga_best g t 0 = -4 ∧ ga_best g t 1 = -4 ∧ ga_best g t 2 = -4 ∧ ga_best g t 3 = -4 ∨ 0 ≤ (gd_vb g t 220).1 ∧ ga_best g t 0 = 1 + (gd_vb g t 220).1 / 55 ∧ ga_best g t 1 = (gd_vb g t 220).1 / 5 % 11 ∧ ga_best g t 2 = (gd_vb g t 220).1 % 5 ∧ ga_best g t 3 = (gd_vb g t 220).2 := by
  unfold ga_best
  rw [gd_bst_vb hJ t 220]
  generalize gd_vb g t 220 = x
  rw [if_pos (show (0 ≤ t ∧ t ≤ 299) ∧ 0 ≤ (0 : Int) ∧ (0 : Int) ≤ 3 by omega), if_pos (show (0 ≤ t ∧ t ≤ 299) ∧ 0 ≤ (1 : Int) ∧ (1 : Int) ≤ 3 by omega), if_pos (show (0 ≤ t ∧ t ≤ 299) ∧ 0 ≤ (2 : Int) ∧ (2 : Int) ≤ 3 by omega), if_pos (show (0 ≤ t ∧ t ≤ 299) ∧ 0 ≤ (3 : Int) ∧ (3 : Int) ≤ 3 by omega), if_neg (show ¬ g 117 6 = 0 by omega), if_neg (show ¬ g 117 6 = 0 by omega), if_neg (show ¬ g 117 6 = 0 by omega), if_neg (show ¬ g 117 6 = 0 by omega)]
  by_cases h : 0 ≤ x.1
  · right
    simp [h]
  · left
    rw [if_neg h, if_neg h, if_neg h, if_neg h]
    exact ⟨by omega, rfl, rfl, rfl, rfl⟩
/-- the whole of it -/
theorem gp_due {g : gw_Mem} (hJ : gd_JP g) (hn : 0 < gd_n g) (hs : g 122 2 < 5) (hby : 0 ≤ gd_alt (gd_walks g)) :
    gd_alt (gd_walks g) < 300 ∧ gd_ls (gd_walks g) (gd_n g) = 0 ∧ 0 ≤ gd_walks g 117 29 ∧ gd_walks g 117 29 ≤ gd_alt (gd_walks g) ∧
    gd_lof (gd_walks g) (gd_n g) ≤ (gd_vb g (gd_alt (gd_walks g)) 220).2 ∧ 0 ≤ (gd_vb g (gd_alt (gd_walks g)) 220).1 ∧ (gd_vb g (gd_alt (gd_walks g)) 220).2 ≤ (gd_vb g 299 220).2 ∧
    ∃ c : Nat, c < 220 ∧ (gd_vb g (gd_alt (gd_walks g)) 220).1 = c ∧ gd_lof (gd_walks (gd_bq g c)) (gd_n g) = (gd_vb g (gd_alt (gd_walks g)) 220).2 ∧ 0 ≤ gd_alt (gd_walks (gd_bq g c)) ∧ gd_alt (gd_walks (gd_bq g c)) ≤ gd_alt (gd_walks g) := by
  have th := fun (j : Nat) (hj : j < gd_n g) => gp_there hJ j hj
  have l0 := gp_lof0 hn
  have wn := gd_walks_n g
  have self := gp_bq_self hJ hs
  have inT0 : gd_inT g (gd_alt (gd_walks g)) = gd_lof (gd_walks g) (gd_n g) := by
    unfold gd_inT
    rw [if_pos ⟨hby, Int.le_refl _⟩]
  obtain ⟨by0, hby0⟩ : ∃ b : Int, b = gd_alt (gd_walks g) := ⟨_, rfl⟩
  rw [← hby0] at hby inT0 ⊢
  have all := (gd_alt_iff (gd_walks g) by0 hby (by omega)).mp (by rw [← hby0]; omega)
  have h300 : by0 < 300 := by
    have nt : gd_mx (gd_walks g) (gd_n (gd_walks g)) = by0 := by
      have e : gd_alt (gd_walks g) = by0 := hby0.symm
      unfold gd_alt at e
      by_cases z : gd_nt (gd_walks g) (gd_n (gd_walks g)) = 0
      · rw [if_pos z] at e; exact e
      · rw [if_neg z] at e; omega
    have m := (gd_mx_le (gd_walks g) (gd_n (gd_walks g)) 299 (by omega)).mpr (fun j hj => by
      rcases th j (by omega) with q | ⟨T, q1, q2, -⟩
      · omega
      · omega)
    omega
  have lost : gd_ls (gd_walks g) (gd_n g) = 0 := gp_ls_0 _ _ (fun j hj => by
    have a := all j (by omega)
    rcases th j hj with q | ⟨T, q1, q2, q3, q4, q5, -⟩ <;> omega)
  have guide : 0 ≤ gd_walks g 117 29 ∧ gd_walks g 117 29 ≤ by0 := by
    have a := all 0 (by omega)
    rcases th 0 hn with q | ⟨T, q1, q2, q3, q4, q5, q6, q7⟩ <;> omega
  obtain ⟨c0, hc0, ec0⟩ := self
  have ge := gd_vb_ge g by0 220 c0 hc0
  rw [ec0, inT0] at ge
  have at_ := gp_vb_att g by0 220
  have mono := gp_vb_mono hn (T := by0) (T' := 299) (by omega)
  have rg := gd_vb_rng g by0 220
  refine ⟨h300, lost, guide.1, guide.2, ge, ?_, mono, ?_⟩
  · have := rg.2.1
    omega
  · rcases at_ with a | ⟨i, h1, h2, h3⟩
    · omega
    · refine ⟨i, h1, h2, ?_⟩
      unfold gd_inT at h3
      rw [gp_bq_n] at h3
      by_cases z : 0 ≤ gd_alt (gd_walks (gd_bq g i)) ∧ gd_alt (gd_walks (gd_bq g i)) ≤ by0
      · rw [if_pos z] at h3
        exact ⟨h3.symm, z.1, z.2⟩
      · rw [if_neg z] at h3
        omega
/-! chosen -/
theorem gp_cs_pos {g : gw_Mem} (hJ : gd_JP g) (t : Int) (s : Nat) : ((gd_cs g t s).1 = -4 ∧ (gd_cs g t s).2 = -1) ∨ (0 ≤ (gd_cs g t s).1 ∧ (gd_cs g t s).1 < s ∧ 0 ≤ (gd_cs g t s).2 ∧ gd_way g + gd_ct g (gd_cs g t s).1 (g 118 0).toNat ≤ t) := by
  have hs := hJ.2.1 0 (by omega)
  induction s with
  | zero => exact Or.inl ⟨rfl, rfl⟩
  | succ s ih =>
    rw [gd_cs]
    have r := (gd_ct_rng hJ (s : Int) (g 118 0).toNat (by omega)).2.1
    by_cases h1 : t < gd_way g + gd_ct g s (g 118 0).toNat
    · rw [if_pos h1]
      rcases ih with ih | ih
      · exact Or.inl ih
      · exact Or.inr ⟨ih.1, by omega, ih.2.2⟩
    · rw [if_neg h1]
      by_cases h2 : gd_cw g s (g 118 0).toNat ≤ (gd_cs g t s).2
      · rw [if_pos h2]
        rcases ih with ih | ih
        · exact Or.inl ih
        · exact Or.inr ⟨ih.1, by omega, ih.2.2⟩
      · rw [if_neg h2]
        right
        dsimp only
        exact ⟨by omega, by omega, r, by omega⟩
theorem gp_cs_mono (g : gw_Mem) {t t' : Int} (h : t ≤ t') (s : Nat) : (gd_cs g t s).2 ≤ (gd_cs g t' s).2 := by
  induction s with
  | zero => exact Int.le_refl _
  | succ s ih =>
    rw [gd_cs, gd_cs]
    generalize gd_cs g t s = x at *
    generalize gd_cs g t' s = y at *
    by_cases h1 : t < gd_way g + gd_ct g s (g 118 0).toNat
    · rw [if_pos h1]
      repeat' split
      all_goals (try dsimp only)
      all_goals omega
    · rw [if_neg h1, if_neg (show ¬ t' < gd_way g + gd_ct g s (g 118 0).toNat by omega)]
      repeat' split
      all_goals (try dsimp only)
      all_goals omega
/-- what the chosen set takes, as the law sums it -/
def gp_tk (g : gw_Mem) (s : Int) : Nat → Int := gw_sum (fun k => if gw_and (gw_shr s k) 1 = 1 then g 120 k else 0)
theorem gp_tk_s (g : gw_Mem) (s : Int) (n : Nat) : gp_tk g s (n + 1) = gp_tk g s n + (if gw_and (gw_shr s n) 1 = 1 then g 120 n else 0) := rfl
theorem gp_tk_ct {g : gw_Mem} (hJ : gd_JP g) (s : Int) (n : Nat) (hn : (n : Int) ≤ g 118 0) : 0 ≤ gp_tk g s n ∧ gp_tk g s n ≤ gd_ct g s n ∧ gp_tk g s n ≤ 20 * n := by
  induction n with
  | zero => exact ⟨Int.le_refl _, Int.le_refl _, Int.le_refl _⟩
  | succ n ih =>
    have q := ih (by omega)
    have l := (hJ.2.2.1 0 n (by omega) (by omega)).2
    rw [show 8 * (0 : Int) + n = n by omega] at l
    have e : gd_lo 0 = 1 := rfl
    have e2 : gd_hi 0 = 20 := rfl
    rw [gp_tk_s, gd_ct_s]
    repeat' split
    all_goals omega
theorem gp_chosen {g : gw_Mem} (hJ : gd_JP g) (t : Int) (ht : 0 ≤ t ∧ t ≤ 999) :
    (ga_chosen g t 0 = -4 ∧ ga_chosen g t 1 = -4 ∧ t < gd_way g) ∨ (0 ≤ ga_chosen g t 0 ∧ 0 ≤ ga_chosen g t 1 ∧ gd_way g + gp_tk g (ga_chosen g t 0) (g 118 0).toNat ≤ t ∧ ∀ t' : Int, t ≤ t' → t' ≤ 999 → ga_chosen g t 1 ≤ ga_chosen g t' 1 ∧ 0 ≤ ga_chosen g t' 1) := by
  have hs := hJ.2.1 0 (by omega)
  have hsh := gd_shl hs
  have U : ∀ u : Int, 0 ≤ u ∧ u ≤ 999 → ((gd_cs g u (gw_shl 1 (g 118 0)).toNat).1 = -4 ∧ (gd_cs g u (gw_shl 1 (g 118 0)).toNat).2 = -1 ∧ ga_chosen g u 0 = -4 ∧ ga_chosen g u 1 = -4) ∨ (ga_chosen g u 0 = (gd_cs g u (gw_shl 1 (g 118 0)).toNat).1 ∧ ga_chosen g u 1 = (gd_cs g u (gw_shl 1 (g 118 0)).toNat).2 ∧ 0 ≤ (gd_cs g u (gw_shl 1 (g 118 0)).toNat).1 ∧ 0 ≤ (gd_cs g u (gw_shl 1 (g 118 0)).toNat).2 ∧ gd_way g + gd_ct g (gd_cs g u (gw_shl 1 (g 118 0)).toNat).1 (g 118 0).toNat ≤ u) := by
    intro u hu
    have p := gp_cs_pos hJ u (gw_shl 1 (g 118 0)).toNat
    have e : ∀ w : Int, 0 ≤ w ∧ w ≤ 1 → ga_chosen g u w = (if (gd_cs g u (gw_shl 1 (g 118 0)).toNat).1 < 0 then (gd_cs g u (gw_shl 1 (g 118 0)).toNat).1 else if w = 0 then (gd_cs g u (gw_shl 1 (g 118 0)).toNat).1 else (gd_cs g u (gw_shl 1 (g 118 0)).toNat).2) := fun w hw => by
      unfold ga_chosen
      rw [if_pos ⟨hu, hw⟩]
    rw [e 0 (by omega), e 1 (by omega)]
    generalize gd_cs g u (gw_shl 1 (g 118 0)).toNat = x at *
    rcases p with p | p
    · left
      rw [if_pos (by omega), if_pos (by omega)]
      exact ⟨p.1, p.2, p.1, p.1⟩
    · right
      rw [if_neg (show ¬ x.1 < 0 by omega), if_pos rfl, if_neg (show ¬ x.1 < 0 by omega), if_neg (show ¬ (1 : Int) = 0 by omega)]
      exact ⟨rfl, rfl, p.1, p.2.2.1, p.2.2.2⟩
  rcases U t ht with a | a
  · left
    refine ⟨a.2.2.1, a.2.2.2, ?_⟩
    by_cases h : gd_way g ≤ t
    · have z := (gd_cs_pos hJ t h ((gw_shl 1 (g 118 0)).toNat - 1)).1
      rw [show 1 + ((gw_shl 1 (g 118 0)).toNat - 1) = (gw_shl 1 (g 118 0)).toNat by omega] at z
      omega
    · omega
  · right
    have ct := gp_tk_ct hJ (gd_cs g t (gw_shl 1 (g 118 0)).toNat).1 (g 118 0).toNat (by omega)
    refine ⟨by omega, by omega, by rw [a.1]; omega, fun t' h1 h2 => ?_⟩
    have mo := gp_cs_mono g h1 (gw_shl 1 (g 118 0)).toNat
    rcases U t' (by omega) with b | b
    · omega
    · omega
