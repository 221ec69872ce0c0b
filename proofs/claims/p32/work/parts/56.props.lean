/-! what holds of every walk: the guide's steps -/
theorem gp_gs (m : gw_Mem) (t : Int) (k : Nat) (h0 : 0 ≤ m 117 16) (hE : m 117 0 ≤ 99) : m 117 16 ≤ gd_gs m t k 117 16 ∧ gd_gs m t k 117 16 ≤ m 117 16 + k ∧ (m 117 16 ≤ m 117 0 → gd_gs m t k 117 16 ≤ m 117 0) := by
  induction k generalizing m with
  | zero =>
    have e : gd_gs m t 0 = m := rfl
    rw [e]
    omega
  | succ k ih =>
    rw [gd_gs]
    by_cases h1 : m 117 0 ≤ m 117 16
    · rw [if_pos h1]; omega
    rw [if_neg h1]
    by_cases h2 : 0 ≤ gd_sh m
    · rw [if_pos h2]; omega
    rw [if_neg h2]
    by_cases h3 : gd_rd m (m 117 16) t = 0
    · rw [if_pos h3]
      have e0 : gw_up m 117 16 (gw_w (m 117 16 + 1)) 117 0 = m 117 0 := by rw [gw_up_at, if_neg (by omega)]
      have e16 : gw_up m 117 16 (gw_w (m 117 16 + 1)) 117 16 = m 117 16 + 1 := by rw [gw_up_at, if_pos rfl, gw_w_id (by omega)]
      have q := ih (gw_up m 117 16 (gw_w (m 117 16 + 1))) (by omega) (by omega)
      rw [e0, e16] at q
      omega
    · rw [if_neg h3]; omega
theorem gp_gA_16 (m m1 : gw_Mem) (t : Int) : gd_gA m m1 t 117 16 = gd_gs m1 t (m1 122 0).toNat 117 16 := by
  unfold gd_gA gd_ar
  rw [gw_up_at, if_neg (by omega)]
  by_cases h3 : gd_gs m1 t (m1 122 0).toNat 117 16 = m1 117 16
  · rw [if_pos h3]
  · rw [if_neg h3]
    unfold gd_clr
    rw [gw_up_at, if_neg (by omega), gw_up_at, if_neg (by omega), gw_up_at, if_neg (by omega), gw_up_at, if_neg (by omega), gw_up_at, if_neg (by omega)]
theorem gp_gg {g : gw_Mem} (hJ : gd_JP g) (t : Int) (h0 : 0 ≤ g 117 16 ∧ g 117 16 ≤ g 117 0) : g 117 16 ≤ gd_gg g t 117 16 ∧ gd_gg g t 117 16 ≤ g 117 16 + g 122 0 ∧ gd_gg g t 117 16 ≤ g 117 0 := by
  have hr := hJ.2.2.2.2.2.2.2.1.1
  have hE := hJ.1
  unfold gd_gg
  by_cases h1 : g 117 16 = g 117 0
  · rw [if_pos h1]; omega
  rw [if_neg h1]
  have k16 := gd_kp_16 g
  have kw := gd_kp_wf g
  have e0 : (gd_kp g).2 117 0 = g 117 0 := kw.2 0 (by omega)
  have e122 : (gd_kp g).2 122 0 = g 122 0 := by rw [kw.1 122 (by omega) (by omega)]
  by_cases h2 : (gd_kp g).1 = 0
  · rw [if_pos h2, gp_gA_16]
    have q := gp_gs (gd_kp g).2 t ((gd_kp g).2 122 0).toNat (by omega) (by omega)
    omega
  · rw [if_neg h2]; omega
theorem gp_gg_fin {g : gw_Mem} (t : Int) (hle : g 117 16 ≤ g 117 0) : gd_gg g t 117 30 = g 117 30 ∧ (g 117 16 = g 117 0 → gd_gg g t 117 29 = g 117 29) ∧ (g 117 16 < g 117 0 → gd_gg g t 117 29 = (if gd_gg g t 117 16 = g 117 0 then t else g 117 29)) := by
  by_cases h : g 117 16 < g 117 0
  · have q := gd_gg_fin g t h
    exact ⟨q.1, fun z => by omega, fun _ => q.2⟩
  · have e : gd_gg g t = g := by rw [gd_gg, if_pos (by omega)]
    rw [e]
    exact ⟨rfl, fun _ => rfl, fun z => absurd z h⟩
/-! the steps of one -/
theorem gp_lw {m : gw_Mem} {x : Int} (h : ¬ gd_lw m x = 0) : m 123 x ≠ 3 := by
  intro h3
  apply h
  have e : gd_lk m x = -4 := by unfold gd_lk; rw [if_pos h3]
  unfold gd_lw
  rw [e, if_pos (by omega)]
theorem gp_fs (m : gw_Mem) (x t : Int) (k : Nat) (hE : m 117 0 ≤ 99) (hx : 0 ≤ m 129 x ∧ m 129 x ≤ m 117 16) (hg : m 117 16 ≤ m 117 0) :
    m 129 x ≤ gd_fs m x t k 129 x ∧ gd_fs m x t k 129 x ≤ m 129 x + k ∧ gd_fs m x t k 129 x ≤ m 117 16 ∧ (gd_fs m x t k 131 x = m 131 x ∨ 0 ≤ gd_fs m x t k 131 x ∧ gd_fs m x t k 131 x = gd_fs m x t k 129 x ∧ gd_fs m x t k 129 x < m 117 0 ∧ m 123 x ≠ 3) := by
  induction k generalizing m with
  | zero =>
    have e : gd_fs m x t 0 = m := rfl
    rw [e]
    exact ⟨by omega, by omega, by omega, Or.inl rfl⟩
  | succ k ih =>
    rw [gd_fs]
    have same : m 129 x ≤ m 129 x ∧ m 129 x ≤ m 129 x + ((k + 1 : Nat) : Int) ∧ m 129 x ≤ m 117 16 ∧ (m 131 x = m 131 x ∨ 0 ≤ m 131 x ∧ m 131 x = m 129 x ∧ m 129 x < m 117 0 ∧ m 123 x ≠ 3) := ⟨by omega, by omega, by omega, Or.inl rfl⟩
    by_cases h1 : m 117 16 ≤ m 129 x
    · rw [if_pos h1]; exact same
    rw [if_neg h1]
    by_cases h2 : gd_rd m (m 129 x) t = 0
    · rw [if_pos h2]
      by_cases h3 : m 123 x = 3 ∧ gd_lst m x (gd_n m) ≤ m 129 x
      · rw [if_pos h3]; exact same
      rw [if_neg h3]
      by_cases h4 : gd_lw m x = 0
      · rw [if_pos h4]
        have u129 : gd_up1 m x 129 x = m 129 x + 1 := by
          unfold gd_up1
          rw [gw_up_at, if_pos rfl, gw_w_id (by omega)]
        have une : ∀ o : Nat, o ≠ 129 → gd_up1 m x o = m o := fun o ho => by
          unfold gd_up1
          rw [gw_up_ne ho]
        generalize gd_up1 m x = u at *
        have u117 := une 117 (by omega)
        have u131 := une 131 (by omega)
        have u123 := une 123 (by omega)
        by_cases h5 : gd_wd u x < 0
        · rw [if_pos h5]
          have q := ih u (by rw [u117]; exact hE) (by rw [u117, u129]; omega) (by rw [u117]; exact hg)
          rw [u117, u129, u131, u123] at q
          exact ⟨by omega, by omega, by omega, q.2.2.2⟩
        · rw [if_neg h5]
          have e1 : gw_up u 130 x (u 120 (16 + gd_wd u x)) 129 x = u 129 x := by rw [gw_up_ne (by omega)]
          have e2 : gw_up u 130 x (u 120 (16 + gd_wd u x)) 131 x = u 131 x := by rw [gw_up_ne (by omega)]
          rw [e1, e2, u129, u131]
          exact ⟨by omega, by omega, by omega, Or.inl rfl⟩
      · rw [if_neg h4]
        have e1 : gw_up m 131 x (m 129 x) 129 x = m 129 x := by rw [gw_up_ne (by omega)]
        have e2 : gw_up m 131 x (m 129 x) 131 x = m 129 x := by rw [gw_up_at, if_pos rfl]
        rw [e1, e2]
        exact ⟨by omega, by omega, by omega, Or.inr ⟨by omega, rfl, by omega, gp_lw h4⟩⟩
    · rw [if_neg h2]; exact same
theorem gp_go (m : gw_Mem) (x t : Int) (hE : m 117 0 ≤ 99) (hx : 0 ≤ m 129 x ∧ m 129 x ≤ m 117 16) (hg : m 117 16 ≤ m 117 0) (hp : 0 ≤ m 124 x) :
    m 129 x ≤ gd_go m x t 129 x ∧ gd_go m x t 129 x ≤ m 129 x + m 124 x ∧ gd_go m x t 129 x ≤ m 117 16 ∧ (gd_go m x t 131 x = m 131 x ∨ 0 ≤ gd_go m x t 131 x ∧ gd_go m x t 131 x = gd_go m x t 129 x ∧ gd_go m x t 129 x < m 117 0 ∧ m 123 x ≠ 3) ∧ (m 123 x = 2 → t.tmod 2 = 1 → gd_go m x t 129 x = m 129 x) := by
  unfold gd_go
  by_cases h1 : m 123 x = 1 ∧ 0 < m 130 x
  · rw [if_pos h1]
    have e1 : gw_up m 130 x (gw_w (m 130 x - 1)) 129 x = m 129 x := by rw [gw_up_ne (by omega)]
    have e2 : gw_up m 130 x (gw_w (m 130 x - 1)) 131 x = m 131 x := by rw [gw_up_ne (by omega)]
    rw [e1, e2]
    exact ⟨by omega, by omega, by omega, Or.inl rfl, fun _ _ => rfl⟩
  rw [if_neg h1]
  by_cases h2 : m 123 x = 2 ∧ t.tmod 2 = 1
  · rw [if_pos h2]
    exact ⟨by omega, by omega, by omega, Or.inl rfl, fun _ _ => rfl⟩
  rw [if_neg h2]
  have q := gp_fs m x t (m 124 x).toNat hE hx hg
  exact ⟨q.1, by omega, q.2.2.1, q.2.2.2, fun a b => absurd ⟨a, b⟩ h2⟩
/-- one of the people, in a minute's steps -/
theorem gp_pp (g : gw_Mem) (t : Int) (j : Nat) (hj : j < gd_n g) (hE : g 117 0 ≤ 99) (hx : 0 ≤ g 129 j ∧ g 129 j ≤ g 117 16) (hg : g 117 16 ≤ g 117 0) (hp : 0 ≤ g 124 j) :
    g 129 j ≤ gd_pp g t (gd_n g) 129 j ∧ gd_pp g t (gd_n g) 129 j ≤ g 129 j + g 124 j ∧ gd_pp g t (gd_n g) 129 j ≤ g 117 16 ∧ (0 ≤ g 131 j → gd_pp g t (gd_n g) 129 j = g 129 j ∧ gd_pp g t (gd_n g) 131 j = g 131 j) ∧ (gd_pp g t (gd_n g) 131 j = g 131 j ∨ 0 ≤ gd_pp g t (gd_n g) 131 j ∧ gd_pp g t (gd_n g) 131 j = gd_pp g t (gd_n g) 129 j ∧ gd_pp g t (gd_n g) 129 j < g 117 0 ∧ g 123 j ≠ 3) ∧ (g 123 j = 2 → t.tmod 2 = 1 → gd_pp g t (gd_n g) 129 j = g 129 j) := by
  rw [gd_pp_hi g t j _ hj 129, gd_pp_hi g t j _ hj 131, gd_pp]
  have lo : ∀ o : Nat, gd_pp g t j o j = g o j := fun o => gd_pp_lo _ _ _ _ _ (Int.le_refl _)
  have l117 : gd_pp g t j 117 = g 117 := gd_pp_ne g t j 117 (by omega)
  have l123 : gd_pp g t j 123 j = g 123 j := lo 123
  by_cases hl : gd_lost (gd_pp g t j) j = 0
  · rw [if_pos hl]
    have hl2 : g 131 j < 0 := by
      rw [gd_lostz, lo 131] at hl
      exact hl
    have q := gp_go (gd_pp g t j) j t (by rw [l117]; exact hE) (by rw [l117, lo 129]; exact hx) (by rw [l117]; exact hg) (by rw [lo 124]; exact hp)
    rw [l117, lo 129, lo 131, lo 124, lo 123] at q
    exact ⟨q.1, q.2.1, q.2.2.1, fun z => by omega, q.2.2.2.1, q.2.2.2.2⟩
  · rw [if_neg hl, lo 129, lo 131]
    exact ⟨by omega, by omega, by omega, fun _ => ⟨rfl, rfl⟩, Or.inl rfl, fun _ _ => rfl⟩
/-- who rested -/
theorem gp_bs133 (m : gw_Mem) (t : Int) (n : Nat) (j : Int) (h : 0 ≤ m 133 j ∧ m 133 j ≤ 1000) : m 133 j ≤ (gd_bs m t n).2 133 j ∧ (gd_bs m t n).2 133 j ≤ m 133 j + 1 ∧ ((n : Int) ≤ j → (gd_bs m t n).2 133 j = m 133 j) := by
  induction n with
  | zero =>
    have e : (gd_bs m t 0).2 = m := rfl
    rw [e]
    exact ⟨by omega, by omega, fun _ => rfl⟩
  | succ n ih =>
    rw [gd_bs]
    by_cases hl : gd_lost (gd_bs m t n).2 n = 0
    · rw [if_pos hl]
      dsimp only
      unfold gd_br
      rw [gw_up_ne (by omega), gw_up_at]
      by_cases e : j = (n : Int)
      · rw [if_pos e]
        have q := ih.2.2 (by omega)
        rw [← e]
        generalize (gd_bs m t n).2 = w at *
        have : ∀ z : Int, (z = 0 ∨ z = 1) → gw_w (w 133 j + z) = w 133 j + z := fun z hz => gw_w_id (by omega)
        have hz : (if w 129 j = w 117 16 then (if w 117 0 ≤ w 117 16 then (0 : Int) else 1) else 0) = 0 ∨ (if w 129 j = w 117 16 then (if w 117 0 ≤ w 117 16 then (0 : Int) else 1) else 0) = 1 := by
          split
          · split
            · exact Or.inl rfl
            · exact Or.inr rfl
          · exact Or.inl rfl
        rw [this _ hz]
        exact ⟨by omega, by omega, fun z => by omega⟩
      · rw [if_neg e]
        exact ⟨ih.1, ih.2.1, fun z => ih.2.2 (by omega)⟩
    · rw [if_neg hl]
      exact ⟨ih.1, ih.2.1, fun z => ih.2.2 (by omega)⟩
/-! what lasts from minute to minute -/
def gp_C (g : gw_Mem) (k : Int) (j : Int) : Prop := (0 ≤ g 129 j ∧ g 129 j ≤ g 117 16) ∧ (g 131 j = -4 ∨ 0 ≤ g 131 j ∧ g 131 j = g 129 j ∧ g 129 j < g 117 0 ∧ g 123 j ≠ 3) ∧ (g 134 j = -4 ∨ (0 ≤ g 134 j ∧ g 134 j < k ∧ g 129 j = g 117 0 ∧ g 117 29 ≤ g 134 j)) ∧ 0 ≤ g 133 j ∧ g 133 j ≤ k
def gp_I (g : gw_Mem) (k : Int) : Prop := (0 ≤ g 117 16 ∧ g 117 16 ≤ g 117 0) ∧ (g 117 29 = -4 ∧ g 117 16 < g 117 0 ∨ 0 ≤ g 117 29 ∧ g 117 29 < k ∧ g 117 16 = g 117 0) ∧ ∀ j : Nat, j < gd_n g → gp_C g k j
def gp_St (g g' : gw_Mem) (t : Int) : Prop := g 117 16 ≤ g' 117 16 ∧ g' 117 16 ≤ g 117 16 + g 122 0 ∧ g 117 30 ≤ g' 117 30 ∧ gd_o g' ≤ g' 117 30 ∧ ∀ j : Nat, j < gd_n g → g 129 j ≤ g' 129 j ∧ g' 129 j ≤ g 129 j + g 124 j ∧ (g 123 j = 2 → t.tmod 2 = 1 → g' 129 j = g 129 j)
theorem gp_min {g : gw_Mem} (hJ : gd_JP g) (t : Nat) (ht : t < 300) (h : gp_I g t) : gp_I (gd_min g t) ((t : Int) + 1) ∧ gp_St g (gd_min g t) t := by
  obtain ⟨hA, hB, hC⟩ := h
  have hE := hJ.1
  have hnc := gd_n_cast hJ
  have g1 := gp_gg hJ (t : Int) hA
  have g2 := gp_gg_fin (g := g) (t : Int) hA.2
  have gw := gd_gg_wf g (t : Int)
  have gne : ∀ o : Nat, o ≠ 117 → o ≠ 132 → gd_gg g (t : Int) o = g o := fun o h1 h2 => gd_gg_ne g t h1 h2
  have g0 : gd_gg g (t : Int) 117 0 = g 117 0 := gw.2 0 (by omega)
  have gn : gd_n (gd_gg g (t : Int)) = gd_n g := gd_wf_n gw
  have mj := gd_min_j g (t : Int)
  have e132 : gd_min g (t : Int) = gd_bh (gd_pp (gd_gg g t) t (gd_n g)) t := rfl
  have mw := gd_min_wf g (t : Int)
  generalize hu : gd_gg g (t : Int) = u at *
  have pj := fun (j : Nat) (hj : j < gd_n g) => gp_pp u (t : Int) j (by rw [gn]; exact hj) (by omega) (by rw [gne 129 (by omega) (by omega)]; have := (hC j hj).1; omega) (by omega) (by rw [gne 124 (by omega) (by omega)]; have := (hJ.2.2.2.2.2.1 j (by omega)).2.1; omega)
  rw [gn] at pj
  have p117 : gd_pp u t (gd_n g) 117 = u 117 := gd_pp_ne u t _ 117 (by omega)
  have p133 : gd_pp u t (gd_n g) 133 = u 133 := gd_pp_ne u t _ 133 (by omega)
  have pn : gd_n (gd_pp u t (gd_n g)) = gd_n g := by rw [gd_wf_n (gd_pp_wf _ _ _), gn]
  generalize gd_pp u (t : Int) (gd_n g) = q at *
  obtain ⟨b1, b2, b3, b4, -⟩ := gd_bh_at q (t : Int)
  rw [← e132] at b1 b2 b3 b4
  have m16 : gd_min g (t : Int) 117 16 = u 117 16 := by rw [b2 16 (by omega) (by omega), p117]
  have m29 : gd_min g (t : Int) 117 29 = u 117 29 := by rw [b2 29 (by omega) (by omega), p117]
  have m0 : gd_min g (t : Int) 117 0 = g 117 0 := mw.2 0 (by omega)
  have m129 : ∀ j : Int, gd_min g (t : Int) 129 j = q 129 j := fun j => by rw [b1 129 (by omega) (by omega), gd_bs_ne q t _ 129 (by omega) (by omega)]
  have m131 : ∀ j : Int, gd_min g (t : Int) 131 j = q 131 j := fun j => by rw [b1 131 (by omega) (by omega), gd_bs_ne q t _ 131 (by omega) (by omega)]
  have m123 : ∀ j : Int, gd_min g (t : Int) 123 j = g 123 j := fun j => by rw [mw.1 123 (by omega) (by omega)]
  have m133 : ∀ j : Nat, j < gd_n g → g 133 j ≤ gd_min g (t : Int) 133 j ∧ gd_min g (t : Int) 133 j ≤ g 133 j + 1 := fun j hj => by
    have hq := (hC j hj).2.2.2
    have e : q 133 (j : Int) = g 133 j := by rw [p133, gne 133 (by omega) (by omega)]
    have z := gp_bs133 q (t : Int) (gd_n q) (j : Int) (by rw [e]; omega)
    rw [b1 133 (by omega) (by omega)]
    omega
  have m30 : gd_min g (t : Int) 117 30 = if gd_o q ≤ g 117 30 then g 117 30 else gd_o q := by rw [b3, p117, g2.1]
  have mn : gd_n (gd_min g (t : Int)) = gd_n g := gd_wf_n mw
  clear e132 b1 b2 b3
  generalize gd_min g (t : Int) = w at *
  have hB' : w 117 29 = -4 ∧ w 117 16 < w 117 0 ∨ 0 ≤ w 117 29 ∧ w 117 29 < (t : Int) + 1 ∧ w 117 16 = w 117 0 := by
    rw [m29, m16, m0]
    rcases hB with ⟨c1, c2⟩ | ⟨c1, c2, c3⟩
    · have e := g2.2.2 c2
      by_cases hx : u 117 16 = g 117 0
      · rw [if_pos hx] at e
        right; omega
      · rw [if_neg hx] at e
        left; omega
    · have e := g2.2.1 c3
      right; omega
  refine ⟨⟨by omega, hB', fun j hj => ?_⟩, by omega, by omega, ?_, ?_, fun j hj => ?_⟩
  · rw [mn] at hj
    obtain ⟨c1, c2, c3, c4⟩ := hC j hj
    obtain ⟨q1, q2, q3, q4, q5, q6⟩ := pj j hj
    obtain ⟨_, mj2⟩ := mj j hj
    have u129 : u 129 (j : Int) = g 129 j := by rw [gne 129 (by omega) (by omega)]
    have u131 : u 131 (j : Int) = g 131 j := by rw [gne 131 (by omega) (by omega)]
    have u123 : u 123 (j : Int) = g 123 j := by rw [gne 123 (by omega) (by omega)]
    have a133 := m133 j hj
    refine ⟨by rw [m129, m16]; omega, ?_, ?_, by omega, by omega⟩
    · rw [m131, m129, m0, m123]
      rcases q5 with q5 | q5
      · rcases c2 with c2 | c2
        · left; omega
        · have q7 := q4 (by omega)
          right
          refine ⟨by omega, by omega, by omega, c2.2.2.2⟩
      · right
        refine ⟨q5.1, q5.2.1, by omega, ?_⟩
        rw [← u123]; exact q5.2.2.2
    · rcases mj2 with e | e
      · rcases c3 with c3 | c3
        · left; omega
        · right
          refine ⟨by omega, by omega, ?_, ?_⟩
          · rw [m129, m0]; omega
          · rcases hB with hB | hB
            · omega
            · have z := g2.2.1 hB.2.2
              omega
      · right
        refine ⟨by omega, by omega, by rw [m0]; exact e.2.2.1, ?_⟩
        omega
  · rw [m30]
    split <;> omega
  · rw [b4, m30]
    split <;> omega
  · obtain ⟨q1, q2, q3, q4, q5, q6⟩ := pj j hj
    have u129 : u 129 (j : Int) = g 129 j := by rw [gne 129 (by omega) (by omega)]
    have u124 : u 124 (j : Int) = g 124 j := by rw [gne 124 (by omega) (by omega)]
    have u123 : u 123 (j : Int) = g 123 j := by rw [gne 123 (by omega) (by omega)]
    rw [m129]
    exact ⟨by omega, by omega, fun a b => by rw [q6 (by rw [u123]; exact a) b, u129]⟩
/-! along a whole walk -/
theorem gp_run_JP {g : gw_Mem} (hJ : gd_JP g) (k : Nat) : gd_JP (gd_run (gd_beg g) k) := gd_wf_JP (gd_wf_tr (gd_beg_wf g) (gd_run_wf _ k)) hJ
theorem gp_run_n (g : gw_Mem) (k : Nat) : gd_n (gd_run (gd_beg g) k) = gd_n g := gd_wf_n (gd_wf_tr (gd_beg_wf g) (gd_run_wf _ k))
theorem gp_run_w (g : gw_Mem) (k : Nat) : gd_wf g (gd_run (gd_beg g) k) := gd_wf_tr (gd_beg_wf g) (gd_run_wf _ k)
theorem gp_run_I {g : gw_Mem} (hJ : gd_JP g) (k : Nat) (hk : k ≤ 300) : gp_I (gd_run (gd_beg g) k) k := by
  induction k with
  | zero =>
    have b := gd_beg_at g
    have hE := hJ.1
    show gp_I (gd_beg g) ((0 : Nat) : Int)
    have e16 := b.2.2.1 16 (by omega)
    have e29 := b.2.2.2.1
    have e0 := b.2.2.2.2.2.1
    refine ⟨by omega, Or.inl ⟨e29, by omega⟩, fun j hj => ?_⟩
    have hj2 : j < gd_n g := by rw [gd_wf_n (gd_beg_wf g)] at hj; exact hj
    have e129 := b.2.1 129 (by omega) j (by omega)
    have e131 := b.2.1 131 (by omega) j (by omega)
    have e133 := b.2.1 133 (by omega) j (by omega)
    have e134 := b.2.1 134 (by omega) j (by omega)
    have i129 : gd_iv 129 = 0 := rfl
    have i131 : gd_iv 131 = -4 := rfl
    have i133 : gd_iv 133 = 0 := rfl
    have i134 : gd_iv 134 = -4 := rfl
    exact ⟨by omega, Or.inl (by omega), Or.inl (by omega), by omega, by omega⟩
  | succ k ih =>
    have h := (gp_min (gp_run_JP hJ k) k (by omega) (ih (by omega))).1
    exact h
theorem gp_run_St {g : gw_Mem} (hJ : gd_JP g) (k : Nat) (hk : k < 300) : gp_St (gd_run (gd_beg g) k) (gd_run (gd_beg g) (k + 1)) k := (gp_min (gp_run_JP hJ k) k hk (gp_run_I hJ k (by omega))).2
