/-! what is answered of a walk -/
theorem gp_at_g {g : gw_Mem} (hJ : gd_JP g) (t : Nat) (ht : t < 300) : ga_at g t (-1) = gd_run (gd_beg g) (t + 1) 117 16 := by
  have f := (gd_walks_film hJ t ht).1
  have hn := hJ.2.2.2.2.1
  unfold ga_at
  rw [if_pos (show (0 ≤ (t : Int) ∧ (t : Int) ≤ 299) ∧ -2 ≤ (-1 : Int) ∧ (-1 : Int) ≤ g 117 6 - 1 by omega), if_pos rfl, Int.add_zero]
  exact f
theorem gp_at_o {g : gw_Mem} (hJ : gd_JP g) (t : Nat) (ht : t < 300) : ga_at g t (-2) = gd_o (gd_run (gd_beg g) (t + 1)) := by
  have f := (gd_walks_film hJ t ht).2.1
  have hn := hJ.2.2.2.2.1
  unfold ga_at
  rw [if_pos (show (0 ≤ (t : Int) ∧ (t : Int) ≤ 299) ∧ -2 ≤ (-2 : Int) ∧ (-2 : Int) ≤ g 117 6 - 1 by omega), if_neg (show ¬ (-2 : Int) = -1 by omega), if_pos rfl]
  exact f
theorem gp_at_j {g : gw_Mem} (hJ : gd_JP g) (t : Nat) (ht : t < 300) (j : Nat) (hj : j < gd_n g) : ga_at g t j = gd_run (gd_beg g) (t + 1) 129 j := by
  have hnc := gd_n_cast hJ
  have f := (gd_walks_film hJ t ht).2.2 (j : Int) (by omega)
  unfold ga_at
  rw [if_pos (show (0 ≤ (t : Int) ∧ (t : Int) ≤ 299) ∧ -2 ≤ (j : Int) ∧ (j : Int) ≤ g 117 6 - 1 by omega), if_neg (show ¬ (j : Int) = -1 by omega), if_neg (show ¬ (j : Int) = -2 by omega), show 12 * (t : Int) + (2 + (j : Int)) = 12 * t + 2 + j by omega]
  exact f
theorem gp_fate {g : gw_Mem} (hJ : gd_JP g) (j : Nat) (hj : j < gd_n g) : ga_fate g j 0 = gd_walks g 132 j ∧ ga_fate g j 1 = gd_walks g 133 j ∧ ga_fate g j 2 = gd_walks g 134 j ∧ ga_fate g j 3 = gd_walks g 131 j := by
  have hnc := gd_n_cast hJ
  have hp : 0 ≤ (j : Int) ∧ (j : Int) ≤ g 117 6 - 1 := by omega
  unfold ga_fate
  generalize gd_walks g = w
  refine ⟨?_, ?_, ?_, ?_⟩
  · rw [if_pos ⟨hp, by omega⟩, if_pos rfl]
  · rw [if_pos ⟨hp, by omega⟩, if_neg (by omega), if_pos rfl]
  · rw [if_pos ⟨hp, by omega⟩, if_neg (by omega), if_neg (by omega), if_pos rfl]
  · rw [if_pos ⟨hp, by omega⟩, if_neg (by omega), if_neg (by omega), if_neg (by omega)]
theorem gp_all (g : gw_Mem) : ga_all g 0 = gd_ha (gd_walks g) (gd_n g) ∧ ga_all g 1 = gd_lof (gd_walks g) (gd_n g) ∧ ga_all g 2 = gd_walks g 117 29 ∧ ga_all g 3 = gd_alt (gd_walks g) ∧ ga_all g 4 = gd_walks g 117 30 ∧ ga_all g 5 = gd_ls (gd_walks g) (gd_n g) := by
  unfold ga_all
  generalize gd_walks g = w
  refine ⟨?_, ?_, ?_, ?_, ?_, ?_⟩
  · rw [if_pos (by omega), if_pos rfl]
  · rw [if_pos (by omega), if_neg (by omega), if_pos rfl]
  · rw [if_pos (by omega), if_neg (by omega), if_neg (by omega), if_pos rfl]
  · rw [if_pos (by omega), if_neg (by omega), if_neg (by omega), if_neg (by omega), if_pos rfl]
  · rw [if_pos (by omega), if_neg (by omega), if_neg (by omega), if_neg (by omega), if_neg (by omega), if_pos rfl]
  · rw [if_pos (by omega), if_neg (by omega), if_neg (by omega), if_neg (by omega), if_neg (by omega), if_neg (by omega)]
theorem gp_w300 (g : gw_Mem) : gd_run (gd_beg g) 300 = gd_walks g := rfl
/-- one minute of the walk, as the law sees it -/
theorem gp_minute {g : gw_Mem} (hJ : gd_JP g) (t : Nat) (ht : t < 300) :
    (gd_run (gd_beg g) t 117 16 ≤ gd_run (gd_beg g) (t + 1) 117 16 ∧ gd_run (gd_beg g) (t + 1) 117 16 - gd_run (gd_beg g) t 117 16 ≤ g 122 0 ∧ 0 ≤ gd_run (gd_beg g) t 117 16 ∧ gd_run (gd_beg g) (t + 1) 117 16 ≤ g 117 0) ∧
    (∀ j : Nat, j < gd_n g → (0 ≤ gd_run (gd_beg g) t 129 j ∧ gd_run (gd_beg g) t 129 j ≤ gd_run (gd_beg g) (t + 1) 129 j) ∧ gd_run (gd_beg g) (t + 1) 129 j - gd_run (gd_beg g) t 129 j ≤ g 124 j ∧ gd_run (gd_beg g) (t + 1) 129 j ≤ gd_run (gd_beg g) (t + 1) 117 16 ∧ (g 123 j = 2 → (t : Int).tmod 2 = 1 → gd_run (gd_beg g) (t + 1) 129 j = gd_run (gd_beg g) t 129 j)) := by
  have s := gp_run_St hJ t ht
  have i0 := gp_run_I hJ t (by omega)
  have i1 := gp_run_I hJ (t + 1) (by omega)
  have w := gp_run_w g t
  have w1 := gp_run_w g (t + 1)
  have n0 := gp_run_n g t
  have n1 := gp_run_n g (t + 1)
  have e122 : gd_run (gd_beg g) t 122 0 = g 122 0 := by rw [w.1 122 (by omega) (by omega)]
  have e0 : gd_run (gd_beg g) (t + 1) 117 0 = g 117 0 := w1.2 0 (by omega)
  have e123 : ∀ j : Int, gd_run (gd_beg g) t 123 j = g 123 j := fun j => by rw [w.1 123 (by omega) (by omega)]
  have e124 : ∀ j : Int, gd_run (gd_beg g) t 124 j = g 124 j := fun j => by rw [w.1 124 (by omega) (by omega)]
  generalize gd_run (gd_beg g) (t + 1) = b at *
  generalize gd_run (gd_beg g) t = a at *
  refine ⟨⟨s.1, by have := s.2.1; omega, i0.1.1, by have := i1.1.2; omega⟩, fun j hj => ?_⟩
  have s5 := s.2.2.2.2 j (by omega)
  have c0 := i0.2.2 j (by omega)
  have c1 := i1.2.2 j (by omega)
  rw [e123, e124] at s5
  exact ⟨⟨c0.1.1, s5.1⟩, by have := s5.2.1; omega, c1.1.2, s5.2.2⟩
theorem gp_ll {g : gw_Mem} (n : Nat) (h : ∀ j : Nat, j < n → 0 ≤ g 129 j ∧ g 129 j ≤ g 117 16) (h16 : g 117 16 ≤ 99) : gd_ll g n = 1000 ∨ 0 ≤ gd_ll g n ∧ gd_ll g n ≤ g 117 16 := by
  induction n with
  | zero => exact Or.inl rfl
  | succ n ih =>
    have q := ih (fun j hj => h j (by omega))
    have z := h n (by omega)
    rw [gd_ll_s]
    by_cases h1 : g 131 (n : Int) < 0
    · rw [if_pos h1]
      by_cases h2 : gd_ll g n ≤ g 129 (n : Int)
      · rw [if_pos h2]; exact q
      · rw [if_neg h2]; right; exact z
    · rw [if_neg h1]; exact q
theorem gp_out {g : gw_Mem} (hJ : gd_JP g) (k : Nat) (hk : k ≤ 300) : gd_o (gd_run (gd_beg g) k) = -4 ∨ 0 ≤ gd_o (gd_run (gd_beg g) k) ∧ gd_o (gd_run (gd_beg g) k) ≤ gd_run (gd_beg g) k 117 16 := by
  have i := gp_run_I hJ k hk
  have hE := (gp_run_JP hJ k).1
  generalize gd_run (gd_beg g) k = w at *
  have q := gp_ll (gd_n w) (fun j hj => (i.2.2 j hj).1) (by have := i.1; omega)
  unfold gd_o
  by_cases h : gd_ll w (gd_n w) = 1000
  · rw [if_pos h]; exact Or.inl rfl
  · rw [if_neg h]
    rcases q with q | q
    · exact absurd q h
    · have i1 := i.1
      rw [gw_w_id (by omega)]
      right
      omega
theorem gp_30 {g : gw_Mem} (hJ : gd_JP g) (k : Nat) : ∀ d : Nat, k + d ≤ 300 → gd_run (gd_beg g) k 117 30 ≤ gd_run (gd_beg g) (k + d) 117 30 := by
  intro d
  induction d with
  | zero => intro _; exact Int.le_refl _
  | succ d ih =>
    intro h
    exact Int.le_trans (ih (by omega)) (gp_run_St hJ (k + d) (by omega)).2.2.1
theorem gp_most {g : gw_Mem} (hJ : gd_JP g) : -4 ≤ gd_walks g 117 30 ∧ ∀ t : Nat, t < 300 → gd_o (gd_run (gd_beg g) (t + 1)) ≤ gd_walks g 117 30 := by
  have b : gd_run (gd_beg g) 0 117 30 = -4 := (gd_beg_at g).2.2.2.2.1
  have z := gp_30 hJ 0 300 (by omega)
  rw [b] at z
  refine ⟨z, fun t ht => ?_⟩
  have q := gp_30 hJ (t + 1) (300 - (t + 1)) (by omega)
  rw [show t + 1 + (300 - (t + 1)) = 300 by omega] at q
  exact Int.le_trans (gp_run_St hJ t ht).2.2.2.1 q
/-- whether one comes to the end, and when -/
theorem gp_there {g : gw_Mem} (hJ : gd_JP g) (j : Nat) (hj : j < gd_n g) :
    (gd_walks g 134 j = -4 ∧ gd_run (gd_beg g) 300 129 j < g 117 0) ∨ ∃ T : Nat, gd_walks g 134 j = T ∧ T < 300 ∧ gd_run (gd_beg g) (T + 1) 129 j = g 117 0 ∧ (T = 0 ∨ gd_run (gd_beg g) T 129 j < g 117 0) ∧ gd_walks g 131 j = -4 ∧ 0 ≤ gd_walks g 117 29 ∧ gd_walks g 117 29 ≤ T := by
  have hnc := gd_n_cast hJ
  have C : ∀ k : Nat, k ≤ 300 → gp_C (gd_run (gd_beg g) k) k j := fun k hk => (gp_run_I hJ k hk).2.2 j (by rw [gp_run_n]; exact hj)
  have G : ∀ k : Nat, k ≤ 300 → gd_run (gd_beg g) k 117 16 ≤ gd_run (gd_beg g) k 117 0 := fun k hk => (gp_run_I hJ k hk).1.2
  have E : ∀ k : Nat, gd_run (gd_beg g) k 117 0 = g 117 0 := fun k => (gp_run_w g k).2 0 (by omega)
  have M : ∀ k : Nat, k < 300 → gd_run (gd_beg g) (k + 1) 131 j < 0 → gd_run (gd_beg g) (k + 1) 129 j = g 117 0 → 0 ≤ gd_run (gd_beg g) (k + 1) 134 j := fun k hk a b => by
    have m := gd_M_run k (gp_run_JP hJ k)
    refine (m.1 j ⟨by omega, ?_⟩ a).1 (by rw [E]; exact b)
    rw [(gp_run_w g (k + 1)).2 6 (by omega)]
    omega
  have up : ∀ k : Nat, k < 300 → gd_run (gd_beg g) (k + 1) 129 j = g 117 0 → 0 ≤ gd_run (gd_beg g) (k + 1) 134 j := fun k hk b => by
    have c := (C (k + 1) (by omega)).2.1
    have e := E (k + 1)
    rcases c with c | c
    · exact M k hk (by omega) b
    · omega
  have run := fun (k d : Nat) => gd_there_run (gd_beg g) j k (by rw [gd_wf_n (gd_beg_wf g)]; exact hj) d
  have up300 : gd_run (gd_beg g) 300 129 j = g 117 0 → 0 ≤ gd_run (gd_beg g) 300 134 j := up 299 (by omega)
  have r1 : ∀ T : Nat, T ≤ 300 → (gd_run (gd_beg g) 300 134 j = gd_run (gd_beg g) T 134 j ∨ gd_run (gd_beg g) T 134 j < 0 ∧ (gd_run (gd_beg g) 300 134 j < 0 ∨ (T : Int) ≤ gd_run (gd_beg g) 300 134 j)) := fun T h => by
    have r := run T (300 - T)
    rwa [show T + (300 - T) = 300 by omega] at r
  have c := C 300 (by omega)
  have I300 := gp_run_I hJ 300 (by omega)
  have g3 := G 300 (by omega)
  have e3 := E 300
  rw [← gp_w300]
  generalize gd_run (gd_beg g) 300 = w at *
  obtain ⟨c1, c5, c3, -⟩ := c
  have b := I300.2.1
  rcases c3 with c3 | c3
  · left
    refine ⟨c3, ?_⟩
    by_cases h : w 129 j = g 117 0
    · have := up300 h
      omega
    · omega
  · right
    obtain ⟨T, hT⟩ := gw_nat c3.1
    refine ⟨T, hT, by omega, ?_, ?_, by omega, by omega, by omega⟩
    · have r := r1 (T + 1) (by omega)
      have cT := (C (T + 1) (by omega)).2.2.1
      have eT := E (T + 1)
      omega
    · by_cases h0 : T = 0
      · exact Or.inl h0
      · right
        obtain ⟨d1, d2, d3, -⟩ := C T (by omega)
        have gT := G T (by omega)
        have eT := E T
        by_cases h : gd_run (gd_beg g) T 129 j = g 117 0
        · have u := up (T - 1) (by omega) (by rw [show T - 1 + 1 = T by omega]; exact h)
          rw [show T - 1 + 1 = T by omega] at u
          have r := r1 T (by omega)
          omega
        · omega
theorem gp_lost4 {g : gw_Mem} (hJ : gd_JP g) (j : Nat) (hj : j < gd_n g) : (gd_walks g 131 j = -4 ∨ 0 ≤ gd_walks g 131 j ∧ g 123 j ≠ 3) ∧ 0 ≤ gd_walks g 133 j := by
  have c := (gp_run_I hJ 300 (by omega)).2.2 j (by rw [gp_run_n]; exact hj)
  have w := gp_run_w g 300
  rw [gp_w300] at c w
  have e : gd_walks g 123 j = g 123 j := by rw [w.1 123 (by omega) (by omega)]
  generalize gd_walks g = x at *
  have c2 := c.2.1
  rw [e] at c2
  refine ⟨?_, c.2.2.2.1⟩
  rcases c2 with c2 | c2
  · exact Or.inl c2
  · exact Or.inr ⟨c2.1, c2.2.2.2⟩
/-! heard, lost: the law's sums -/
def gp_least (w : gw_Mem) : Nat → Int
  | 0 => 1000
  | i + 1 => if gp_least w i ≤ w 132 i then gp_least w i else w 132 i
theorem gp_least_lof (w : gw_Mem) (n : Nat) (h : ∀ j : Int, 0 ≤ j ∧ j < n → 0 ≤ w 132 j ∧ w 132 j ≤ 300) : (0 < n → gp_least w n = gd_lof w n ∧ 0 ≤ gp_least w n ∧ gp_least w n ≤ 300) := by
  induction n with
  | zero => intro h0; omega
  | succ n ih =>
    intro _
    have z := h n (by omega)
    rw [gp_least, gd_lof]
    by_cases h0 : 0 < n
    · have q := ih (fun j hj => h j (by omega)) h0
      rw [if_neg (show ¬ gd_lof w n < 0 by omega), ← q.1]
      by_cases h1 : gp_least w n ≤ w 132 (n : Int)
      · rw [if_pos h1]; exact ⟨rfl, by omega, by omega⟩
      · rw [if_neg h1]; exact ⟨rfl, by omega, by omega⟩
    · have e : n = 0 := by omega
      subst e
      have e1 : gp_least w 0 = 1000 := rfl
      have e2 : gd_lof w 0 = -4 := rfl
      rw [e1, e2, if_neg (by omega), if_pos (by omega)]
      exact ⟨rfl, by omega, by omega⟩
theorem gp_ls_s (w : gw_Mem) (i : Nat) : gw_or (gd_ls w i) (if w 131 i < 0 then (0 : Int) else gw_shl 1 i) = gd_ls w (i + 1) := by
  rw [gd_ls]
  congr 1
  by_cases h : w 131 (i : Int) < 0
  · rw [if_pos h, if_pos ((gd_lostz w i).mpr h)]
  · rw [if_neg h, if_neg (fun z => h ((gd_lostz w i).mp z))]
theorem gp_or0 (x : Int) (h : gw_inR x) : gw_or x 0 = x := by
  unfold gw_or
  have e : Int32.ofInt x ||| Int32.ofInt 0 = Int32.ofInt x := by
    rw [show Int32.ofInt 0 = 0 by decide, Int32.or_zero]
  rw [e, gw_toInt_id h]
theorem gp_ls_rng (w : gw_Mem) (n : Nat) (hn : n ≤ 8) : (0 ≤ gd_ls w n ∧ gd_ls w n < 256) ∧ ∀ j : Int, 0 ≤ j ∧ j < 8 → (w 131 j < 0 ∨ (n : Int) ≤ j) → gw_and (gw_shr (gd_ls w n) j) 1 = 0 := by
  induction n with
  | zero =>
    refine ⟨by show (0 : Int) ≤ 0 ∧ (0 : Int) < 256; omega, fun j hj _ => ?_⟩
    have z := gd_bit00 ⟨j.toNat, by omega⟩
    rwa [show (((⟨j.toNat, by omega⟩ : Fin 8).val : Nat) : Int) = j from by show ((j.toNat : Nat) : Int) = j; omega] at z
  | succ n ih =>
    have q := ih (by omega)
    rw [← gp_ls_s]
    by_cases h : w 131 (n : Int) < 0
    · rw [if_pos h, gp_or0 _ (by unfold gw_inR; omega)]
      exact ⟨q.1, fun j hj hc => q.2 j hj (by
        rcases hc with hc | hc
        · exact Or.inl hc
        · by_cases e : j = n
          · exact Or.inl (by rw [e]; exact h)
          · right; omega)⟩
    · rw [if_neg h]
      have b := gd_bit (d := gd_ls w n) (k := (n : Int)) q.1 (by omega)
      refine ⟨b.1, fun j hj hc => (b.2 j hj).mpr ⟨q.2 j hj ?_, ?_⟩⟩
      · rcases hc with hc | hc
        · exact Or.inl hc
        · right; omega
      · intro e
        rcases hc with hc | hc
        · rw [e] at hc; exact h hc
        · omega
theorem gp_ls_0 (w : gw_Mem) (n : Nat) (h : ∀ j : Nat, j < n → w 131 j < 0) : gd_ls w n = 0 := by
  induction n with
  | zero => rfl
  | succ n ih =>
    rw [← gp_ls_s, if_pos (h n (by omega)), ih (fun j hj => h j (by omega))]
    exact gp_or0 0 gw_in0
