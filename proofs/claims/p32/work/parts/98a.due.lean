/-! what the law asks, in its own words -/
theorem gp_le299 {y : Int} (h : y < 300) : y ≤ 299 := by omega
theorem gp_iff4 {a b c d : Int} (h : a < 0 ↔ b < 0) (h' : c < 0 ↔ d < 0) (hb : 0 ≤ b) (hac : a ≤ c) : ¬ d < 0 := by omega
theorem gp_due2 {g : gw_Mem} (hJ : gd_JP g) (hn : 0 < gd_n g) (hn6 : 0 < g 117 6) (hs : g 122 2 < 5) (least lost : Int) (hleast : ga_all g 1 = least) (hlost : ga_all g 5 = lost) (hby : ¬ ga_all g 3 < 0) :
    lost = 0 ∧ ¬ ga_all g 2 < 0 ∧ ¬ ga_all g 3 < ga_all g 2 ∧ ¬ ga_best g (ga_all g 3) 3 < least ∧ ¬ ga_best g 299 3 < ga_best g (ga_all g 3) 3 ∧
    ∃ c : Nat, c < 220 ∧ ga_best g (ga_all g 3) 0 = 1 + (c : Int) / 55 ∧ ga_best g (ga_all g 3) 1 = (c : Int) / 5 % 11 ∧ ga_best g (ga_all g 3) 2 = (c : Int) % 5 ∧ ga_all (gd_bq g c) 1 = ga_best g (ga_all g 3) 3 ∧ ¬ ga_all (gd_bq g c) 3 < 0 ∧ ¬ ga_all g 3 < ga_all (gd_bq g c) 3 := by
  have A := gp_all g
  rw [A.2.1] at hleast
  rw [A.2.2.2.2.2] at hlost
  rw [A.2.2.2.1] at hby ⊢
  rw [A.2.2.1]
  clear A
  have hb0 := Int.not_lt.mp hby
  obtain ⟨d1, d2, d3, d4, d5, d6, d7, c, c1, c2, c3, c4, c5⟩ := gp_due hJ hn hs hb0
  have Ac := gp_all (gd_bq g c)
  rw [gp_bq_n] at Ac
  have q1 := Ac.2.1.trans c3
  rw [← Ac.2.2.2.1] at c4 c5
  clear Ac c3
  rw [hlost] at d2
  rw [hleast] at d5
  have rg := (gd_vb_rng g 299 220).2.1
  have rg1 := (gd_vb_rng g (gd_alt (gd_walks g)) 220).2.1
  have B1 := gp_best g hJ hn6 (gd_alt (gd_walks g)) ⟨hb0, gp_le299 d1⟩
  have B2 := gp_best g hJ hn6 299 ⟨by decide, by decide⟩
  generalize gd_alt (gd_walks g) = by_ at *
  generalize gd_walks g 117 29 = g29 at *
  generalize gd_vb g 299 220 = v2 at *
  generalize gd_vb g by_ 220 = v1 at *
  have n2 := gp_iff4 rg1 rg d6 d7
  rcases B1 with B1 | ⟨_, b0, b1, b2, b3⟩
  · exact absurd B1.1 (Int.not_lt.mpr d6)
  rcases B2 with B2 | ⟨_, _, _, _, e3⟩
  · exact absurd B2.1 n2
  rw [c2] at b0 b1 b2
  refine ⟨d2, Int.not_lt.mpr d3, Int.not_lt.mpr d4, ?_, ?_, c, c1, b0, b1, b2, q1.trans b3.symm, Int.not_lt.mpr c4, Int.not_lt.mpr c5⟩
  · rw [b3]
    exact Int.not_lt.mpr d5
  · rw [b3, e3]
    exact Int.not_lt.mpr d7
theorem gp_cr {c : Nat} (hc : c < 220) : ((0 ≤ (0 : Int) ∧ (0 : Int) ≤ 4) ∧ gd_rlo 0 ≤ 1 + (c : Int) / 55 ∧ 1 + (c : Int) / 55 ≤ gd_rhi 0) ∧ ((0 ≤ (1 : Int) ∧ (1 : Int) ≤ 4) ∧ gd_rlo 1 ≤ (c : Int) / 5 % 11 ∧ (c : Int) / 5 % 11 ≤ gd_rhi 1) ∧ ((0 ≤ (2 : Int) ∧ (2 : Int) ≤ 4) ∧ gd_rlo 2 ≤ (c : Int) % 5 ∧ (c : Int) % 5 ≤ gd_rhi 2) := by
  have r0 : gd_rlo 0 = 1 ∧ gd_rhi 0 = 4 := ⟨rfl, rfl⟩
  have r1 : gd_rlo 1 = 0 ∧ gd_rhi 1 = 10 := ⟨rfl, rfl⟩
  have r2 : gd_rlo 2 = 0 ∧ gd_rhi 2 = 9 := ⟨rfl, rfl⟩
  rw [r0.1, r0.2, r1.1, r1.2, r2.1, r2.2]
  omega
theorem gp_nlt {a b : Int} (h : a ≤ b) : ¬ b < a := by omega
theorem gp_wm {X : Nat} (h : ¬ (X : Int) = 0) (hX : X < 300) : gw_w ((X : Int) - 1) = ((X - 1 : Nat) : Int) := by
  rw [gw_w_id (by omega)]
  omega
theorem gp_pfacts {g : gw_Mem} (hJ : gd_JP g) (w : gw_Mem) (hw : gd_walks g = w) (E : Int) (hE : g 117 0 = E) (p : Nat) (hp : p < gd_n g) :
    (ga_fate g p 0 = w 132 p ∧ ga_fate g p 1 = w 133 p ∧ ga_fate g p 2 = w 134 p ∧ ga_fate g p 3 = w 131 p) ∧ ¬ w 132 p < 0 ∧ ¬ gd_spoken g < w 132 p ∧ ¬ w 133 p < 0 ∧
    ((w 134 p = -4 ∧ ¬ E ≤ ga_at g 299 p) ∨ ∃ X : Nat, w 134 p = X ∧ ¬ (X : Int) = -4 ∧ ¬ 300 ≤ (X : Int) ∧ ga_at g X p = E ∧ (¬ (X : Int) = 0 → ¬ E ≤ ga_at g (gw_w ((X : Int) - 1)) p) ∧ w 131 p = -4) := by
  have hnc := gd_n_cast hJ
  have hp2 : 0 ≤ (p : Int) ∧ (p : Int) < gd_n g := by omega
  have F := gp_fate hJ p hp
  have hh := (gd_walks_heard g p hp2).1
  have hs := gd_heard_sp hJ p hp2
  have T := gp_there hJ p hp
  have Q := (gp_lost4 hJ p hp).2
  rw [hw] at F hh hs T Q
  rw [hE] at T
  refine ⟨F, Int.not_lt.mpr hh, Int.not_lt.mpr hs, Int.not_lt.mpr Q, ?_⟩
  clear F hh hs Q
  have a299 : ga_at g 299 (p : Int) = gd_run (gd_beg g) 300 129 p := gp_at_j hJ 299 (by decide) p hp
  rcases T with T | ⟨X, t1, t2, t3, t4, t5, -⟩
  · left
    refine ⟨T.1, ?_⟩
    rw [a299]
    exact Int.not_le.mpr T.2
  · right
    clear a299
    have n1 : ¬ (X : Int) = -4 := by clear t3 t4 t1; omega
    have n2 : ¬ 300 ≤ (X : Int) := by clear t3 t4 t1; omega
    refine ⟨X, t1, n1, n2, (gp_at_j hJ X t2 p hp).trans t3, fun h0 => ?_, t5⟩
    rw [gp_wm h0 t2]
    have h1 : X - 1 + 1 = X := by clear t3 t4 t1; omega
    have h2 : X - 1 < 300 := by clear t3 t4 t1; omega
    have a2 := gp_at_j hJ (X - 1) h2 p hp
    rw [h1] at a2
    rw [a2]
    rcases t4 with t4 | t4
    · exact absurd (by rw [t4]; rfl) h0
    · exact Int.not_le.mpr t4
/-! what is spoken, one stop after the other -/
theorem gp_km {M : Int} {k j : Nat} (hM : 0 ≤ M ∧ M ≤ 3) (h : k + (j + 1) = M.toNat) : ¬ M ≤ (k : Int) ∧ (0 ≤ (k : Int) ∧ (k : Int) < M) ∧ k + 1 + j = M.toNat ∧ k + 1 ≤ M.toNat ∧ gw_w ((k : Int) + 1) = ((k + 1 : Nat) : Int) := ⟨by omega, by omega, by omega, by omega, gw_w1 (by omega)⟩
theorem gp_kz {M : Int} {k : Nat} (hM : 0 ≤ M ∧ M ≤ 3) (h : k + 0 = M.toNat) : M ≤ (k : Int) ∧ k = M.toNat := by omega
theorem gp_sp_s {g : gw_Mem} (hJ : gd_JP g) (k : Nat) (hk : k + 1 ≤ (g 118 0).toNat) : (g 117 0 ≤ g 119 k → gw_w (gd_sp g k + 0) = gd_sp g (k + 1)) ∧ (¬ g 117 0 ≤ g 119 k → gw_w (gd_sp g k + g 120 k) = gd_sp g (k + 1)) := by
  have hs := hJ.2.1 0 (by decide)
  have s0 := gd_sp_rng hJ k (by omega)
  have s1 := gd_sp_rng hJ (k + 1) hk
  have es : gd_sp g (k + 1) = gd_sp g k + (if g 117 0 ≤ g 119 k then 0 else g 120 k) := rfl
  refine ⟨fun c => ?_, fun c => ?_⟩
  · rw [if_pos c] at es
    generalize gd_sp g (k + 1) = b at *
    generalize gd_sp g k = a at *
    clear c
    rw [gw_w_id (by omega)]
    exact es.symm
  · rw [if_neg c] at es
    generalize gd_sp g (k + 1) = b at *
    generalize gd_sp g k = a at *
    clear c
    rw [gw_w_id (by omega)]
    exact es.symm
