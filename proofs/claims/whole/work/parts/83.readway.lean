/-! the class reads a way, a group -/
def gz_vg (G : gw_Mem) : gw_Mem := fun o j => if o = 47 then G 117 0 else if o = 49 then G 118 j else if 53 ≤ o ∧ o < 57 then G 119 (8 * ((o : Int) - 53) + j) else if 57 ≤ o ∧ o < 61 then G 120 (8 * ((o : Int) - 57) + j) else if o = 52 then G 121 j else if o = 61 then G 117 6 else if o = 62 then G 123 j else if o = 63 then G 124 j else if o = 64 then G 125 j else if o = 65 then G 122 j else if o = 67 then G 126 j else 0
theorem gz_vg_P (G : gw_Mem) : gc_P G (gz_vg G) 47 := by
  have k4 : ∀ k : Int, 0 ≤ k ∧ k ≤ 3 → k = 0 ∨ k = 1 ∨ k = 2 ∨ k = 3 := fun k hk => by omega
  refine ⟨rfl, fun k hk => rfl, fun k j hk hj => ?_, fun j hj => rfl, rfl, fun j hj => ⟨rfl, rfl, rfl⟩, fun j hj => rfl, fun j hj => rfl⟩
  rcases k4 k hk with rfl | rfl | rfl | rfl <;> exact ⟨rfl, rfl⟩
theorem gc_M_0 (g : gw_Mem) (r : Int → Int) (m : gw_Mem) (h : ∀ k : Int, 0 ≤ k ∧ k ≤ 3 → m 49 k = 0) : gc_M (gd_wm g r 0) m := by
  have e8 : ∀ k : Int, 0 ≤ k ∧ k ≤ 3 → gd_wm g r 0 118 k = 0 := by
    intro k hk
    have := gd_wm_8 g r 0 k hk
    omega
  generalize gd_wm g r 0 = G at *
  refine ⟨fun o => if 48 ≤ o ∧ o < 61 then m o else gz_vg G o, ?_, fun o a b => by dsimp only; rw [if_pos ⟨a, b⟩]⟩
  obtain ⟨p1, p2, p3, p4, p5, p6, p7, p8⟩ := gz_vg_P G
  refine ⟨p1, fun k hk => ?_, fun k j hk hj => by rw [e8 k hk] at hj; omega, fun j hj => by rw [e8 0 (by omega)] at hj; omega, p5, p6, p7, p8⟩
  show m 49 k = _
  rw [h k hk, e8 k hk]
theorem gc_N_0 (g : gw_Mem) (r : Int → Int) (m : gw_Mem) (h : m 61 0 = 0) : gc_N (gd_gm g r 0) m := by
  have e6 : gd_gm g r 0 117 6 = 0 := by rw [gd_gm_117, if_pos rfl]; rfl
  generalize gd_gm g r 0 = G at *
  refine ⟨fun o => if 61 ≤ o ∧ o < 65 then m o else gz_vg G o, ?_, fun o a b => by dsimp only; rw [if_pos ⟨a, b⟩]⟩
  obtain ⟨p1, p2, p3, p4, p5, p6, p7, p8⟩ := gz_vg_P G
  have k4 : ∀ k : Int, 0 ≤ k ∧ k ≤ 3 → k = 0 ∨ k = 1 ∨ k = 2 ∨ k = 3 := fun k hk => by omega
  refine ⟨p1, p2, fun k j hk hj => ?_, p4, ?_, fun j hj => by rw [e6] at hj; omega, p7, p8⟩
  · have := p3 k j hk hj
    rcases k4 k hk with rfl | rfl | rfl | rfl <;> exact this
  · show m 61 0 = _
    rw [h, e6]
theorem sp_X3_clear48 (m : gw_Mem) : gw_SpecV M_X3_clear 10 [gR 48] m (fun m' => (∀ k : Int, 0 ≤ k ∧ k ≤ 3 → m' 49 k = 0) ∧ ∀ o : Nat, o ≠ 49 → m' o = m o) := by
  refine gw_intro pl_X3_clear rfl (fun Γ => ?_)
  have hb : gw_isMarks 48 := by unfold gw_isMarks; omega
  have key : ∀ (j k : Nat) (u : gw_Mem), k + j = 4 → (∀ x : Int, 0 ≤ x ∧ x < k → u 49 x = 0) → (∀ o : Nat, o ≠ 49 → u o = m o) → gw_G M_X3_clear 10 (fun r m' => r = none ∧ (∀ k : Int, 0 ≤ k ∧ k ≤ 3 → m' 49 k = 0) ∧ ∀ o : Nat, o ≠ 49 → m' o = m o) Γ 2 [some (gR 48), some (gI (k : Int))] [] u := by
    intro j
    induction j with
    | zero =>
      intro k u hk h1 h2
      apply r_X3_clear_2 48 hb
      exact ⟨fun _ => ⟨rfl, fun x hx => h1 x (by omega), h2⟩, fun z => absurd (by omega) z⟩
    | succ j ih =>
      intro k u hk h1 h2
      apply r_X3_clear_2 48 hb
      refine ⟨fun z => absurd z (by omega), fun _ => ⟨gw_inm (by omega) (by omega), ?_⟩⟩
      rw [gw_w1 (by omega)]
      refine ih (k + 1) _ (by omega) (fun x hx => ?_) (fun o ho => by rw [gw_up_ne ho]; exact h2 o ho)
      rw [show 48 + 1 = 49 from rfl, gw_up_at]
      split
      · rfl
      · exact h1 x (by omega)
  apply r_X3_clear_0 48 hb
  exact key 4 0 m (by omega) (fun x hx => by omega) (fun _ _ => rfl)
theorem sp_X9_readWay (t : Int → Int) (L : Int) (g m : gw_Mem) (hJ : gd_JP g) (hT : gz_tc t L m) (r : Int → Int) : gw_SpecI M_X9_readWay 16 [gR 46, gR 48] m (fun v m' => v = (gz_lp t L (gz_mc t L) 8 59 8 0 0 r).1 ∧ (0 ≤ v → gc_M (gd_wm g (gz_lp t L (gz_mc t L) 8 59 8 0 0 r).2 v.toNat) m') ∧ (∀ o : Nat, o ≠ 46 → ¬ (48 ≤ o ∧ o < 61) → m' o = m o) ∧ m' 46 1 = 0) := by
  refine gw_intro pl_X9_readWay rfl (fun Γ => ?_)
  obtain ⟨R, hR⟩ : ∃ R, R = gz_lp t L (gz_mc t L) 8 59 8 0 0 r := ⟨_, rfl⟩
  rw [← hR]
  have hL := hT.2.1
  have hb : gw_isMarks 48 := by unfold gw_isMarks; omega
  have i46 : gw_up (gw_up m 46 2 0) 46 1 0 = gw_up (gw_up m 46 2 0) 46 1 0 := rfl
  have fin : ∀ (y1 : Option gw_SV) (x2 x3 x4 : Int) (u : gw_Mem), (∀ o : Nat, o ≠ 46 → ¬ (48 ≤ o ∧ o < 61) → u o = m o) → (x3 = 0 ∧ (0 ≤ u 46 2 ∧ u 46 2 ≤ L) ∧ R.1 = -20 - u 46 2 ∨ x3 ≠ 0 ∧ R.1 = x4 ∧ gc_M (gd_wm g R.2 x4.toNat) u) → gw_G M_X9_readWay 16 (fun r m' => ∃ v, r = some (gI v) ∧ v = R.1 ∧ (0 ≤ v → gc_M (gd_wm g R.2 v.toNat) m') ∧ (∀ o : Nat, o ≠ 46 → ¬ (48 ≤ o ∧ o < 61) → m' o = m o) ∧ m' 46 1 = 0) Γ 91 [some (gR 46), y1, some (gI x2), some (gI x3), some (gI x4)] [] u := by
    intro y1 x2 x3 x4 u hu hx
    apply r_X9_readWay_91
    have e2 : gw_up u 46 1 0 46 2 = u 46 2 := by rw [gw_up_at, if_neg (by omega)]
    rw [e2]
    have fr : ∀ o : Nat, o ≠ 46 → ¬ (48 ≤ o ∧ o < 61) → gw_up u 46 1 0 o = m o := fun o o1 o2 => by rw [gw_up_ne o1]; exact hu o o1 o2
    rcases hx with ⟨h1, h2, h3⟩ | ⟨h1, h2, h3⟩
    · rw [if_pos h1, gw_w_id (by omega)]
      exact ⟨_, rfl, h3.symm, fun z => by omega, fr, by rw [gw_up_at, if_pos rfl]⟩
    · rw [if_neg h1]
      exact ⟨_, rfl, h2.symm, fun _ => gc_M_h h3 (fun o o1 o2 => by rw [gw_up_ne (by omega)]), fr, by rw [gw_up_at, if_pos rfl]⟩
  have key : ∀ (f n : Nat) (p : Int) (u : gw_Mem) (rr : Int → Int), f + n = 8 → 0 < f → (0 ≤ p ∧ p ≤ L) → u 46 2 = p → gz_tc t L u → (∀ o : Nat, o ≠ 46 → ¬ (48 ≤ o ∧ o < 61) → u o = m o) → (∀ k : Nat, k < n → gz_Cw rr k) → gc_M (gd_wm g rr n) u → R = gz_lp t L (gz_mc t L) 8 59 f n p rr →
      gw_G M_X9_readWay 16 (fun r m' => ∃ v, r = some (gI v) ∧ v = R.1 ∧ (0 ≤ v → gc_M (gd_wm g R.2 v.toNat) m') ∧ (∀ o : Nat, o ≠ 46 → ¬ (48 ≤ o ∧ o < 61) → m' o = m o) ∧ m' 46 1 = 0) Γ 16 [some (gR 46), some (gR 48), some (gI 0), some (gI 1), some (gI (n : Int))] [] u := by
    intro f
    induction f with
    | zero => intro n p u rr _ h; omega
    | succ f ih =>
      intro n p u rr hf _ hp hup hTu hu hC hG hRe
      apply r_X9_readWay_16 48 hb
      refine ⟨fun z => absurd z (by omega), fun _ => ⟨fun _ => ⟨fun z => absurd z (by omega), fun _ => ?_⟩, fun z => absurd rfl z⟩⟩
      have ci := gz_mc_in t (L := L) rr n hp
      rw [gz_lp_s] at hRe
      refine gw_CI.of (sp_X9_readMark t L p g u hJ hTu hup hp rr n (by omega) hC hG) rfl (fun v3 m4 _ _ hv => ?_)
      obtain ⟨k0, k1, k2, k3, k4⟩ := hv
      have q3 := gz_r3_at rr n (gz_mc t L rr n p).2.2.1 (gz_mc t L rr n p).2.2.2.1 (gz_mc t L rr n p).2.2.2.2
      have hC' : (gz_mc t L rr n p).1 = 1 → gz_Cw (gz_r3 rr n (gz_mc t L rr n p).2.2.1 (gz_mc t L rr n p).2.2.2.1 (gz_mc t L rr n p).2.2.2.2) n := fun z => by
        rcases ci.2 with d | d
        · omega
        · unfold gz_Cw
          rw [q3.1, q3.2.1, q3.2.2.1, gz_tk_congr _ _ n q3.2.2.2]
          exact d.2
      generalize gz_mc t L rr n p = c at *
      rw [gw_w1 (by omega)]
      have f4 : ∀ o : Nat, o ≠ 46 → ¬ (48 ≤ o ∧ o < 61) → m4 o = m o := fun o o1 o2 => by rw [k2 o o1 o2]; exact hu o o1 o2
      have T4 : gz_tc t L m4 := ⟨by rw [k3]; exact hTu.1, hL, fun j h0 h1 => by rw [k2 47 (by omega) (by omega)]; exact hTu.2.2 j h0 h1⟩
      -- to the end with a fault
      have bad : ∀ (z0 : Int) (n' : Int) (w : gw_Mem), (∀ o : Nat, o ≠ 46 → ¬ (48 ≤ o ∧ o < 61) → w o = m o) → (0 ≤ w 46 2 ∧ w 46 2 ≤ L) → R.1 = -20 - w 46 2 → ∀ x3 : Int, gw_G M_X9_readWay 16 (fun r m' => ∃ v, r = some (gI v) ∧ v = R.1 ∧ (0 ≤ v → gc_M (gd_wm g R.2 v.toNat) m') ∧ (∀ o : Nat, o ≠ 46 → ¬ (48 ≤ o ∧ o < 61) → m' o = m o) ∧ m' 46 1 = 0) Γ 86 [some (gR 46), some (gR 48), some (gI z0), some (gI x3), some (gI n')] [] w := by
        intro z0 n' w hw hw2 hw3 x3
        apply r_X9_readWay_86 48 hb
        apply r_X9_readWay_87 48 hb
        apply r_X9_readWay_16 48 hb
        exact ⟨fun _ => fin _ _ _ _ w hw (Or.inl ⟨rfl, hw2, hw3⟩), fun z => absurd rfl z⟩
      by_cases c1 : c.1 = 0
      · rw [if_pos c1] at hRe
        have e := k0 c1
        subst e
        refine ⟨fun _ => ?_, fun z => absurd rfl z⟩
        apply r_X9_readWay_57 48 hb
        exact ⟨fun _ => bad 0 _ m4 f4 (by rw [k4]; exact ci.1) (by rw [hRe, k4]) 0, fun z => absurd rfl z⟩
      · rw [if_neg c1] at hRe
        have c11 : c.1 = 1 := by omega
        obtain ⟨e, G4⟩ := k1 c11
        subst e
        have C4 := hC' c11
        refine ⟨fun z => absurd z (by omega), fun _ => ?_⟩
        have a1 := gz_ne_in t ci.1
        have nn := gz_ne_ne t ci.1
        refine gw_CI.of (sp_X9_next t L c.2.1 m4 T4 k4 ci.1) rfl (fun v6 m7 _ _ hv => ?_)
        obtain ⟨x1, x2, x3, x4⟩ := hv
        have T7 := gz_h_tc x2 T4
        have f7 : ∀ o : Nat, o ≠ 46 → ¬ (48 ≤ o ∧ o < 61) → m7 o = m o := fun o o1 o2 => by rw [x2.1 o o1]; exact f4 o o1 o2
        have rows : gd_wm g (gz_r3 rr n c.2.2.1 c.2.2.2.1 c.2.2.2.2) (n + 1) = gd_comes (gd_wm g rr n) c.2.2.1 c.2.2.2.1 c.2.2.2.2 := by
          rw [gd_wm, q3.1, q3.2.1, q3.2.2.1, gd_wm_congr g n q3.2.2.2]
        have G7 : gc_M (gd_wm g (gz_r3 rr n c.2.2.1 c.2.2.2.1 c.2.2.2.2) (n + 1)) m7 := by
          rw [rows]
          exact gc_M_h G4 (fun o o1 o2 => x2.1 o (by omega))
        have CC : ∀ k : Nat, k < n + 1 → gz_Cw (gz_r3 rr n c.2.2.1 c.2.2.2.1 c.2.2.2.2) k := by
          intro k hk
          by_cases e : k = n
          · rw [e]; exact C4
          · have := hC k (by omega)
            unfold gz_Cw at this ⊢
            rw [q3.2.2.2 (3 * (k : Int)) (by omega), q3.2.2.2 (3 * (k : Int) + 1) (by omega), q3.2.2.2 (3 * (k : Int) + 2) (by omega), gz_tk_congr _ _ k (fun j hj => q3.2.2.2 j (by omega))]
            exact this
        by_cases d1 : L ≤ gz_ne t L c.2.1
        · rw [if_pos d1] at hRe x1
          rw [x1, if_pos rfl]
          apply r_X9_readWay_57 48 hb
          refine ⟨fun z => absurd z (by omega), fun _ => ⟨fun z => absurd z (by omega), fun _ => ?_⟩⟩
          apply r_X9_readWay_82 48 hb
          apply r_X9_readWay_87 48 hb
          apply r_X9_readWay_16 48 hb
          refine ⟨fun z => absurd z (by omega), fun _ => ⟨fun z => absurd z (by omega), fun _ => fin _ _ _ _ m7 f7 (Or.inr ⟨by omega, by rw [hRe]; show (n : Int) + 1 = ((n + 1 : Nat) : Int); omega, ?_⟩)⟩⟩
          rw [hRe, Int.toNat_natCast]
          exact G7
        · rw [if_neg d1] at hRe x1
          have bt := (hT.2.2 (gz_ne t L c.2.1) a1.1.1 (by omega)).2
          rw [if_neg (by omega)]
          apply r_X9_readWay_57 48 hb
          refine ⟨fun z => absurd z (by omega), fun _ => ⟨fun _ => ⟨fun z => ?_, fun z => ?_⟩, fun z => absurd rfl z⟩⟩
          · rw [if_neg (by omega)] at hRe
            exact bad _ _ m7 f7 (by rw [x3]; exact a1.1) (by rw [hRe, x3]) _
          · refine gw_CI.of (sp_X9_passes t L (gz_ne t L c.2.1) 59 (by omega) (by omega) m7 T7 x3 a1.1) rfl (fun v9 m10 _ _ hv => ?_)
            obtain ⟨y1, y2, y3⟩ := hv
            rw [nn] at y1 y3
            have f10 : ∀ o : Nat, o ≠ 46 → ¬ (48 ≤ o ∧ o < 61) → m10 o = m o := fun o o1 o2 => by rw [y2.1 o o1]; exact f7 o o1 o2
            have eb : gz_by t L (gz_ne t L c.2.1) = t (gz_ne t L c.2.1) := by unfold gz_by; rw [if_neg d1]
            rw [eb] at y1 y3
            by_cases d2 : t (gz_ne t L c.2.1) = 59
            · rw [if_pos d2] at y1 y3
              rw [if_pos ⟨by omega, d2⟩] at hRe
              refine ⟨fun z => absurd z (by omega), fun _ => ?_⟩
              apply r_X9_readWay_82 48 hb
              apply r_X9_readWay_87 48 hb
              exact ih (n + 1) _ m10 _ (by omega) (by omega) (by omega) y3 (gz_h_tc y2 T7) f10 CC (gc_M_h G7 (fun o o1 o2 => y2.1 o (by omega))) hRe
            · rw [if_neg d2] at y1 y3
              rw [if_neg (fun z => d2 z.2)] at hRe
              exact ⟨fun _ => bad _ _ m10 f10 (by omega) (by rw [hRe, y3]; show -20 - gz_ne t L c.2.1 = _; omega) _, fun z => absurd y1 z⟩
  apply r_X9_readWay_0 48 hb
  refine gw_CV.of (sp_X3_clear48 m) rfl (fun m1 _ h1 => ?_)
  have u2 := gz_h_u2 m1 0
  refine key 8 0 0 _ r (by omega) (by omega) (by omega) u2.2.1 (gz_h_tc u2.1 ⟨by rw [h1.2 46 (by omega)]; exact hT.1, hL, fun j h0 h2 => by rw [h1.2 47 (by omega)]; exact hT.2.2 j h0 h2⟩) (fun o o1 o2 => by rw [u2.1.1 o o1, h1.2 o (by omega)]) (fun k hk => by omega) (gc_M_h (gc_M_0 g r m1 h1.1) (fun o o1 o2 => u2.1.1 o (by omega))) hR
theorem sp_X9_readGroup (t : Int → Int) (L : Int) (g m : gw_Mem) (hJ : gd_JP g) (hT : gz_tc t L m) (r : Int → Int) : gw_SpecI M_X9_readGroup 16 [gR 46, gR 61] m (fun v m' => v = (gz_lp t L (gz_pc t L) 10 44 10 0 0 r).1 ∧ (0 ≤ v → gc_N (gd_gm g (gz_lp t L (gz_pc t L) 10 44 10 0 0 r).2 v.toNat) m') ∧ (∀ o : Nat, o ≠ 46 → ¬ (61 ≤ o ∧ o < 65) → m' o = m o) ∧ m' 46 1 = 0) := by
  refine gw_intro pl_X9_readGroup rfl (fun Γ => ?_)
  obtain ⟨R, hR⟩ : ∃ R, R = gz_lp t L (gz_pc t L) 10 44 10 0 0 r := ⟨_, rfl⟩
  rw [← hR]
  have hL := hT.2.1
  have hb : gw_isPeople 61 := by unfold gw_isPeople; omega
  have i46 : gw_up (gw_up m 46 2 0) 46 1 0 = gw_up (gw_up m 46 2 0) 46 1 0 := rfl
  have fin : ∀ (y1 : Option gw_SV) (x2 x3 x4 : Int) (u : gw_Mem), (∀ o : Nat, o ≠ 46 → ¬ (61 ≤ o ∧ o < 65) → u o = m o) → (x3 = 0 ∧ (0 ≤ u 46 2 ∧ u 46 2 ≤ L) ∧ R.1 = -20 - u 46 2 ∨ x3 ≠ 0 ∧ R.1 = x4 ∧ gc_N (gd_gm g R.2 x4.toNat) u) → gw_G M_X9_readGroup 16 (fun r m' => ∃ v, r = some (gI v) ∧ v = R.1 ∧ (0 ≤ v → gc_N (gd_gm g R.2 v.toNat) m') ∧ (∀ o : Nat, o ≠ 46 → ¬ (61 ≤ o ∧ o < 65) → m' o = m o) ∧ m' 46 1 = 0) Γ 92 [some (gR 46), y1, some (gI x2), some (gI x3), some (gI x4)] [] u := by
    intro y1 x2 x3 x4 u hu hx
    apply r_X9_readGroup_92
    have e2 : gw_up u 46 1 0 46 2 = u 46 2 := by rw [gw_up_at, if_neg (by omega)]
    rw [e2]
    have fr : ∀ o : Nat, o ≠ 46 → ¬ (61 ≤ o ∧ o < 65) → gw_up u 46 1 0 o = m o := fun o o1 o2 => by rw [gw_up_ne o1]; exact hu o o1 o2
    rcases hx with ⟨h1, h2, h3⟩ | ⟨h1, h2, h3⟩
    · rw [if_pos h1, gw_w_id (by omega)]
      exact ⟨_, rfl, h3.symm, fun z => by omega, fr, by rw [gw_up_at, if_pos rfl]⟩
    · rw [if_neg h1]
      exact ⟨_, rfl, h2.symm, fun _ => gc_N_h h3 (fun o o1 o2 => by rw [gw_up_ne (by omega)]), fr, by rw [gw_up_at, if_pos rfl]⟩
  have key : ∀ (f n : Nat) (p : Int) (u : gw_Mem) (rr : Int → Int), f + n = 10 → 0 < f → (0 ≤ p ∧ p ≤ L) → u 46 2 = p → gz_tc t L u → (∀ o : Nat, o ≠ 46 → ¬ (61 ≤ o ∧ o < 65) → u o = m o) → (∀ k : Nat, k < n → gz_Cg rr k) → gc_N (gd_gm g rr n) u → R = gz_lp t L (gz_pc t L) 10 44 f n p rr →
      gw_G M_X9_readGroup 16 (fun r m' => ∃ v, r = some (gI v) ∧ v = R.1 ∧ (0 ≤ v → gc_N (gd_gm g R.2 v.toNat) m') ∧ (∀ o : Nat, o ≠ 46 → ¬ (61 ≤ o ∧ o < 65) → m' o = m o) ∧ m' 46 1 = 0) Γ 17 [some (gR 46), some (gR 61), some (gI 0), some (gI 1), some (gI (n : Int))] [] u := by
    intro f
    induction f with
    | zero => intro n p u rr _ h; omega
    | succ f ih =>
      intro n p u rr hf _ hp hup hTu hu hC hG hRe
      apply r_X9_readGroup_17 61 hb
      refine ⟨fun z => absurd z (by omega), fun _ => ⟨fun _ => ⟨fun z => absurd z (by omega), fun _ => ?_⟩, fun z => absurd rfl z⟩⟩
      have ci := gz_pc_in t (L := L) rr n hp
      rw [gz_lp_s] at hRe
      refine gw_CI.of (sp_X9_readPerson t L p g u hJ hTu hup hp rr n (by omega) hC hG) rfl (fun v3 m4 _ _ hv => ?_)
      obtain ⟨k0, k1, k2, k3, k4⟩ := hv
      have q3 := gz_r3_at rr n (gz_pc t L rr n p).2.2.1 (gz_pc t L rr n p).2.2.2.1 (gz_pc t L rr n p).2.2.2.2
      have hC' : (gz_pc t L rr n p).1 = 1 → gz_Cg (gz_r3 rr n (gz_pc t L rr n p).2.2.1 (gz_pc t L rr n p).2.2.2.1 (gz_pc t L rr n p).2.2.2.2) n := fun z => by
        rcases ci.2 with d | d
        · omega
        · unfold gz_Cg
          rw [q3.1, q3.2.1, q3.2.2.1, gz_tt_congr n q3.2.2.2]
          exact d.2
      generalize gz_pc t L rr n p = c at *
      rw [gw_w1 (by omega)]
      have f4 : ∀ o : Nat, o ≠ 46 → ¬ (61 ≤ o ∧ o < 65) → m4 o = m o := fun o o1 o2 => by rw [k2 o o1 o2]; exact hu o o1 o2
      have T4 : gz_tc t L m4 := ⟨by rw [k3]; exact hTu.1, hL, fun j h0 h1 => by rw [k2 47 (by omega) (by omega)]; exact hTu.2.2 j h0 h1⟩
      -- to the end with a fault
      have bad : ∀ (z0 : Int) (n' : Int) (w : gw_Mem), (∀ o : Nat, o ≠ 46 → ¬ (61 ≤ o ∧ o < 65) → w o = m o) → (0 ≤ w 46 2 ∧ w 46 2 ≤ L) → R.1 = -20 - w 46 2 → ∀ x3 : Int, gw_G M_X9_readGroup 16 (fun r m' => ∃ v, r = some (gI v) ∧ v = R.1 ∧ (0 ≤ v → gc_N (gd_gm g R.2 v.toNat) m') ∧ (∀ o : Nat, o ≠ 46 → ¬ (61 ≤ o ∧ o < 65) → m' o = m o) ∧ m' 46 1 = 0) Γ 87 [some (gR 46), some (gR 61), some (gI z0), some (gI x3), some (gI n')] [] w := by
        intro z0 n' w hw hw2 hw3 x3
        apply r_X9_readGroup_87 61 hb
        apply r_X9_readGroup_88 61 hb
        apply r_X9_readGroup_17 61 hb
        exact ⟨fun _ => fin _ _ _ _ w hw (Or.inl ⟨rfl, hw2, hw3⟩), fun z => absurd rfl z⟩
      by_cases c1 : c.1 = 0
      · rw [if_pos c1] at hRe
        have e := k0 c1
        subst e
        refine ⟨fun _ => ?_, fun z => absurd rfl z⟩
        apply r_X9_readGroup_58 61 hb
        exact ⟨fun _ => bad 0 _ m4 f4 (by rw [k4]; exact ci.1) (by rw [hRe, k4]) 0, fun z => absurd rfl z⟩
      · rw [if_neg c1] at hRe
        have c11 : c.1 = 1 := by omega
        obtain ⟨e, G4⟩ := k1 c11
        subst e
        have C4 := hC' c11
        refine ⟨fun z => absurd z (by omega), fun _ => ?_⟩
        have a1 := gz_ne_in t ci.1
        have nn := gz_ne_ne t ci.1
        refine gw_CI.of (sp_X9_next t L c.2.1 m4 T4 k4 ci.1) rfl (fun v6 m7 _ _ hv => ?_)
        obtain ⟨x1, x2, x3, x4⟩ := hv
        have T7 := gz_h_tc x2 T4
        have f7 : ∀ o : Nat, o ≠ 46 → ¬ (61 ≤ o ∧ o < 65) → m7 o = m o := fun o o1 o2 => by rw [x2.1 o o1]; exact f4 o o1 o2
        have rows : gd_gm g (gz_r3 rr n c.2.2.1 c.2.2.2.1 c.2.2.2.2) (n + 1) = gd_joins (gd_gm g rr n) c.2.2.1 c.2.2.2.1 c.2.2.2.2 := by
          rw [gd_gm, q3.1, q3.2.1, q3.2.2.1, gd_gm_congr g n q3.2.2.2]
        have G7 : gc_N (gd_gm g (gz_r3 rr n c.2.2.1 c.2.2.2.1 c.2.2.2.2) (n + 1)) m7 := by
          rw [rows]
          exact gc_N_h G4 (fun o o1 o2 => x2.1 o (by omega))
        have CC : ∀ k : Nat, k < n + 1 → gz_Cg (gz_r3 rr n c.2.2.1 c.2.2.2.1 c.2.2.2.2) k := by
          intro k hk
          by_cases e : k = n
          · rw [e]; exact C4
          · have := hC k (by omega)
            unfold gz_Cg at this ⊢
            rw [q3.2.2.2 (3 * (k : Int)) (by omega), q3.2.2.2 (3 * (k : Int) + 1) (by omega), q3.2.2.2 (3 * (k : Int) + 2) (by omega), gz_tt_congr k (fun j hj => q3.2.2.2 j (by omega))]
            exact this
        by_cases d1 : L ≤ gz_ne t L c.2.1
        · rw [if_pos d1] at hRe x1
          rw [x1, if_pos rfl]
          apply r_X9_readGroup_58 61 hb
          refine ⟨fun z => absurd z (by omega), fun _ => ⟨fun z => absurd z (by omega), fun _ => ?_⟩⟩
          apply r_X9_readGroup_83 61 hb
          apply r_X9_readGroup_88 61 hb
          apply r_X9_readGroup_17 61 hb
          refine ⟨fun z => absurd z (by omega), fun _ => ⟨fun z => absurd z (by omega), fun _ => fin _ _ _ _ m7 f7 (Or.inr ⟨by omega, by rw [hRe]; show (n : Int) + 1 = ((n + 1 : Nat) : Int); omega, ?_⟩)⟩⟩
          rw [hRe, Int.toNat_natCast]
          exact G7
        · rw [if_neg d1] at hRe x1
          have bt := (hT.2.2 (gz_ne t L c.2.1) a1.1.1 (by omega)).2
          rw [if_neg (by omega)]
          apply r_X9_readGroup_58 61 hb
          refine ⟨fun z => absurd z (by omega), fun _ => ⟨fun _ => ⟨fun z => ?_, fun z => ?_⟩, fun z => absurd rfl z⟩⟩
          · rw [if_neg (by omega)] at hRe
            exact bad _ _ m7 f7 (by rw [x3]; exact a1.1) (by rw [hRe, x3]) _
          · refine gw_CI.of (sp_X9_passes t L (gz_ne t L c.2.1) 44 (by omega) (by omega) m7 T7 x3 a1.1) rfl (fun v9 m10 _ _ hv => ?_)
            obtain ⟨y1, y2, y3⟩ := hv
            rw [nn] at y1 y3
            have f10 : ∀ o : Nat, o ≠ 46 → ¬ (61 ≤ o ∧ o < 65) → m10 o = m o := fun o o1 o2 => by rw [y2.1 o o1]; exact f7 o o1 o2
            have eb : gz_by t L (gz_ne t L c.2.1) = t (gz_ne t L c.2.1) := by unfold gz_by; rw [if_neg d1]
            rw [eb] at y1 y3
            by_cases d2 : t (gz_ne t L c.2.1) = 44
            · rw [if_pos d2] at y1 y3
              rw [if_pos ⟨by omega, d2⟩] at hRe
              refine ⟨fun z => absurd z (by omega), fun _ => ?_⟩
              apply r_X9_readGroup_83 61 hb
              apply r_X9_readGroup_88 61 hb
              exact ih (n + 1) _ m10 _ (by omega) (by omega) (by omega) y3 (gz_h_tc y2 T7) f10 CC (gc_N_h G7 (fun o o1 o2 => y2.1 o (by omega))) hRe
            · rw [if_neg d2] at y1 y3
              rw [if_neg (fun z => d2 z.2)] at hRe
              exact ⟨fun _ => bad _ _ m10 f10 (by omega) (by rw [hRe, y3]; show -20 - gz_ne t L c.2.1 = _; omega) _, fun z => absurd y1 z⟩
  apply r_X9_readGroup_0 61 hb
  have u2 := gz_h_u2 (gw_up m 61 0 0) 0
  refine key 10 0 0 _ r (by omega) (by omega) (by omega) u2.2.1 (gz_h_tc u2.1 ⟨by rw [gw_up_ne (by omega)]; exact hT.1, hL, fun j h0 h2 => by rw [gw_up_ne (by omega)]; exact hT.2.2 j h0 h2⟩) (fun o o1 o2 => by rw [u2.1.1 o o1, gw_up_ne (by omega)]) (fun k hk => by omega) (gc_N_h (gc_N_0 g r (gw_up m 61 0 0) (by rw [gw_up_at, if_pos rfl])) (fun o o1 o2 => u2.1.1 o (by omega))) hR
