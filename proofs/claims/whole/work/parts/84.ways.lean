/-! the class: a way, a group -/
theorem gz_take_rows {m : gw_Mem} {b c : Nat} (h : b + 13 ≤ c) : (∀ k : Int, 0 ≤ k ∧ k ≤ 3 → gc_take m b c (b + 1) k = m (c + 1) k) ∧
    (∀ k j : Int, 0 ≤ k ∧ k ≤ 3 → 0 ≤ j ∧ j < 8 → gc_take m b c (b + 5 + k.toNat) j = m (c + 5 + k.toNat) j ∧ gc_take m b c (b + 9 + k.toNat) j = m (c + 9 + k.toNat) j) ∧
    (∀ j : Int, 0 ≤ j ∧ j < 8 → gc_take m b c (b + 4) j = m (c + 4) j) ∧ ∀ o : Nat, ¬ (b ≤ o ∧ o < b + 13) → gc_take m b c o = m o := by
  have k4 : ∀ k : Int, 0 ≤ k ∧ k ≤ 3 → k = 0 ∨ k = 1 ∨ k = 2 ∨ k = 3 := fun k hk => by omega
  unfold gc_take gc_tk1
  refine ⟨fun k hk => ?_, fun k j hk hj => ?_, fun j hj => ?_, fun o ho => ?_⟩
  · rcases k4 k hk with rfl | rfl | rfl | rfl <;> simp (disch := omega) [gw_cp_ne, gw_up_ne, gw_up_at]
  · rcases k4 k hk with rfl | rfl | rfl | rfl
    · refine ⟨?_, ?_⟩
      · rw [show b + 5 + (0 : Int).toNat = b + 5 + 0 by simp, show c + 5 + (0 : Int).toNat = c + 5 + 0 by simp]
        simp (disch := omega) only [gw_cp_ne, gw_up_ne]
        rw [gw_cpa, if_pos (by omega)]
        simp (disch := omega) only [gw_cp_ne, gw_up_ne]
        congr 1
        omega
      · rw [show b + 9 + (0 : Int).toNat = b + 9 + 0 by simp, show c + 9 + (0 : Int).toNat = c + 9 + 0 by simp]
        simp (disch := omega) only [gw_cp_ne, gw_up_ne]
        rw [gw_cpa, if_pos (by omega)]
        simp (disch := omega) only [gw_cp_ne, gw_up_ne]
        congr 1
        omega
    · refine ⟨?_, ?_⟩
      · rw [show b + 5 + (1 : Int).toNat = b + 5 + 1 by simp, show c + 5 + (1 : Int).toNat = c + 5 + 1 by simp]
        simp (disch := omega) only [gw_cp_ne, gw_up_ne]
        rw [gw_cpa, if_pos (by omega)]
        simp (disch := omega) only [gw_cp_ne, gw_up_ne]
        congr 1
        omega
      · rw [show b + 9 + (1 : Int).toNat = b + 9 + 1 by simp, show c + 9 + (1 : Int).toNat = c + 9 + 1 by simp]
        simp (disch := omega) only [gw_cp_ne, gw_up_ne]
        rw [gw_cpa, if_pos (by omega)]
        simp (disch := omega) only [gw_cp_ne, gw_up_ne]
        congr 1
        omega
    · refine ⟨?_, ?_⟩
      · rw [show b + 5 + (2 : Int).toNat = b + 5 + 2 by simp, show c + 5 + (2 : Int).toNat = c + 5 + 2 by simp]
        simp (disch := omega) only [gw_cp_ne, gw_up_ne]
        rw [gw_cpa, if_pos (by omega)]
        simp (disch := omega) only [gw_cp_ne, gw_up_ne]
        congr 1
        omega
      · rw [show b + 9 + (2 : Int).toNat = b + 9 + 2 by simp, show c + 9 + (2 : Int).toNat = c + 9 + 2 by simp]
        simp (disch := omega) only [gw_cp_ne, gw_up_ne]
        rw [gw_cpa, if_pos (by omega)]
        simp (disch := omega) only [gw_cp_ne, gw_up_ne]
        congr 1
        omega
    · refine ⟨?_, ?_⟩
      · rw [show b + 5 + (3 : Int).toNat = b + 5 + 3 by simp, show c + 5 + (3 : Int).toNat = c + 5 + 3 by simp]
        simp (disch := omega) only [gw_cp_ne, gw_up_ne]
        rw [gw_cpa, if_pos (by omega)]
        simp (disch := omega) only [gw_cp_ne, gw_up_ne]
        congr 1
        omega
      · rw [show b + 9 + (3 : Int).toNat = b + 9 + 3 by simp, show c + 9 + (3 : Int).toNat = c + 9 + 3 by simp]
        simp (disch := omega) only [gw_cp_ne, gw_up_ne]
        rw [gw_cpa, if_pos (by omega)]
        simp (disch := omega) only [gw_cp_ne, gw_up_ne]
        congr 1
        omega
  · simp (disch := omega) only [gw_cp_ne, gw_up_ne]
    rw [gw_cpa, if_pos (by omega)]
    simp (disch := omega) only [gw_cp_ne, gw_up_ne]
    congr 1
    omega
  · simp (disch := omega) only [gw_cp_ne, gw_up_ne]
theorem gz_ptake_rows {m : gw_Mem} {b c : Nat} (h : b + 4 ≤ c) : gc_ptake m b c b 0 = m c 0 ∧ (∀ j : Int, 0 ≤ j ∧ j < 10 → gc_ptake m b c (b + 1) j = m (c + 1) j ∧ gc_ptake m b c (b + 2) j = m (c + 2) j ∧ gc_ptake m b c (b + 3) j = m (c + 3) j) ∧ ∀ o : Nat, ¬ (b ≤ o ∧ o < b + 4) → gc_ptake m b c o = m o := by
  unfold gc_ptake
  refine ⟨?_, fun j hj => ⟨?_, ?_, ?_⟩, fun o ho => ?_⟩
  · simp (disch := omega) only [gw_cp_ne]
    rw [gw_up_at, if_pos rfl]
  · simp (disch := omega) only [gw_cp_ne, gw_up_ne]
    rw [gw_cpa, if_pos (by omega)]
    simp (disch := omega) only [gw_cp_ne, gw_up_ne]
    congr 1
    omega
  · simp (disch := omega) only [gw_cp_ne, gw_up_ne]
    rw [gw_cpa, if_pos (by omega)]
    simp (disch := omega) only [gw_cp_ne, gw_up_ne]
    congr 1
    omega
  · rw [gw_cpa, if_pos (by omega)]
    simp (disch := omega) only [gw_cp_ne, gw_up_ne]
    congr 1
    omega
  · simp (disch := omega) only [gw_cp_ne, gw_up_ne]
theorem gz_take_P {G g m : gw_Mem} (hJ : gd_JP G) (hM : gc_M G m) (hP : gc_P g m 4) (e7 : G 117 = g 117) (eo : ∀ o : Nat, 122 ≤ o → o ≤ 126 → G o = g o) : gc_P G (gc_take m 5 48) 4 := by
  obtain ⟨u, q, hu⟩ := hM
  obtain ⟨p1, p2, p3, p4, p5, p6, p7, p8⟩ := hP
  obtain ⟨q1, q2, q3, q4, q5, q6, q7, q8⟩ := q
  obtain ⟨r1, r2, r3, r4⟩ := gz_take_rows (m := m) (b := 5) (c := 48) (by omega)
  have k4 : ∀ k : Int, 0 ≤ k ∧ k ≤ 3 → k = 0 ∨ k = 1 ∨ k = 2 ∨ k = 3 := fun k hk => by omega
  refine ⟨by rw [r4 4 (by omega), e7]; exact p1, fun k hk => ?_, fun k j hk hj => ?_, fun j hj => ?_, by rw [r4 (4 + 14) (by omega), e7]; exact p5, fun j hj => ?_, fun j hj => ?_, fun j hj => ?_⟩
  · have a := r1 k hk
    have b := q2 k hk
    rw [hu (47 + 2) (by omega) (by omega)] at b
    exact a.trans b
  · have hz := hJ.2.1 k hk
    have a := r2 k j hk (by omega)
    have b := q3 k j hk hj
    rw [hu (47 + 6 + k.toNat) (by omega) (by omega), hu (47 + 10 + k.toNat) (by omega) (by omega)] at b
    rw [show 4 + 6 + k.toNat = 5 + 5 + k.toNat by omega, show 4 + 10 + k.toNat = 5 + 9 + k.toNat by omega, a.1, a.2, show 48 + 5 + k.toNat = 47 + 6 + k.toNat by omega, show 48 + 9 + k.toNat = 47 + 10 + k.toNat by omega]
    exact b
  · have hz := hJ.2.1 0 (by omega)
    have a := r3 j (by omega)
    have b := q4 j hj
    rw [hu (47 + 5) (by omega) (by omega)] at b
    exact a.trans b
  · rw [r4 (4 + 15) (by omega), r4 (4 + 16) (by omega), r4 (4 + 17) (by omega), eo 123 (by omega) (by omega), eo 124 (by omega) (by omega), eo 125 (by omega) (by omega)]
    rw [e7] at hj
    exact p6 j hj
  · rw [r4 (4 + 18) (by omega), eo 122 (by omega) (by omega)]
    exact p7 j hj
  · rw [r4 (4 + 20) (by omega), eo 126 (by omega) (by omega)]
    exact p8 j hj
theorem gz_ptake_P {G g m : gw_Mem} (hJ : gd_JP G) (hN : gc_N G m) (hP : gc_P g m 4) (e0 : G 117 0 = g 117 0) (eo : ∀ o : Nat, (118 ≤ o ∧ o ≤ 122 ∨ o = 126) → G o = g o) : gc_P G (gc_ptake m 18 61) 4 := by
  obtain ⟨u, q, hu⟩ := hN
  obtain ⟨p1, p2, p3, p4, p5, p6, p7, p8⟩ := hP
  obtain ⟨q1, q2, q3, q4, q5, q6, q7, q8⟩ := q
  obtain ⟨r1, r2, r4⟩ := gz_ptake_rows (m := m) (b := 18) (c := 61) (by omega)
  refine ⟨by rw [r4 4 (by omega), e0]; exact p1, fun k hk => by rw [r4 (4 + 2) (by omega), eo 118 (by omega)]; exact p2 k hk, fun k j hk hj => ?_, fun j hj => ?_, ?_, fun j hj => ?_, fun j hj => ?_, fun j hj => ?_⟩
  · rw [eo 118 (by omega)] at hj
    rw [r4 (4 + 6 + k.toNat) (by omega), r4 (4 + 10 + k.toNat) (by omega), eo 119 (by omega), eo 120 (by omega)]
    exact p3 k j hk hj
  · rw [eo 118 (by omega)] at hj
    rw [r4 (4 + 5) (by omega), eo 121 (by omega)]
    exact p4 j hj
  · rw [hu (47 + 14) (by omega) (by omega)] at q5
    exact r1.trans q5
  · have hz := hJ.2.2.2.2.1
    have a := r2 j (by omega)
    have b := q6 j hj
    rw [hu (47 + 15) (by omega) (by omega), hu (47 + 16) (by omega) (by omega), hu (47 + 17) (by omega) (by omega)] at b
    exact ⟨a.1.trans b.1, a.2.1.trans b.2.1, a.2.2.trans b.2.2⟩
  · rw [r4 (4 + 18) (by omega), eo 122 (by omega)]
    exact p7 j hj
  · rw [r4 (4 + 20) (by omega), eo 126 (by omega)]
    exact p8 j hj
theorem gc_P_lo {g m m' : gw_Mem} (h : gc_P g m 4) (hm : ∀ o : Nat, 4 ≤ o → o < 25 → m' o = m o) : gc_P g m' 4 := gc_P_congr h hm rfl rfl rfl rfl rfl rfl rfl rfl rfl rfl rfl
def gc_wq (g m m' : gw_Mem) : Prop := if 0 ≤ (ga_rw g).1 then gc_P (gd_wm g (ga_rw g).2 (ga_rw g).1.toNat) m' 4 ∧ m' 46 1 = 0 ∧ (m' 0 8 = 0 ∧ m' 0 12 = -1 ∧ ∀ j : Int, j ≠ 8 → j ≠ 12 → m' 0 j = m 0 j) ∧ ∀ o : Nat, o ≠ 0 → o ≠ 46 → ¬ (4 ≤ o ∧ o < 25) → ¬ (48 ≤ o ∧ o < 61) → m' o = m o
  else m' 46 1 = 0 ∧ ∀ o : Nat, o ≠ 46 → ¬ (48 ≤ o ∧ o < 61) → m' o = m o
def gc_gq (g m m' : gw_Mem) : Prop := if 0 ≤ (ga_rg g).1 then gc_P (gd_gm g (ga_rg g).2 (ga_rg g).1.toNat) m' 4 ∧ m' 46 1 = 0 ∧ (m' 0 8 = 0 ∧ m' 0 12 = -1 ∧ ∀ j : Int, j ≠ 8 → j ≠ 12 → m' 0 j = m 0 j) ∧ ∀ o : Nat, o ≠ 0 → o ≠ 46 → ¬ (4 ≤ o ∧ o < 25) → ¬ (61 ≤ o ∧ o < 65) → m' o = m o
  else m' 46 1 = 0 ∧ ∀ o : Nat, o ≠ 46 → ¬ (61 ≤ o ∧ o < 65) → m' o = m o
theorem gz_fg (m : gw_Mem) : (∀ o : Nat, o ≠ 0 → gc_fg m o = m o) ∧ gc_fg m 0 8 = 0 ∧ gc_fg m 0 12 = -1 ∧ ∀ j : Int, j ≠ 8 → j ≠ 12 → gc_fg m 0 j = m 0 j := by
  unfold gc_fg
  refine ⟨fun o ho => by rw [gw_up_ne ho, gw_up_ne ho], ?_, ?_, fun j h1 h2 => ?_⟩
  · rw [gw_up_at, if_neg (by omega), gw_up_at, if_pos rfl]
  · rw [gw_up_at, if_pos rfl]
  · rw [gw_up_at, if_neg h2, gw_up_at, if_neg h1]
theorem gz_tc_J {g m : gw_Mem} (hJ : gd_JT g) (hT : gc_T g m) : gz_tc (g 127) (g 117 12) m := ⟨hT.1, hJ.1, fun j h0 h1 => ⟨hT.2 j ⟨h0, h1⟩, hJ.2 j ⟨h0, h1⟩⟩⟩
theorem sp_X11_way (g m : gw_Mem) (hJ : gd_JP g) (hP : gc_P g m 4) (hJT : gd_JT g) (hT : gc_T g m) : gw_SpecI M_X11_way 20 [gR 0] m (fun r m' => r = (ga_rw g).1 ∧ gc_wq g m m') := by
  refine gw_intro pl_X11_way rfl (fun Γ => ?_)
  apply r_X11_way_0
  have good := ga_rw_good hJT
  have sp := sp_X9_readWay (g 127) (g 117 12) g m hJ (gz_tc_J hJT hT) (g 128)
  change gw_SpecI M_X9_readWay 16 [gR 46, gR 48] m (fun v m' => v = (ga_rw g).1 ∧ (0 ≤ v → gc_M (gd_wm g (ga_rw g).2 v.toNat) m') ∧ (∀ o : Nat, o ≠ 46 → ¬ (48 ≤ o ∧ o < 61) → m' o = m o) ∧ m' 46 1 = 0) at sp
  refine gw_CI.of sp rfl (fun v m2 _ _ hv => ?_)
  obtain ⟨rfl, hM, hf, h1⟩ := hv
  unfold gc_wq
  generalize hR : ga_rw g = R at *
  refine ⟨fun z => ⟨_, rfl, rfl, by rw [if_neg (by omega)]; exact ⟨h1, hf⟩⟩, fun z => ?_⟩
  have b5 : gw_isMarks 5 := by unfold gw_isMarks; omega
  have b48 : gw_isMarks 48 := by unfold gw_isMarks; omega
  refine gw_CV.eq (sp_X3_take 5 48 b5 b48 m2) rfl (gw_CV.eq (sp_X11_forget _) rfl ⟨_, rfl, rfl, ?_⟩)
  rw [if_pos (by omega)]
  have JG : gd_JP (gd_wm g R.2 R.1.toNat) := by
    rcases good with q | q
    · omega
    · exact gd_wm_JP hJ R.2 R.1.toNat (by omega) (fun k hk => q.2 k (by omega))
  have f := gz_fg (gc_take m2 5 48)
  have rr := (gz_take_rows (m := m2) (b := 5) (c := 48) (by omega)).2.2.2
  change gc_P _ (gc_fg (gc_take m2 5 48)) 4 ∧ gc_fg (gc_take m2 5 48) 46 1 = 0 ∧ (gc_fg (gc_take m2 5 48) 0 8 = 0 ∧ gc_fg (gc_take m2 5 48) 0 12 = -1 ∧ ∀ j : Int, j ≠ 8 → j ≠ 12 → gc_fg (gc_take m2 5 48) 0 j = m 0 j) ∧ ∀ o : Nat, o ≠ 0 → o ≠ 46 → ¬ (4 ≤ o ∧ o < 25) → ¬ (48 ≤ o ∧ o < 61) → gc_fg (gc_take m2 5 48) o = m o
  refine ⟨gc_P_lo (gz_take_P JG (hM (by omega)) (gc_P_lo hP (fun o o1 o2 => hf o (by omega) (by omega))) (gd_wm_ne g R.2 _ (by omega) (by omega) (by omega) (by omega)) (fun o o1 o2 => gd_wm_ne g R.2 _ (by omega) (by omega) (by omega) (by omega))) (fun o o1 o2 => f.1 o (by omega)), by rw [f.1 46 (by omega), rr 46 (by omega)]; exact h1, ⟨f.2.1, f.2.2.1, fun j j1 j2 => by rw [f.2.2.2 j j1 j2, rr 0 (by omega), hf 0 (by omega) (by omega)]⟩, fun o o1 o2 o3 o4 => by rw [f.1 o o1, rr o (by omega), hf o o2 o4]⟩
theorem sp_X11_group (g m : gw_Mem) (hJ : gd_JP g) (hP : gc_P g m 4) (hJT : gd_JT g) (hT : gc_T g m) : gw_SpecI M_X11_group 20 [gR 0] m (fun r m' => r = (ga_rg g).1 ∧ gc_gq g m m') := by
  refine gw_intro pl_X11_group rfl (fun Γ => ?_)
  apply r_X11_group_0
  have good := ga_rg_good hJT
  have sp := sp_X9_readGroup (g 127) (g 117 12) g m hJ (gz_tc_J hJT hT) (g 128)
  change gw_SpecI M_X9_readGroup 16 [gR 46, gR 61] m (fun v m' => v = (ga_rg g).1 ∧ (0 ≤ v → gc_N (gd_gm g (ga_rg g).2 v.toNat) m') ∧ (∀ o : Nat, o ≠ 46 → ¬ (61 ≤ o ∧ o < 65) → m' o = m o) ∧ m' 46 1 = 0) at sp
  refine gw_CI.of sp rfl (fun v m2 _ _ hv => ?_)
  obtain ⟨rfl, hN, hf, h1⟩ := hv
  unfold gc_gq
  generalize hR : ga_rg g = R at *
  refine ⟨fun z => ⟨_, rfl, rfl, by rw [if_neg (by omega)]; exact ⟨h1, hf⟩⟩, fun z => ?_⟩
  have b18 : gw_isPeople 18 := by unfold gw_isPeople; omega
  have b61 : gw_isPeople 61 := by unfold gw_isPeople; omega
  refine gw_CV.eq (sp_X5_take 18 61 b18 b61 m2) rfl (gw_CV.eq (sp_X11_forget _) rfl ⟨_, rfl, rfl, ?_⟩)
  rw [if_pos (by omega)]
  have JG : gd_JP (gd_gm g R.2 R.1.toNat) := by
    rcases good with q | q
    · omega
    · exact gd_gm_JP hJ R.2 R.1.toNat (by omega) (fun k hk => q.2 k (by omega))
  have f := gz_fg (gc_ptake m2 18 61)
  have rr := (gz_ptake_rows (m := m2) (b := 18) (c := 61) (by omega)).2.2
  change gc_P _ (gc_fg (gc_ptake m2 18 61)) 4 ∧ gc_fg (gc_ptake m2 18 61) 46 1 = 0 ∧ (gc_fg (gc_ptake m2 18 61) 0 8 = 0 ∧ gc_fg (gc_ptake m2 18 61) 0 12 = -1 ∧ ∀ j : Int, j ≠ 8 → j ≠ 12 → gc_fg (gc_ptake m2 18 61) 0 j = m 0 j) ∧ ∀ o : Nat, o ≠ 0 → o ≠ 46 → ¬ (4 ≤ o ∧ o < 25) → ¬ (61 ≤ o ∧ o < 65) → gc_fg (gc_ptake m2 18 61) o = m o
  refine ⟨gc_P_lo (gz_ptake_P JG (hN (by omega)) (gc_P_lo hP (fun o o1 o2 => hf o (by omega) (by omega))) (by rw [gd_gm_117, if_neg (by omega)]) (fun o o1 => gd_gm_ne g R.2 _ (by omega) (by omega) (by omega) (by omega))) (fun o o1 o2 => f.1 o (by omega)), by rw [f.1 46 (by omega), rr 46 (by omega)]; exact h1, ⟨f.2.1, f.2.2.1, fun j j1 j2 => by rw [f.2.2.2 j j1 j2, rr 0 (by omega), hf 0 (by omega) (by omega)]⟩, fun o o1 o2 o3 o4 => by rw [f.1 o o1, rr o (by omega), hf o o2 o4]⟩
