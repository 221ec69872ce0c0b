/-! the class: the least heard, if all are there in time -/
theorem gd_fs_oth (g : gw_Mem) (x : Int) (t : Int) (k : Nat) (o : Nat) (j : Int) (hj : j ≠ x) : gd_fs g x t k o j = g o j := by
  have up : ∀ (q : gw_Mem) (o' : Nat) (v : Int), gw_up q o' x v o j = q o j := fun q o' v => by
    unfold gw_up
    rw [if_neg (fun z => hj z.2)]
  induction k generalizing g with
  | zero => rfl
  | succ k ih =>
    rw [gd_fs]
    have hu : gd_up1 g x o j = g o j := up _ _ _
    repeat' split
    all_goals first
      | rfl
      | exact (ih _).trans hu
      | exact (up _ _ _).trans hu
      | exact up _ _ _
theorem gd_go_oth (g : gw_Mem) (x : Int) (t : Int) (o : Nat) (j : Int) (hj : j ≠ x) : gd_go g x t o j = g o j := by
  have up : ∀ (q : gw_Mem) (o' : Nat) (v : Int), gw_up q o' x v o j = q o j := fun q o' v => by
    unfold gw_up
    rw [if_neg (fun z => hj z.2)]
  unfold gd_go
  repeat' split
  all_goals first
    | rfl
    | exact up _ _ _
    | exact gd_fs_oth _ _ _ _ _ _ hj
theorem gd_pp_lo (g : gw_Mem) (t : Int) (n : Nat) (o : Nat) (j : Int) (hj : (n : Int) ≤ j) : gd_pp g t n o j = g o j := by
  induction n with
  | zero => rfl
  | succ n ih =>
    rw [gd_pp]
    split
    · rw [gd_go_oth _ _ _ _ _ (by omega), ih (by omega)]
    · exact ih (by omega)
theorem gd_pp_hi (g : gw_Mem) (t : Int) (j n : Nat) (hj : j < n) (o : Nat) : gd_pp g t n o j = gd_pp g t (j + 1) o j := by
  induction n with
  | zero => omega
  | succ n ih =>
    by_cases e : j = n
    · rw [e]
    · rw [gd_pp]
      split
      · rw [gd_go_oth _ _ _ _ _ (by omega), ih (by omega)]
      · exact ih (by omega)
theorem gd_bs_134 (m : gw_Mem) (t : Int) (n : Nat) (j : Nat) : (gd_bs m t n).2 134 j = if j < n ∧ m 131 j < 0 ∧ m 129 j = m 117 0 ∧ m 134 j < 0 then t else m 134 j := by
  induction n with
  | zero => rw [if_neg (by omega)]; rfl
  | succ n ih =>
    have e129 := gd_bs_ne m t n 129 (by omega) (by omega)
    have e131 := gd_bs_ne m t n 131 (by omega) (by omega)
    have e117 := gd_bs_ne m t n 117 (by omega) (by omega)
    rw [gd_bs]
    split
    · rename_i hl
      rw [gd_lostz, e131] at hl
      dsimp only
      unfold gd_br
      rw [gw_up_at, gw_up_ne (by omega)]
      by_cases e : (j : Int) = n
      · have e' : j = n := by omega
        subst e'
        rw [if_neg (fun z => absurd z.1 (by omega))] at ih
        rw [if_pos rfl, ih, e129, e117]
        by_cases h1 : m 129 (j : Int) = m 117 0
        · rw [if_pos h1]
          by_cases h2 : 0 ≤ m 134 (j : Int)
          · rw [if_pos h2, if_neg (by omega)]
          · rw [if_neg h2, if_pos ⟨by omega, hl, h1, by omega⟩]
        · rw [if_neg h1, if_neg (fun z => h1 z.2.2.1)]
      · rw [if_neg e, ih]
        by_cases h : j < n ∧ m 131 (j : Int) < 0 ∧ m 129 (j : Int) = m 117 0 ∧ m 134 (j : Int) < 0
        · rw [if_pos h, if_pos ⟨by omega, h.2⟩]
        · rw [if_neg h, if_neg (fun z => h ⟨by omega, z.2⟩)]
    · rename_i hl
      rw [gd_lostz, e131] at hl
      rw [ih]
      by_cases h : j < n ∧ m 131 (j : Int) < 0 ∧ m 129 (j : Int) = m 117 0 ∧ m 134 (j : Int) < 0
      · rw [if_pos h, if_pos ⟨by omega, h.2⟩]
      · rw [if_neg h, if_neg (fun z => h ⟨by
          refine Nat.lt_of_le_of_ne (by omega) (fun q => hl ?_)
          rw [← q]; exact z.2.1, z.2⟩)]
/-- a minute, as one of the people sees it -/
theorem gd_min_j (g : gw_Mem) (t : Int) (j : Nat) (hj : j < gd_n g) : (0 ≤ g 131 j → gd_min g t 131 j = g 131 j ∧ gd_min g t 134 j = g 134 j) ∧ (gd_min g t 134 j = g 134 j ∨ g 134 j < 0 ∧ gd_min g t 134 j = t ∧ gd_min g t 129 j = g 117 0 ∧ gd_min g t 131 j < 0) := by
  have hw : gd_wf g (gd_pp (gd_gg g t) t (gd_n g)) := gd_wf_tr (gd_gg_wf g t) (gd_pp_wf _ _ _)
  have hn := gd_wf_n hw
  have h0 := hw.2 0 (by omega)
  have p131 : 0 ≤ g 131 j → gd_pp (gd_gg g t) t (gd_n g) 131 j = g 131 j := by
    intro hl
    have a : gd_pp (gd_gg g t) t j 131 j = g 131 j := by rw [gd_pp_lo _ _ _ _ _ (Int.le_refl _), gd_gg_ne g t (by omega) (by omega)]
    rw [gd_pp_hi _ _ j _ hj, gd_pp, if_neg (by rw [gd_lostz, a]; omega)]
    exact a
  have p134 : gd_pp (gd_gg g t) t (gd_n g) 134 j = g 134 j := by rw [gd_pp_ne _ _ _ 134 (by omega), gd_gg_ne g t (by omega) (by omega)]
  unfold gd_min
  generalize gd_pp (gd_gg g t) t (gd_n g) = q at *
  obtain ⟨b1, _⟩ := gd_bh_at q t
  rw [b1 131 (by omega) (by omega), b1 134 (by omega) (by omega), b1 129 (by omega) (by omega), gd_bs_134, gd_bs_ne q t _ 131 (by omega) (by omega), gd_bs_ne q t _ 129 (by omega) (by omega), p134]
  refine ⟨fun hl => ⟨p131 hl, ?_⟩, ?_⟩
  · rw [if_neg (fun z => by rw [p131 hl] at z; omega)]
  · by_cases h : j < gd_n q ∧ q 131 (j : Int) < 0 ∧ q 129 (j : Int) = q 117 0 ∧ g 134 (j : Int) < 0
    · rw [if_pos h]
      exact Or.inr ⟨h.2.2.2, rfl, by rw [h.2.2.1, h0], h.2.1⟩
    · rw [if_neg h]; exact Or.inl rfl
/-- who is there is at the end, and not lost -/
def gd_I (g : gw_Mem) (k : Int) : Prop := ∀ j : Nat, j < gd_n g → 0 ≤ g 134 j → g 129 j = g 117 0 ∧ g 131 j < 0 ∧ g 134 j < k
theorem gd_I_min {g : gw_Mem} (hJ : gd_JP g) (hV : gd_V g) (t : Int) (h : gd_I g t) : gd_I (gd_min g t) (t + 1) := by
  intro j hj h134
  have hnc := gd_n_cast hJ
  have hmw := gd_min_wf g t
  rw [gd_wf_n hmw] at hj
  rw [hmw.2 0 (by omega)]
  obtain ⟨a, c⟩ := gd_min_j g t j hj
  rcases c with c | c
  · rw [c] at h134
    obtain ⟨i1, i2, i3⟩ := h j hj h134
    have hv := hV.2.1 j (by omega)
    have hg := hV.1
    have e1 : gd_gg g t = g := by rw [gd_gg, if_pos (by omega)]
    have keep : ∀ o : Nat, o = 129 ∨ o = 131 → gd_pp (gd_gg g t) t (gd_n g) o j = g o j := by
      intro o ho
      rw [e1, gd_pp_hi _ _ j _ hj, gd_pp]
      have lo : ∀ o : Nat, gd_pp g t j o j = g o j := fun o => gd_pp_lo _ _ _ _ _ (Int.le_refl _)
      have l117 : gd_pp g t j 117 = g 117 := gd_pp_ne g t j 117 (by omega)
      split
      · unfold gd_go
        rw [lo 130, if_neg (by omega)]
        split
        · exact lo o
        · generalize (gd_pp g t j 124 (j : Int)).toNat = k
          cases k with
          | zero => exact lo o
          | succ k => rw [gd_fs, if_pos (by rw [lo 129, l117]; omega)]; exact lo o
      · exact lo o
    have k129 := keep 129 (by omega)
    have k131 := keep 131 (by omega)
    have f : gd_min g t 129 j = g 129 j ∧ gd_min g t 131 j = g 131 j := by
      unfold gd_min
      obtain ⟨b1, _⟩ := gd_bh_at (gd_pp (gd_gg g t) t (gd_n g)) t
      rw [b1 129 (by omega) (by omega), b1 131 (by omega) (by omega), gd_bs_ne _ t _ 129 (by omega) (by omega), gd_bs_ne _ t _ 131 (by omega) (by omega)]
      exact ⟨k129, k131⟩
    rw [f.1, f.2, c]
    exact ⟨i1, i2, by omega⟩
  · rw [c.2.1]
    exact ⟨c.2.2.1, c.2.2.2, by omega⟩
theorem gd_there_run (g0 : gw_Mem) (j k : Nat) (hj : j < gd_n g0) : ∀ d : Nat, gd_run g0 (k + d) 134 j = gd_run g0 k 134 j ∨ gd_run g0 k 134 j < 0 ∧ (gd_run g0 (k + d) 134 j < 0 ∨ (k : Int) ≤ gd_run g0 (k + d) 134 j) := by
  intro d
  induction d with
  | zero => exact Or.inl rfl
  | succ d ih =>
    have hn : gd_n (gd_run g0 (k + d)) = gd_n g0 := gd_wf_n (gd_run_wf _ _)
    have c := (gd_min_j (gd_run g0 (k + d)) ((k + d : Nat) : Int) j (by omega)).2
    have e : gd_run g0 (k + (d + 1)) = gd_min (gd_run g0 (k + d)) ((k + d : Nat) : Int) := rfl
    rw [e]
    rcases c with c | c
    · rw [c]; exact ih
    · rw [c.2.1]
      rcases ih with i | i
      · right; exact ⟨by omega, Or.inr (by omega)⟩
      · right; exact ⟨i.1, Or.inr (by omega)⟩
theorem gd_lost_run (g0 : gw_Mem) (j k : Nat) (hj : j < gd_n g0) (hl : 0 ≤ gd_run g0 k 131 j) : ∀ d : Nat, gd_run g0 (k + d) 131 j = gd_run g0 k 131 j ∧ gd_run g0 (k + d) 134 j = gd_run g0 k 134 j := by
  intro d
  induction d with
  | zero => exact ⟨rfl, rfl⟩
  | succ d ih =>
    have hn : gd_n (gd_run g0 (k + d)) = gd_n g0 := gd_wf_n (gd_run_wf _ _)
    have c := (gd_min_j (gd_run g0 (k + d)) ((k + d : Nat) : Int) j (by omega)).1 (by rw [ih.1]; exact hl)
    have e : gd_run g0 (k + (d + 1)) = gd_min (gd_run g0 (k + d)) ((k + d : Nat) : Int) := rfl
    rw [e, c.1, c.2]
    exact ih
theorem gd_nt_0 (w : gw_Mem) (n : Nat) : gd_nt w n = 0 ↔ ∀ j : Nat, j < n → 0 ≤ w 134 j := by
  induction n with
  | zero => exact ⟨fun _ j hj => by omega, fun _ => rfl⟩
  | succ n ih =>
    have z : gd_nt w (n + 1) = gd_nt w n + (if w 134 (n : Int) < 0 then 1 else 0) := rfl
    have p := (gd_nt_mono w n 0).1
    rw [z]
    constructor
    · intro h j hj
      by_cases e : j = n
      · rw [e]
        by_cases q : w 134 (n : Int) < 0
        · rw [if_pos q] at h; omega
        · omega
      · refine ih.mp ?_ j (by omega)
        split at h <;> omega
    · intro h
      have h1 := ih.mpr (fun j hj => h j (by omega))
      have h2 := h n (by omega)
      rw [h1, if_neg (by omega)]
      omega
theorem gd_mx_le (w : gw_Mem) (n : Nat) (T : Int) (hT : -4 ≤ T) : gd_mx w n ≤ T ↔ ∀ j : Nat, j < n → w 134 j ≤ T := by
  induction n with
  | zero => exact ⟨fun _ j hj => by omega, fun _ => hT⟩
  | succ n ih =>
    rw [gd_mx]
    constructor
    · intro h j hj
      by_cases e : j = n
      · rw [e]
        split at h <;> omega
      · refine ih.mp ?_ j (by omega)
        split at h <;> omega
    · intro h
      have h1 := ih.mpr (fun j hj => h j (by omega))
      have h2 := h n (by omega)
      split <;> omega
theorem gd_mx_pos (w : gw_Mem) (n : Nat) (hn : 0 < n) (h : ∀ j : Nat, j < n → 0 ≤ w 134 j) : 0 ≤ gd_mx w n := by
  refine Int.not_lt.mp (fun z => ?_)
  have q := (gd_mx_le w n (-1) (by omega)).mp (by omega) 0 hn
  have p := h 0 hn
  omega
/-- all there in time, of all of them -/
theorem gd_alt_iff (w : gw_Mem) (T : Int) (hT : 0 ≤ T) (hn : 0 < gd_n w) : (0 ≤ gd_alt w ∧ gd_alt w ≤ T) ↔ ∀ j : Nat, j < gd_n w → 0 ≤ w 134 j ∧ w 134 j ≤ T := by
  unfold gd_alt
  by_cases h : gd_nt w (gd_n w) = 0
  · rw [if_pos h]
    have h0 := (gd_nt_0 w (gd_n w)).mp h
    constructor
    · exact fun z j hj => ⟨h0 j hj, (gd_mx_le w (gd_n w) T (by omega)).mp z.2 j hj⟩
    · exact fun z => ⟨gd_mx_pos w _ hn h0, (gd_mx_le w (gd_n w) T (by omega)).mpr (fun j hj => (z j hj).2)⟩
  · rw [if_neg h]
    constructor
    · exact fun z => absurd z.1 (by omega)
    · exact fun z => absurd ((gd_nt_0 w (gd_n w)).mpr (fun j hj => (z j hj).1)) h
theorem gd_alive_all (g : gw_Mem) (n : Nat) : gd_alive g n = n ↔ ∀ j : Nat, j < n → g 131 j < 0 := by
  induction n with
  | zero => exact ⟨fun _ j hj => by omega, fun _ => rfl⟩
  | succ n ih =>
    have c : gd_alive g (n + 1) = gd_alive g n + (if gd_lost g n = 0 then 1 else 0) := rfl
    have r := gd_alive_rng g n
    rw [c]
    simp only [gd_lostz]
    constructor
    · intro h j hj
      by_cases e : j = n
      · rw [e]
        by_cases q : g 131 (n : Int) < 0
        · exact q
        · rw [if_neg q] at h; omega
      · refine ih.mp ?_ j (by omega)
        split at h <;> omega
    · intro h
      have h1 := ih.mpr (fun j hj => h j (by omega))
      rw [if_pos (h n (by omega)), h1]
      omega
theorem gd_lof_congr {w w' : gw_Mem} (h : w' 132 = w 132) (n : Nat) : gd_lof w' n = gd_lof w n := by
  induction n with
  | zero => rfl
  | succ n ih => rw [gd_lof, gd_lof, ih, h]
def gd_inT (g : gw_Mem) (T : Int) : Int := if 0 ≤ gd_alt (gd_walks g) ∧ gd_alt (gd_walks g) ≤ T then gd_lof (gd_walks g) (gd_n g) else -1
theorem sp_X10_leastHeardInTime (g m : gw_Mem) (hJ : gd_JP g) (hL : gc_L g m 83) (T : Nat) (hT : T < 300) (hn1 : 0 < g 117 6) : gw_SpecI M_X10_leastHeardInTime 15 [gR 83, gI (T : Int)] m (fun r m' => r = gd_inT g T ∧ gc_fw 83 m m') := by
  refine gw_intro pl_X10_leastHeardInTime rfl (fun Γ => ?_)
  have hnc := gd_n_cast hJ
  have hb83 := gw_isWalk83
  have hbw := gd_beg_wf g
  have hnb : ∀ k : Nat, gd_n (gd_run (gd_beg g) k) = gd_n g := fun k => by rw [gd_wf_n (gd_run_wf _ _), gd_wf_n hbw]
  have hnw := gd_walks_n g
  have iff := gd_alt_iff (gd_walks g) (T : Int) (by omega) (by omega)
  rw [hnw] at iff
  have no : (∃ j : Nat, j < gd_n g ∧ ¬ (0 ≤ gd_walks g 134 j ∧ gd_walks g 134 j ≤ T)) → gd_inT g T = -1 := by
    rintro ⟨j, hj, hjn⟩
    rw [gd_inT, if_neg (fun z => hjn (iff.mp z j hj))]
  have e300 : ∀ k : Nat, k ≤ 300 → gd_walks g = gd_run (gd_beg g) (k + (300 - k)) := fun k hk => by rw [show k + (300 - k) = 300 by omega]; rfl
  have someLost : ∀ (k : Nat), k ≤ 300 → gd_I (gd_run (gd_beg g) k) k → gd_alive (gd_run (gd_beg g) k) (gd_n g) ≠ gd_n g → gd_inT g T = -1 := by
    intro k hk hI hal
    have ex : ∃ j : Nat, j < gd_n g ∧ 0 ≤ gd_run (gd_beg g) k 131 j := Classical.byContradiction (fun z => hal ((gd_alive_all _ _).mpr (fun j hj => Int.not_le.mp (fun q => z ⟨j, hj, q⟩))))
    obtain ⟨j, hj, hl⟩ := ex
    refine no ⟨j, hj, fun z => ?_⟩
    have q := (gd_lost_run (gd_beg g) j k (by rw [gd_wf_n hbw]; exact hj) hl (300 - k)).2
    rw [← e300 k hk] at q
    have p := hI j (by rw [hnb]; exact hj)
    rw [q] at z
    have := (p z.1).2.1
    omega
  apply r_X10_leastHeardInTime_0 83 hb83
  refine gw_CV.of (sp_X10_start 83 hb83 g m hJ hL) rfl (fun m1 _ hm1 => ?_)
  have key : ∀ (j k : Nat) (mm : gw_Mem), k + j = T + 1 → gc_Y (gd_run (gd_beg g) k) mm 83 → (0 < k → gd_M (gd_run (gd_beg g) k)) → gd_I (gd_run (gd_beg g) k) k → (0 < k → ¬ gd_ov (gd_run (gd_beg g) k)) → gc_fw 83 m mm → gw_G M_X10_leastHeardInTime 15 (fun r m' => ∃ v, r = some (gI v) ∧ v = gd_inT g T ∧ gc_fw 83 m m') Γ 6 [some (gR 83), some (gI (T : Int)), some (gI (k : Int))] [] mm := by
    intro j
    induction j with
    | zero =>
      intro k mm hk hY hM hI hno hf
      apply r_X10_leastHeardInTime_6 83 hb83
      refine ⟨fun _ => ⟨_, rfl, ?_, hf⟩, fun z => absurd (by omega) z⟩
      symm
      refine Classical.byContradiction (fun hne => ?_)
      have all : ∀ j : Nat, j < gd_n g → 0 ≤ gd_walks g 134 j ∧ gd_walks g 134 j ≤ T := fun j hj => Classical.byContradiction (fun z => hne (no ⟨j, hj, z⟩))
      have at' : ∀ j : Nat, j < gd_n g → gd_run (gd_beg g) k 129 j = gd_run (gd_beg g) k 117 0 ∧ gd_run (gd_beg g) k 131 j < 0 := by
        intro j hj
        have q := gd_there_run (gd_beg g) j k (by rw [gd_wf_n hbw]; exact hj) (300 - k)
        rw [← e300 k (by omega)] at q
        have a := all j hj
        have h0 : 0 ≤ gd_run (gd_beg g) k 134 j := by
          rcases q with q | q
          · omega
          · omega
        have p := hI j (by rw [hnb]; exact hj) h0
        exact ⟨p.1, p.2.1⟩
      have hV := hY.1.1.2.1
      have h6 : gd_run (gd_beg g) k 117 6 = g 117 6 := (gd_wf_tr hbw (gd_run_wf _ k)).2 6 (by omega)
      have hv0 := (hV.2.1 0 (by omega)).1
      have a0 := at' 0 (by omega)
      have g16 : gd_run (gd_beg g) k 117 16 = gd_run (gd_beg g) k 117 0 := by
        have := hV.1
        have e : gd_run (gd_beg g) k 129 0 = gd_run (gd_beg g) k 117 0 := a0.1
        omega
      refine hno (by omega) ⟨g16, ?_⟩
      rw [hnb]
      have ll : ∀ n : Nat, n ≤ gd_n g → gd_ll (gd_run (gd_beg g) k) n = 1000 ∨ gd_ll (gd_run (gd_beg g) k) n = gd_run (gd_beg g) k 117 0 := by
        intro n
        induction n with
        | zero => exact fun _ => Or.inl rfl
        | succ n ihn =>
          intro hle
          have i := ihn (by omega)
          have a := at' n (by omega)
          rw [gd_ll_s, if_pos a.2, a.1]
          split
          · exact i
          · exact Or.inr rfl
      exact ll (gd_n g) (Nat.le_refl _)
    | succ j ih =>
      intro k mm hk hY hM hI hno hf
      apply r_X10_leastHeardInTime_6 83 hb83
      have h8 : mm 83 8 = gd_run (gd_beg g) k 117 6 - gd_alive (gd_run (gd_beg g) k) (gd_n (gd_run (gd_beg g) k)) := hY.1.1.2.2.2.2.2.1
      have h6 : gd_run (gd_beg g) k 117 6 = g 117 6 := (gd_wf_tr hbw (gd_run_wf _ k)).2 6 (by omega)
      rw [hnb, h6] at h8
      refine ⟨fun z => absurd z (by omega), fun _ => ⟨fun h0 => ?_, fun h0 => ⟨_, rfl, (someLost k (by omega) hI (by omega)).symm, hf⟩⟩⟩
      refine gw_CV.of (sp_X10_live 83 hb83 _ mm (k : Int) (by omega) hY) rfl (fun m2 _ h2 => ?_)
      have hY2 : gc_Y (gd_run (gd_beg g) (k + 1)) m2 83 := h2.1
      have hM2 := gd_M_run k hY.1.1.1
      have hI2 : gd_I (gd_run (gd_beg g) (k + 1)) ((k + 1 : Nat) : Int) := gd_I_min hY.1.1.1 hY.1.1.2.1 (k : Int) hI
      have hf2 : gc_fw 83 m m2 := fun o ho => by rw [h2.2 o ho]; exact hf o ho
      have h82 : m2 83 8 = gd_run (gd_beg g) (k + 1) 117 6 - gd_alive (gd_run (gd_beg g) (k + 1)) (gd_n (gd_run (gd_beg g) (k + 1))) := hY2.1.1.2.2.2.2.2.1
      have h62 : gd_run (gd_beg g) (k + 1) 117 6 = g 117 6 := (gd_wf_tr hbw (gd_run_wf _ (k + 1))).2 6 (by omega)
      rw [hnb, h62] at h82
      refine gw_CI.of (sp_X10_isOver 83 hb83 _ m2 hY2.1) rfl (fun v m' _ _ hv => ?_)
      obtain ⟨hv, rfl⟩ := hv
      refine ⟨fun h3 => ?_, fun h3 => ⟨fun h4 => ?_, fun h4 => ⟨_, rfl, (someLost (k + 1) (by omega) hI2 (by omega)).symm, hf2⟩⟩⟩
      · rw [gw_w1 (by omega)]
        have hnov : ¬ gd_ov (gd_run (gd_beg g) (k + 1)) := hv.elim (fun z => z.2) (fun z => by omega)
        exact ih (k + 1) _ (by omega) hY2 (fun _ => hM2) hI2 (fun _ => hnov) hf2
      · have hov : gd_ov (gd_run (gd_beg g) (k + 1)) := hv.elim (fun z => absurd z.1 h3) (fun z => z.2)
        have hS := gd_S_ov (k := k + 1) (by omega) hJ ⟨hY2.1.1.1, hY2.1.1.2.1⟩ (fun _ => hM2) hov
        have hR := gc_Res_of hJ hY2 hS
        refine gw_CI.eq (sp_X10_leastHeard 83 hb83 _ _ _ hnc.2 hR (fun j hj => (gd_walks_heard g j hj).1)) rfl ⟨_, rfl, ?_, hf2⟩
        rw [gd_inT, if_pos]
        refine iff.mpr (fun j hj => ?_)
        have al := (gd_alive_all (gd_run (gd_beg g) (k + 1)) (gd_n g)).mp (by omega) j hj
        have hV := hY2.1.1.2.1
        have hv1 := (hV.2.1 j (by omega)).1
        have hle := gd_ll_le (gd_run (gd_beg g) (k + 1)) (gd_n g) j hj al
        have hend := hY2.1.1.1.1
        have pl : gd_run (gd_beg g) (k + 1) 129 j = gd_run (gd_beg g) (k + 1) 117 0 := by
          have o1 := hov.1
          have o2 := hov.2
          rw [hnb] at o2
          rcases o2 with z | z <;> omega
        have th := (hM2.1 j (by omega) al).1 pl
        have ti := (hI2 j (by rw [hnb]; exact hj) th).2.2
        have e134 : gd_walks g 134 = gd_run (gd_beg g) (k + 1) 134 := hS.1 134 (by omega) (by omega)
        rw [e134]
        omega
  refine key (T + 1) 0 m1 (by omega) hm1.1 (fun z => absurd z (by omega)) (fun j hj h134 => ?_) (fun z => absurd z (by omega)) hm1.2
  have b := (gd_beg_at g).2.1 134 (by omega) j (by rw [hnb 0] at hj; omega)
  have e : gd_run (gd_beg g) 0 134 (j : Int) = gd_beg g 134 j := rfl
  rw [e, b] at h134
  simp [gd_iv] at h134
