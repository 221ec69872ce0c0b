/-! the class: one of the people, a minute -/
theorem gc_Q_r {g m : gw_Mem} {b : Nat} (h : gc_Q g m b) {o : Nat} (ho : 129 ≤ o ∧ o ≤ 134) (hne : o ≠ 131) (j v : Int) (hV' : gd_V (gw_up g o j v)) : gc_Q (gw_up g o j v) (gw_up m (b + gd_cr o) j v) b := by
  obtain ⟨hJ, hV, hL, hR, ht, h8, hH⟩ := h
  have hc := gd_cr_rng ho
  have hw : gd_wf g (gw_up g o j v) := gd_wf_up (gd_wf_rfl g) (by omega) _ _
  have n117 : gw_up g o j v 117 = g 117 := gw_up_ne (by omega)
  refine ⟨gd_wf_JP hw hJ, hV', gc_L_m (gc_L_g hL (gd_pq_wf hw)) (fun q _ _ => gw_up_ne (by omega)), gc_Rr_up hR ho j v, gc_tn_congr ht (by rw [n117]) (gw_up_ne (by omega)) (by rw [gw_up_ne (by omega)]), ?_, ?_⟩
  · rw [gw_up_ne (by omega), n117, gd_wf_n hw, gd_alive_congr (g := g) (gd_n g) (fun i _ => by rw [gw_up_ne (by omega)])]
    exact h8
  · unfold gc_H
    rw [gd_wl_pq (gd_pq_wf hw), gd_sh_congr (g := g) (by rw [n117]) (by rw [n117]) (by rw [n117]) (gw_up_ne (by omega)) (gw_up_ne (by omega)), n117, gw_up_ne (q := b) (by omega), gw_up_ne (q := b + 11) (by omega)]
    exact hH
theorem gd_V_up {g : gw_Mem} (h : gd_V g) {o : Nat} (ho : o = 132 ∨ o = 133 ∨ o = 134 ∨ o = 131) (j v : Int) : gd_V (gw_up g o j v) :=
  gd_V_congr h (by rw [gw_up_ne (by omega)]) (by rw [gw_up_ne (by omega)]) (by rw [gw_up_ne (by omega)]) (by rw [gw_up_ne (by omega)]) (gw_up_ne (by omega)) (gw_up_ne (by omega)) (gw_up_ne (by omega)) (gw_up_ne (by omega))
theorem gd_V_129 {g : gw_Mem} (h : gd_V g) (x v : Int) (hv : 0 ≤ v ∧ v ≤ g 117 16) (h0 : g 130 x ≤ 0) : gd_V (gw_up g 129 x v) := by
  unfold gd_V at *
  simp (disch := omega) only [gw_up_ne, gw_up_at]
  refine ⟨h.1, fun j hj => ⟨?_, ?_⟩, h.2.2⟩
  · split
    · exact hv
    · exact (h.2.1 j hj).1
  · split
    · rename_i e
      rw [e]; exact Or.inr h0
    · exact (h.2.1 j hj).2
theorem gd_V_130 {g : gw_Mem} (h : gd_V g) (x v : Int) (hv : g 123 x = 1 ∧ g 129 x < g 117 0 ∨ v ≤ 0) : gd_V (gw_up g 130 x v) := by
  unfold gd_V at *
  simp (disch := omega) only [gw_up_ne, gw_up_at]
  refine ⟨h.1, fun j hj => ⟨(h.2.1 j hj).1, ?_⟩, h.2.2⟩
  split
  · rename_i e
    rw [e]; exact hv
  · exact (h.2.1 j hj).2
theorem gc_Q_lost {g m : gw_Mem} {b : Nat} (h : gc_Q g m b) {x : Nat} (hx : (x : Int) < g 117 6) (ha : g 131 x < 0) (v : Int) (hv : 0 ≤ v) : gc_Q (gw_up g 131 x v) (gw_up (gw_up m (b + 17) x v) b 8 (m b 8 + 1)) b := by
  obtain ⟨hJ, hV, hL, hR, ht, h8, hH⟩ := h
  have hw : gd_wf g (gw_up g 131 x v) := gd_wf_up (gd_wf_rfl g) (by omega) _ _
  have n117 : gw_up g 131 x v 117 = g 117 := gw_up_ne (by omega)
  have hnc := gd_n_cast hJ
  have hru := gc_Rr_up hR (o := 131) (by omega) x v
  refine ⟨gd_wf_JP hw hJ, gd_V_up hV (by omega) _ _, gc_L_m (gc_L_g hL (gd_pq_wf hw)) (fun q _ _ => by rw [gw_up_ne (by omega), gw_up_ne (by omega)]), gc_Rr_m hru (fun q _ _ => gw_up_ne (by omega)), gc_tn_congr ht (by rw [n117]) (gw_up_ne (by omega)) (by rw [gw_up_at, if_neg (by omega), gw_up_ne (by omega)]), ?_, ?_⟩
  · rw [gw_up_at, if_pos rfl, n117, gd_wf_n hw, gd_alive_up (gd_n g) x v ha hv, if_pos (by omega), h8]
    omega
  · unfold gc_H
    rw [gd_wl_pq (gd_pq_wf hw), gd_sh_congr (g := g) (by rw [n117]) (by rw [n117]) (by rw [n117]) (gw_up_ne (by omega)) (gw_up_ne (by omega)), n117, gw_up_at, if_neg (show ¬ ((4 : Int) = 8) by omega), gw_up_ne (q := b) (by omega), gw_up_ne (q := b + 11) (by omega), gw_up_ne (q := b + 11) (by omega)]
    exact hH
theorem sp_X10_lastBeside (b : Nat) (hb : gw_isWalk b) (g m : gw_Mem) (x : Int) (h : gc_Q g m b) : gw_SpecI M_X10_lastBeside 10 [gR b, gI x] m (fun r m' => r = min 100 (gd_lst g x (gd_n g)) ∧ m' = m) := by
  refine gw_intro pl_X10_lastBeside rfl (fun Γ => ?_)
  obtain ⟨hJ, hV, hL, hR, ht, h8, hH⟩ := h
  have hnc := gd_n_cast hJ
  have key : ∀ (j i : Nat), i + j = gd_n g → gw_G M_X10_lastBeside 10 (fun r m' => ∃ v, r = some (gI v) ∧ v = min 100 (gd_lst g x (gd_n g)) ∧ m' = m) Γ 5 [some (gR b), some (gI x), some (gI (min 100 (gd_lst g x i))), some (gI (i : Int))] [] m := by
    intro j
    induction j with
    | zero =>
      intro i hi
      apply r_X10_lastBeside_5 b hb _ _ _ _ (by decide)
      rw [hL.2.2.1]
      refine ⟨fun _ => gw_rE ?_ rfl, fun z => absurd (by omega) z⟩
      have ei : i = gd_n g := by omega
      rw [ei]
    | succ j ih =>
      intro i hi
      apply r_X10_lastBeside_5 b hb _ _ _ _ (by decide)
      rw [hL.2.2.1]
      have hin : gw_in (i : Int) 10 := gw_inm (by omega) (by omega)
      have ro := gc_ro hR (j := (i : Int)) (by omega)
      refine ⟨fun z => absurd z (by omega), fun _ => ⟨fun _ => ⟨hin, fun _ => hin⟩, ?_⟩⟩
      rw [gw_w1 (by omega), ro.2.2.2.2.2, ro.1]
      have h1 := ih (i + 1) (by omega)
      have e : min 100 (gd_lst g x (i + 1)) = (if (i : Int) = x then min 100 (gd_lst g x i) else if 0 ≤ g 131 (i : Int) then min 100 (gd_lst g x i) else min (min 100 (gd_lst g x i)) (g 129 i)) := by
        rw [gd_lst]
        simp only [gd_lostz]
        by_cases h1 : (i : Int) = x
        · rw [if_pos h1, if_pos h1]
        · rw [if_neg h1, if_neg h1]
          by_cases h2 : g 131 (i : Int) < 0
          · rw [if_pos h2, if_neg (show ¬ 0 ≤ g 131 (i : Int) by omega)]
            split <;> omega
          · rw [if_neg h2, if_pos (show 0 ≤ g 131 (i : Int) by omega)]
      rw [e] at h1
      exact h1
  apply r_X10_lastBeside_0 b hb _ _ (by decide)
  exact key (gd_n g) 0 (by omega)
theorem gd_tl_is {g : gw_Mem} (hJ : gd_JP g) {x : Int} (hx : 0 ≤ x ∧ x < g 117 6) : g 123 x = 3 ↔ 0 ≤ gd_tl g (gd_n g) ∧ gd_tl g (gd_n g) = x := by
  have hnc := gd_n_cast hJ
  have hr := gd_tl_rng g (gd_n g)
  constructor
  · intro h
    have h1 : 0 ≤ gd_tl g (gd_n g) := by
      refine Int.not_lt.mp (fun z => ?_)
      have := (gd_tl_neg g (gd_n g)).mp z x.toNat (by omega)
      rw [show ((x.toNat : Nat) : Int) = x by omega] at this
      exact this h
    exact ⟨h1, hJ.2.2.2.2.2.2.1 _ _ ⟨h1, by omega⟩ hx (hr.2.2.2 h1) h⟩
  · rintro ⟨h1, h2⟩
    rw [← h2]
    exact hr.2.2.2 h1
theorem sp_X10_losesItsWay (b : Nat) (hb : gw_isWalk b) (g m : gw_Mem) (x : Int) (hx : 0 ≤ x ∧ x < g 117 6) (h : gc_Q g m b) : gw_SpecI M_X10_losesItsWay 10 [gR b, gI x] m (fun r m' => r = gd_lw g x ∧ m' = m) := by
  refine gw_intro pl_X10_losesItsWay rfl (fun Γ => ?_)
  obtain ⟨hJ, hV, hL, hR, ht, h8, hH⟩ := h
  have hnc := gd_n_cast hJ
  have hend := hJ.1
  have hg := hV.1
  have hpl := (hV.2.1 x hx).1
  have hin : gw_in x 10 := gw_inm (by omega) (by omega)
  apply r_X10_losesItsWay_0 b hb
  have ro := gc_ro hR hx
  have hw : m (b + 5) (g 129 x) = gd_wl g 3 (g 129 x) := hL.2.1 3 (by omega) _ (by omega)
  rw [ro.1, hw, hH.1]
  have hti := gd_tl_is hJ hx
  have htr := gd_tl_rng g (gd_n g)
  have hwl := gd_wl_rng hJ (k := 3) (by omega) (g 129 x)
  refine ⟨hin, gw_inm (by omega) (by omega), fun _ _ _ hz => ?_, gw_rE ?_ rfl⟩
  · rcases ht with z | z
    · omega
    · rw [z.2]; exact gw_inm z.1 (by omega)
  · unfold gd_lw gd_lk
    by_cases h0 : 0 < gd_wl g 3 (g 129 x)
    · have hc := hwl.2.2.mp h0
      have e : gd_wl g 3 (g 129 x) = g 120 (24 + gd_mk g 3 (g 129 x)) := by rw [gd_wl, if_pos hc]; congr 1
      rw [if_neg (show ¬ gd_wl g 3 (g 129 x) ≤ 0 by omega), e]
      by_cases h3 : g 123 x = 3
      · have q := hti.mp h3
        rcases ht with z | z
        · omega
        · rw [if_pos (show x = m b 7 by omega), if_pos h3, if_pos (show (-4 : Int) < 0 by omega)]
      · rw [if_neg h3, if_neg (show ¬ gd_mk g 3 (g 129 x) < 0 by omega), if_neg (show ¬ g 117 0 ≤ g 129 x by omega)]
        rcases ht with z | z
        · rw [if_neg (show ¬ x = m b 7 by omega), if_pos z.1, if_pos z.2]
        · rw [if_neg (fun q => h3 (hti.mpr ⟨z.1, by omega⟩)), if_neg (show ¬ m b 7 < 0 by omega), if_neg (show ¬ gd_tl g (gd_n g) < 0 by omega), z.2, (gc_ro hR (j := gd_tl g (gd_n g)) ⟨z.1, by omega⟩).1]
    · rw [if_pos (show gd_wl g 3 (g 129 x) ≤ 0 by omega)]
      have hno : ¬ (g 129 x < g 117 0 ∧ 0 ≤ gd_mk g 3 (g 129 x)) := fun z => h0 (hwl.2.2.mpr z)
      by_cases h3 : g 123 x = 3
      · rw [if_pos h3, if_pos (show (-4 : Int) < 0 by omega)]
      · rw [if_neg h3]
        by_cases h4 : gd_mk g 3 (g 129 x) < 0
        · rw [if_pos h4]
        · rw [if_neg h4, if_pos (Int.not_lt.mp (fun z => hno ⟨z, by omega⟩))]
theorem gd_lst_up (g : gw_Mem) (x v : Int) (n : Nat) : gd_lst (gw_up g 129 x v) x n = gd_lst g x n := by
  induction n with
  | zero => rfl
  | succ n ih =>
    rw [gd_lst, gd_lst, ih]
    by_cases h : (n : Int) = x
    · rw [if_pos h, if_pos h]
    · rw [if_neg h, if_neg h, gw_up_at, if_neg h]
      unfold gd_lost
      rw [gw_up_ne (by omega)]
theorem sp_X10_follow (b : Nat) (hb : gw_isWalk b) (g m : gw_Mem) (x : Nat) (t : Int) (hx : (x : Int) < g 117 6) (ha : g 131 x < 0) (h : gc_Q g m b) : gw_SpecV M_X10_follow 11 [gR b, gI (x : Int), gI t] m (fun m' => gc_Q (gd_go g x t) m' b ∧ gc_fr b m m') := by
  refine gw_intro pl_X10_follow rfl (fun Γ => ?_)
  have hQ := h
  obtain ⟨hJ, hV, hL, hR, ht, h8, hH⟩ := h
  have hnc := gd_n_cast hJ
  have hx2 : 0 ≤ (x : Int) ∧ (x : Int) < g 117 6 := ⟨by omega, hx⟩
  have hin : gw_in (x : Int) 10 := gw_inm (by omega) (by omega)
  have ro := gc_ro hR hx2
  have hk := hL.2.2.2.1 x hx2
  have hp := (hJ.2.2.2.2.2.1 x hx2).2.1
  obtain ⟨n, hN⟩ := gw_nat (show 0 ≤ g 124 x by omega)
  have en : (g 124 x).toNat = n := by omega
  have loop : ∀ (z : Int), (z = if g 123 x = 3 then min (g 117 16) (min 100 (gd_lst g x (gd_n g))) else g 117 16) → ∀ (j i : Nat) (q mm : gw_Mem) (y6 : Option gw_SV), i + j = n → gc_Q q mm b → gc_fr b m mm → gd_wf g q → q 117 16 = g 117 16 → q 131 x < 0 → q 130 x ≤ 0 → gd_lst q x (gd_n g) = gd_lst g x (gd_n g) → gd_fs q x t j = gd_fs g x t n →
      gw_G M_X10_follow 11 (fun r m' => r = none ∧ gc_Q (gd_fs g x t n) m' b ∧ gc_fr b m m') Γ 72 [some (gR b), some (gI (x : Int)), some (gI t), some (gI (g 123 x)), some (gI z), some (gI (i : Int)), y6] [] mm := by
    intro z hz j
    induction j with
    | zero =>
      intro i q mm y6 hi hQq hf hw h16 h131 h130 hlst hgs
      apply r_X10_follow_72 b hb _ _ _ _ _ _ _ (by decide)
      have q6 : q 117 6 = g 117 6 := hw.2 6 (by omega)
      have e8 : mm (b + 8) (x : Int) = g 124 x := by rw [(hQq.2.2.1.2.2.2.1 x (by omega)).2.1, hw.1 124 (by omega) (by omega)]
      rw [e8]
      refine ⟨hin, fun _ => ⟨rfl, ?_, hf⟩, fun w => absurd (by omega) w⟩
      rw [← hgs]; exact hQq
    | succ j ih =>
      intro i q mm y6 hi hQq hf hw h16 h131 h130 hlst hgs
      apply r_X10_follow_72 b hb _ _ _ _ _ _ _ (by decide)
      have q6 : q 117 6 = g 117 6 := hw.2 6 (by omega)
      have qn : gd_n q = gd_n g := gd_wf_n hw
      have q123 : q 123 = g 123 := hw.1 123 (by omega) (by omega)
      have q0 : q 117 0 = g 117 0 := hw.2 0 (by omega)
      have hxq : 0 ≤ (x : Int) ∧ (x : Int) < q 117 6 := by omega
      have e8 : mm (b + 8) (x : Int) = g 124 x := by rw [(hQq.2.2.1.2.2.2.1 x (by omega)).2.1, hw.1 124 (by omega) (by omega)]
      have roq := gc_ro hQq.2.2.2.1 hxq
      have hVq := (hQq.2.1.2.1 x hxq).1
      have hend := hQq.1.1
      have hgq := hQq.2.1.1
      rw [e8, roq.1]
      rw [gd_fs] at hgs
      have stop : gd_fs g x t n = q → gw_G M_X10_follow 11 (fun r m' => r = none ∧ gc_Q (gd_fs g x t n) m' b ∧ gc_fr b m m') Γ 72 [] [] mm → True := fun _ _ => trivial
      have fin : gd_fs g x t n = q → (none : Option gw_SV) = none ∧ gc_Q (gd_fs g x t n) mm b ∧ gc_fr b m mm := fun e => ⟨rfl, by rw [e]; exact hQq, hf⟩
      have hzi : z ≤ q 129 x ↔ q 117 16 ≤ q 129 x ∨ (q 123 x = 3 ∧ gd_lst q x (gd_n q) ≤ q 129 x) := by
        rw [hz, q123, qn, hlst, h16]
        split
        · rename_i h3
          constructor
          · intro w
            by_cases w1 : g 117 16 ≤ q 129 x
            · exact Or.inl w1
            · exact Or.inr ⟨h3, by omega⟩
          · rintro (w | w)
            · omega
            · omega
        · rename_i h3
          constructor
          · exact fun w => Or.inl w
          · rintro (w | w)
            · exact w
            · exact absurd w.1 h3
      refine ⟨hin, fun w => absurd w (by omega), fun _ => ⟨hin, fun h1 => fin ?_, fun h1 => ?_⟩⟩
      · rcases hzi.mp h1 with w | w
        · rw [if_pos w] at hgs; exact hgs.symm
        · by_cases w0 : q 117 16 ≤ q 129 x
          · rw [if_pos w0] at hgs; exact hgs.symm
          · rw [if_neg w0] at hgs
            by_cases w2 : gd_rd q (q 129 x) t = 0
            · rw [if_pos w2, if_pos w] at hgs; exact hgs.symm
            · rw [if_neg w2] at hgs; exact hgs.symm
      · have hn1 : ¬ q 117 16 ≤ q 129 x := fun w => h1 (hzi.mpr (Or.inl w))
        have hn2 : ¬ (q 123 x = 3 ∧ gd_lst q x (gd_n q) ≤ q 129 x) := fun w => h1 (hzi.mpr (Or.inr w))
        rw [if_neg hn1] at hgs
        refine gw_CI.eq (sp_X4_isRed b hb q mm hQq.1 hQq.2.2.1 (q 129 x) t (by omega)) rfl ⟨fun h3 => ?_, fun h3 => ?_⟩
        · rw [if_pos h3, if_neg hn2] at hgs
          refine gw_CI.eq (sp_X10_losesItsWay b hb q mm x hxq hQq) rfl ⟨fun h4 => ⟨hin, ?_⟩, fun h4 => ⟨hin, rfl, ?_, ?_⟩⟩
          · rw [if_pos h4] at hgs
            have ew : gw_w (q 129 x + 1) = q 129 x + 1 := gw_w_id (by omega)
            rw [ew]
            have hu : gc_Q (gd_up1 q x) (gw_up mm (b + 12) x (q 129 x + 1)) b := by
              have u := gc_Q_r hQq (o := 129) (by omega) (by omega) x (q 129 x + 1) (gd_V_129 hQq.2.1 x _ (by omega) h130)
              unfold gd_up1
              rw [ew]
              exact u
            have hfu : gc_fr b m (gw_up mm (b + 12) x (q 129 x + 1)) := gc_fr_up hf (by omega) _ _
            have hwu : gd_wf g (gd_up1 q x) := gd_wf_up hw (by omega) _ _
            have u129 : gd_up1 q x 129 x = q 129 x + 1 := by unfold gd_up1; rw [gw_up_at, if_pos rfl, ew]
            have une : ∀ o : Nat, o ≠ 129 → gd_up1 q x o = q o := fun o ho => gw_up_ne ho
            have ul : gd_lst (gd_up1 q x) x (gd_n g) = gd_lst g x (gd_n g) := by
              unfold gd_up1; rw [gd_lst_up]; exact hlst
            generalize hmu : gw_up mm (b + 12) x (q 129 x + 1) = mu at hu hfu ⊢
            generalize gd_up1 q x = u at *
            have go : gd_wd u x < 0 → gw_G M_X10_follow 11 (fun r m' => r = none ∧ gc_Q (gd_fs g x t n) m' b ∧ gc_fr b m m') Γ 191 [some (gR b), some (gI (x : Int)), some (gI t), some (gI (g 123 x)), some (gI z), some (gI (i : Int)), some (gI (q 129 x))] [] mu := by
              intro h5
              rw [if_pos h5] at hgs
              apply r_X10_follow_191 b hb _ _ _ _ _ _ _ (by decide)
              rw [gw_w1 (by omega)]
              exact ih (i + 1) u mu _ (by omega) hu hfu hwu (by rw [une 117 (by omega)]; exact h16) (by rw [une 131 (by omega)]; exact h131) (by rw [une 130 (by omega)]; exact h130) ul hgs
            have hwl := gd_wl_rng hu.1 (k := 2) (by omega) (q 129 x + 1)
            have hmw : mu (b + 4) (q 129 x + 1) = gd_wl u 2 (q 129 x + 1) := hu.2.2.1.2.1 2 (by omega) _ (by omega)
            have hin2 : gw_in (q 129 x + 1) 100 := gw_inm (by omega) (by omega)
            rw [hmw]
            refine ⟨fun h5 => ⟨hin2, fun h6 => go ?_, fun h6 => ⟨hin2, hin, rfl, ?_, gc_fr_up hfu (by omega) _ _⟩⟩, fun h5 => go ?_⟩
            · unfold gd_wd
              rw [une 123 (by omega), q123, if_pos h5, u129, une 117 (by omega)]
              have hno : ¬ (q 129 x + 1 < u 117 0 ∧ 0 ≤ gd_mk u 2 (q 129 x + 1)) := fun w => by have := hwl.2.2.mpr w; omega
              rw [une 117 (by omega)] at hno
              split
              · omega
              · exact Int.not_le.mp (fun w => hno ⟨by omega, w⟩)
            · have hc := hwl.2.2.mp (by omega)
              have ewd : gd_wd u x = gd_mk u 2 (q 129 x + 1) := by
                unfold gd_wd
                rw [une 123 (by omega), q123, if_pos h5, u129, if_neg (by omega)]
              rw [ewd, if_neg (by omega)] at hgs
              rw [← hgs]
              have ewl : gd_wl u 2 (q 129 x + 1) = u 120 (16 + gd_mk u 2 (q 129 x + 1)) := by rw [gd_wl, if_pos hc]; congr 1
              rw [ewl]
              exact gc_Q_r hu (o := 130) (by omega) (by omega) x _ (gd_V_130 hu.2.1 x _ (Or.inl ⟨by rw [une 123 (by omega), q123]; exact h5, by rw [u129]; exact hc.1⟩))
            · unfold gd_wd
              rw [une 123 (by omega), q123, if_neg h5]
              omega
          · rw [if_neg h4] at hgs
            rw [← hgs]
            have hl := gc_Q_lost hQq (x := x) (by omega) h131 (q 129 x) (by omega)
            have e8' : (gw_up mm (b + 17) (x : Int) (q 129 x)) b 8 = mm b 8 := by rw [gw_up_ne (by omega)]
            have har := gd_alive_rng q (gd_n q)
            have hnq := gd_n_cast hQq.1
            have h8q := hQq.2.2.2.2.2.1
            rw [e8', gw_w_id (x := mm b 8 + 1) (by omega)]
            exact hl
          · exact gc_fr_uf (gc_fr_up hf (by omega) _ _) (Or.inr rfl) _
        · rw [if_neg h3] at hgs
          exact fin hgs.symm
  apply r_X10_follow_0 b hb _ _ _ (by decide)
  rw [ro.2.1, hk.1]
  have hleft := (hV.2.1 x hx2).2
  refine ⟨hin, fun h1 => ⟨hin, ?_⟩, fun h1 => ⟨hin, hin, rfl, ?_, gc_fr_up (gc_fr_rfl b m) (by omega) _ _⟩⟩
  · have hn1 : ¬ (g 123 (x : Int) = 1 ∧ 0 < g 130 (x : Int)) := fun w => by omega
    have st : ¬ (g 123 (x : Int) = 2 ∧ t.tmod 2 = 1) → gw_G M_X10_follow 11 (fun r m' => r = none ∧ gc_Q (gd_go g x t) m' b ∧ gc_fr b m m') Γ 43 [some (gR b), some (gI (x : Int)), some (gI t), some (gI (g 123 x)), none, none, none] [] m := by
      intro h2
      rw [gd_go, if_neg hn1, if_neg h2, en]
      apply r_X10_follow_43 b hb _ _ _ _ _ _ _ (by decide)
      rw [hH.1]
      refine ⟨fun h3 => gw_CI.eq (sp_X10_lastBeside b hb g m x hQ) rfl ?_, fun h3 => ?_⟩
      · apply r_X10_follow_67 b hb _ _ _ _ _ _ _ _ (by decide)
        exact loop _ (by rw [if_pos h3]) n 0 g m none (by omega) hQ (gc_fr_rfl b m) (gd_wf_rfl g) rfl ha h1 rfl rfl
      · apply r_X10_follow_67 b hb _ _ _ _ _ _ _ _ (by decide)
        exact loop _ (by rw [if_neg h3]) n 0 g m none (by omega) hQ (gc_fr_rfl b m) (gd_wf_rfl g) rfl ha h1 rfl rfl
    refine ⟨fun h2 => ⟨fun h3 => ⟨rfl, ?_, gc_fr_rfl b m⟩, fun h3 => st (fun w => h3 w.2)⟩, fun h2 => st (fun w => h2 w.1)⟩
    rw [gd_go, if_neg hn1, if_pos (And.intro h2 h3)]
    exact hQ
  · rw [gd_go, if_pos (And.intro (show g 123 (x : Int) = 1 by omega) (show 0 < g 130 (x : Int) by omega))]
    have he : g 123 (x : Int) = 1 ∧ g 129 (x : Int) < g 117 0 := by omega
    exact gc_Q_r hQ (o := 130) (by omega) (by omega) x _ (gd_V_130 hV x _ (Or.inl he))
