/-! the walk of the reference: minutes, and what is told of them -/
def gd_br (q : gw_Mem) (i t : Int) : gw_Mem := gw_up (gw_up q 133 i (gw_w (q 133 i + (if q 129 i = q 117 16 then (if q 117 0 ≤ q 117 16 then 0 else 1) else 0)))) 134 i (if q 129 i = q 117 0 then (if 0 ≤ q 134 i then q 134 i else t) else q 134 i)
def gd_bs (m : gw_Mem) (t : Int) : Nat → Int × gw_Mem
  | 0 => (1000, m)
  | i + 1 => if gd_lost (gd_bs m t i).2 i = 0 then (if (gd_bs m t i).1 ≤ (gd_bs m t i).2 129 i then (gd_bs m t i).1 else (gd_bs m t i).2 129 i, gd_br (gd_bs m t i).2 i t) else gd_bs m t i
def gd_out (q : gw_Mem) (l : Int) : Int := if l = 1000 then -4 else gw_w (q 117 16 - l)
def gd_b2 (q : gw_Mem) (l : Int) : gw_Mem := gw_up q 117 30 (if gd_out q l ≤ q 117 30 then q 117 30 else gd_out q l)
def gd_b3 (q : gw_Mem) : gw_Mem := gw_up q 117 21 (if gd_near q (gd_n q) = gd_alive q (gd_n q) then gw_w (q 117 21 + 1) else 0)
def gd_fm (q : gw_Mem) (t o : Int) : gw_Mem := gw_up (gw_up q 135 (12 * t) (q 117 16)) 135 (12 * t + 1) o
def gd_fr (q : gw_Mem) (t : Int) : Nat → gw_Mem
  | 0 => q
  | i + 1 => gw_up (gd_fr q t i) 135 (12 * t + 2 + i) (gd_fr q t i 129 i)
def gd_bm (m : gw_Mem) (t : Int) : gw_Mem := gd_b3 (gd_b2 (gd_bs m t (gd_n m)).2 (gd_bs m t (gd_n m)).1)
def gd_bo (m : gw_Mem) (t : Int) : Int := gd_out (gd_bs m t (gd_n m)).2 (gd_bs m t (gd_n m)).1
def gd_bh (m : gw_Mem) (t : Int) : gw_Mem := gd_fr (gd_fm (gd_bm m t) t (gd_bo m t)) t (gd_n m)
theorem gd_br_wf (m : gw_Mem) (i t : Int) : gd_wf m (gd_br m i t) := gd_wf_up (gd_wf_up (gd_wf_rfl m) (by omega) _ _) (by omega) _ _
theorem gd_bs_wf (m : gw_Mem) (t : Int) (n : Nat) : gd_wf m (gd_bs m t n).2 := by
  induction n with
  | zero => exact gd_wf_rfl m
  | succ n ih =>
    rw [gd_bs]
    split
    · exact gd_wf_tr ih (gd_br_wf _ _ _)
    · exact ih
theorem gd_bm_wf (m : gw_Mem) (t : Int) : gd_wf m (gd_bm m t) := gd_wf_tr (gd_bs_wf m t _) (gd_wf_uf (gd_wf_uf (gd_wf_rfl _) (by omega) _) (by omega) _)
theorem gd_fm_wf (m : gw_Mem) (t o : Int) : gd_wf m (gd_fm m t o) := gd_wf_up (gd_wf_up (gd_wf_rfl m) (by omega) _ _) (by omega) _ _
theorem gd_fr_wf (m : gw_Mem) (t : Int) (n : Nat) : gd_wf m (gd_fr m t n) := by
  induction n with
  | zero => exact gd_wf_rfl m
  | succ n ih => exact gd_wf_up ih (by omega) _ _
theorem gd_bh_wf (m : gw_Mem) (t : Int) : gd_wf m (gd_bh m t) := gd_wf_tr (gd_bm_wf m t) (gd_wf_tr (gd_fm_wf _ _ _) (gd_fr_wf _ _ _))
theorem sp_X12_behind (t : Nat) (m : gw_Mem) (ht : t < 300) (hn : 0 ≤ m 117 6 ∧ m 117 6 ≤ 10) : gw_SpecV M_X12_behind 13 [gR 117, gI (t : Int)] m (fun m' => m' = gd_bh m t) := by
  refine gw_intro pl_X12_behind rfl (fun Γ => ?_)
  apply r_X12_behind_0
  obtain ⟨n, hN⟩ := gw_nat hn.1
  have e : gd_n m = n := by unfold gd_n; omega
  have key : ∀ (j i : Nat) (y4 : Option gw_SV), i + j = n → gw_G M_X12_behind 13 (fun r m' => r = none ∧ m' = gd_bh m t) Γ 6 [some (gR 117), some (gI (t : Int)), some (gI (gd_bs m t i).1), some (gI (i : Int)), y4] [] (gd_bs m t i).2 := by
    intro j
    induction j with
    | zero =>
      intro i y4 hi
      have ei : i = n := by omega
      subst ei
      apply r_X12_behind_6
      have hw := gd_bs_wf m t i
      have e6 : (gd_bs m t i).2 117 6 = m 117 6 := hw.2 6 (by omega)
      rw [e6]
      refine ⟨fun _ => ?_, fun h => absurd (by omega) h⟩
      have hb2 : gd_wf m (gd_b2 (gd_bs m t i).2 (gd_bs m t i).1) := gd_wf_tr hw (gd_wf_uf (gd_wf_rfl _) (by omega) _)
      have hbn : (gd_b2 (gd_bs m t i).2 (gd_bs m t i).1) 117 6 = m 117 6 := hb2.2 6 (by omega)
      refine gw_CI.eq (sp_X12_nearOf 0 (gd_b2 (gd_bs m t i).2 (gd_bs m t i).1) (by omega)) rfl (gw_CI.eq (sp_X12_nearOf 1 _ (by omega)) rfl ?_)
      have e0 : ∀ x y : Int, (if (1 : Int) = 0 then x else y) = y := fun x y => if_neg (by omega)
      have e1 : ∀ x y : Int, (if (0 : Int) = 0 then x else y) = x := fun x y => if_pos rfl
      rw [e0, e1, gw_w_id (x := 12 * (t : Int)) (by omega), gw_w_id (x := 12 * (t : Int) + 1) (by omega)]
      refine ⟨gw_inm (by omega) (by omega), gw_inm (by omega) (by omega), ?_⟩
      have hq : gd_wf m (gd_fm (gd_bm m t) t (gd_bo m t)) := gd_wf_tr (gd_bm_wf m t) (gd_fm_wf _ _ _)
      have k2 : ∀ (j2 i2 : Nat), i2 + j2 = i → gw_G M_X12_behind 13 (fun r m' => r = none ∧ m' = gd_bh m t) Γ 219 [some (gR 117), some (gI (t : Int)), some (gI (gd_bs m t i).1), some (gI (gd_bo m t)), some (gI (i2 : Int))] [] (gd_fr (gd_fm (gd_bm m t) t (gd_bo m t)) t i2) := by
        intro j2
        induction j2 with
        | zero =>
          intro i2 h2
          apply r_X12_behind_219
          have e7 := (gd_wf_tr hq (gd_fr_wf _ t i2)).2 6 (by omega)
          rw [e7]
          refine ⟨fun _ => ⟨rfl, ?_⟩, fun h => absurd (by omega) h⟩
          rw [gd_bh, e, ← h2, Nat.add_zero]
        | succ j2 ih2 =>
          intro i2 h2
          apply r_X12_behind_219
          have e7 := (gd_wf_tr hq (gd_fr_wf _ t i2)).2 6 (by omega)
          rw [e7]
          have e8 : gw_w (gw_w (gw_w (12 * (t : Int)) + 2) + (i2 : Int)) = 12 * t + 2 + i2 := by
            rw [gw_w_id (x := 12 * (t : Int)) (by omega), gw_w_id (x := 12 * (t : Int) + 2) (by omega), gw_w_id (by omega)]
          rw [e8]
          refine ⟨fun h => absurd h (by omega), fun _ => ⟨gw_inm (by omega) (by omega), gw_inm (by omega) (by omega), ?_⟩⟩
          rw [gw_w1 (by omega)]
          exact ih2 (i2 + 1) (by omega)
      have h3 := k2 i 0 (by omega)
      have hbo : gd_bo m t = (if (gd_bs m t i).1 = 1000 then -4 else gw_w ((gd_bs m t i).2 117 16 - (gd_bs m t i).1)) := by rw [gd_bo, e]; rfl
      have hbm : gd_bm m t = gd_b3 (gd_b2 (gd_bs m t i).2 (gd_bs m t i).1) := by rw [gd_bm, e]
      rw [gd_fr, hbm] at h3
      rw [← hbo]
      have hfin : gd_fm (gd_b3 (gd_b2 (gd_bs m t i).2 (gd_bs m t i).1)) t (gd_bo m t) = gw_up (gw_up (gw_up (gd_b2 (gd_bs m t i).2 (gd_bs m t i).1) 117 21 (if gd_near (gd_b2 (gd_bs m t i).2 (gd_bs m t i).1) (gd_n (gd_b2 (gd_bs m t i).2 (gd_bs m t i).1)) = gd_alive (gd_b2 (gd_bs m t i).2 (gd_bs m t i).1) (gd_n (gd_b2 (gd_bs m t i).2 (gd_bs m t i).1)) then gw_w ((gd_b2 (gd_bs m t i).2 (gd_bs m t i).1) 117 21 + 1) else 0)) 135 (12 * t) ((gw_up (gd_b2 (gd_bs m t i).2 (gd_bs m t i).1) 117 21 (if gd_near (gd_b2 (gd_bs m t i).2 (gd_bs m t i).1) (gd_n (gd_b2 (gd_bs m t i).2 (gd_bs m t i).1)) = gd_alive (gd_b2 (gd_bs m t i).2 (gd_bs m t i).1) (gd_n (gd_b2 (gd_bs m t i).2 (gd_bs m t i).1)) then gw_w ((gd_b2 (gd_bs m t i).2 (gd_bs m t i).1) 117 21 + 1) else 0)) 117 16)) 135 (12 * t + 1) (gd_bo m t) := rfl
      rw [hfin] at h3
      exact h3
    | succ j ih =>
      intro i y4 hi
      apply r_X12_behind_6
      have hw := gd_bs_wf m t i
      have e6 : (gd_bs m t i).2 117 6 = m 117 6 := hw.2 6 (by omega)
      rw [e6]
      have hx : gw_in (i : Int) 10 := gw_inm (by omega) (by omega)
      refine ⟨fun h => absurd h (by omega), fun _ => gw_CI.eq (sp_X12_isLost i _ hx) rfl ⟨fun h => ?_, fun h => ?_⟩⟩
      · have h1 := ih (i + 1) y4 (by omega)
        rw [gd_bs, if_pos h] at h1
        refine ⟨hx, fun _ => hx, hx, hx, hx, hx, fun _ => ⟨hx, fun _ => hx⟩, fun _ => hx, hx, ?_⟩
        apply r_X12_behind_119
        rw [gw_w1 (by omega)]
        simp (disch := omega) only [gw_up_ne]
        exact h1
      · have h1 := ih (i + 1) y4 (by omega)
        rw [gd_bs, if_neg h] at h1
        apply r_X12_behind_119
        rw [gw_w1 (by omega)]
        exact h1
  exact key n 0 _ (by omega)
def gd_st0 (m : gw_Mem) : gw_Mem := gw_up (gw_up (gw_up (gw_up (gw_up (gw_up (gw_up (gw_up (gw_up m 117 16 0) 117 17 0) 117 18 0) 117 19 0) 117 20 0) 117 21 0) 117 22 0) 117 29 (-4)) 117 30 (-4)
def gd_in1 (m : gw_Mem) (i : Int) : gw_Mem := gw_up (gw_up (gw_up (gw_up (gw_up (gw_up m 129 i 0) 130 i 0) 131 i (-4)) 132 i 0) 133 i 0) 134 i (-4)
def gd_ini (m : gw_Mem) : Nat → gw_Mem
  | 0 => m
  | i + 1 => gd_in1 (gd_ini m i) i
def gd_pp (m : gw_Mem) (t : Int) : Nat → gw_Mem
  | 0 => m
  | i + 1 => if gd_lost (gd_pp m t i) i = 0 then gd_go (gd_pp m t i) i t else gd_pp m t i
def gd_min (m : gw_Mem) (t : Int) : gw_Mem := gd_bh (gd_pp (gd_gg m t) t (gd_n m)) t
def gd_run (m : gw_Mem) : Nat → gw_Mem
  | 0 => m
  | k + 1 => gd_min (gd_run m k) k
def gd_beg (m : gw_Mem) : gw_Mem := gd_ini (gd_st0 m) (gd_n m)
def gd_walks (m : gw_Mem) : gw_Mem := gd_run (gd_beg m) 300
theorem gd_st0_wf (m : gw_Mem) : gd_wf m (gd_st0 m) := by
  unfold gd_st0
  repeat (first | exact gd_wf_rfl m | refine gd_wf_uf ?_ (by omega) _)
theorem gd_in1_wf (m : gw_Mem) (i : Int) : gd_wf m (gd_in1 m i) := by
  unfold gd_in1
  repeat (first | exact gd_wf_rfl m | refine gd_wf_up ?_ (by omega) _ _)
theorem gd_ini_wf (m : gw_Mem) (n : Nat) : gd_wf m (gd_ini m n) := by
  induction n with
  | zero => exact gd_wf_rfl m
  | succ n ih => exact gd_wf_tr ih (gd_in1_wf _ _)
theorem gd_pp_wf (m : gw_Mem) (t : Int) (n : Nat) : gd_wf m (gd_pp m t n) := by
  induction n with
  | zero => exact gd_wf_rfl m
  | succ n ih =>
    rw [gd_pp]
    split
    · exact gd_wf_tr ih (gd_go_wf _ _ _)
    · exact ih
theorem gd_min_wf (m : gw_Mem) (t : Int) : gd_wf m (gd_min m t) := gd_wf_tr (gd_gg_wf m t) (gd_wf_tr (gd_pp_wf _ t _) (gd_bh_wf _ t))
theorem gd_run_wf (m : gw_Mem) (n : Nat) : gd_wf m (gd_run m n) := by
  induction n with
  | zero => exact gd_wf_rfl m
  | succ n ih => exact gd_wf_tr ih (gd_min_wf _ _)
theorem gd_beg_wf (m : gw_Mem) : gd_wf m (gd_beg m) := gd_wf_tr (gd_st0_wf m) (gd_ini_wf _ _)
theorem gd_walks_wf (m : gw_Mem) : gd_wf m (gd_walks m) := gd_wf_tr (gd_beg_wf m) (gd_run_wf _ _)
theorem sp_X12_walks (m : gw_Mem) (hJ : gd_JP m) : gw_SpecV M_X12_walks 15 [gR 117] m (fun m' => m' = gd_walks m) := by
  refine gw_intro pl_X12_walks rfl (fun Γ => ?_)
  apply r_X12_walks_0
  have hn := hJ.2.2.2.2.1
  obtain ⟨n, hN⟩ := gw_nat hn.1
  have e : gd_n m = n := by unfold gd_n; omega
  have hwb := gd_beg_wf m
  have day : ∀ (j k : Nat) (y : Option gw_SV), k + j = 300 → gw_G M_X12_walks 15 (fun r m' => r = none ∧ m' = gd_walks m) Γ 109 [some (gR 117), some (gI (k : Int)), y] [] (gd_run (gd_beg m) k) := by
    intro j
    induction j with
    | zero =>
      intro k y hk
      apply r_X12_walks_109
      refine ⟨fun _ => ⟨rfl, ?_⟩, fun h => absurd (by omega) h⟩
      rw [gd_walks, ← hk, Nat.add_zero]
    | succ j ih =>
      intro k y hk
      apply r_X12_walks_109
      refine ⟨fun h => absurd h (by omega), fun _ => ?_⟩
      have hw := gd_wf_tr hwb (gd_run_wf (gd_beg m) k)
      generalize hq : gd_run (gd_beg m) k = q at hw ⊢
      have hJq := gd_wf_JP hw hJ
      refine gw_CV.eq (sp_X12_guideGoes k q hJq) rfl ?_
      have hg := gd_wf_tr hw (gd_gg_wf q k)
      have ppl : ∀ (j2 i2 : Nat), i2 + j2 = n → gw_G M_X12_walks 15 (fun r m' => r = none ∧ m' = gd_walks m) Γ 123 [some (gR 117), some (gI (k : Int)), some (gI (i2 : Int))] [] (gd_pp (gd_gg q k) k i2) := by
        intro j2
        induction j2 with
        | zero =>
          intro i2 h2
          apply r_X12_walks_123
          have hp := gd_wf_tr hg (gd_pp_wf (gd_gg q k) k i2)
          have e7 := hp.2 6 (by omega)
          rw [e7]
          refine ⟨fun _ => gw_CV.eq (sp_X12_behind k _ (by omega) (by omega)) rfl ?_, fun h => absurd (by omega) h⟩
          rw [gw_w1 (by omega)]
          have h3 := ih (k + 1) (some (gI (i2 : Int))) (by omega)
          rw [gd_run, hq, gd_min, gd_wf_n hw, e, ← h2, Nat.add_zero] at h3
          exact h3
        | succ j2 ih2 =>
          intro i2 h2
          apply r_X12_walks_123
          have hp := gd_wf_tr hg (gd_pp_wf (gd_gg q k) k i2)
          have e7 := hp.2 6 (by omega)
          rw [e7]
          have hx : gw_in (i2 : Int) 10 := gw_inm (by omega) (by omega)
          have h3 := ih2 (i2 + 1) (by omega)
          rw [gd_pp] at h3
          refine ⟨fun h => absurd h (by omega), fun _ => gw_CI.eq (sp_X12_isLost i2 _ hx) rfl ⟨fun h => ?_, fun h => ?_⟩⟩
          · rw [if_pos h] at h3
            refine gw_CV.eq (sp_X12_goes i2 k _ (by rw [e7]; omega) (gd_wf_JP hp hJ)) rfl ?_
            apply r_X12_walks_145
            rw [gw_w1 (by omega)]
            exact h3
          · rw [if_neg h] at h3
            apply r_X12_walks_145
            rw [gw_w1 (by omega)]
            exact h3
      exact ppl n 0 (by omega)
  have key : ∀ (j i : Nat), i + j = n → gw_G M_X12_walks 15 (fun r m' => r = none ∧ m' = gd_walks m) Γ 49 [some (gR 117), some (gI (i : Int)), none] [] (gd_ini (gd_st0 m) i) := by
    intro j
    induction j with
    | zero =>
      intro i hi
      apply r_X12_walks_49
      have e7 := (gd_wf_tr (gd_st0_wf m) (gd_ini_wf (gd_st0 m) i)).2 6 (by omega)
      rw [e7]
      refine ⟨fun _ => ?_, fun h => absurd (by omega) h⟩
      have h3 := day 300 0 none (by omega)
      rw [gd_run, gd_beg, e, ← hi, Nat.add_zero] at h3
      exact h3
    | succ j ih =>
      intro i hi
      apply r_X12_walks_49
      have e7 := (gd_wf_tr (gd_st0_wf m) (gd_ini_wf (gd_st0 m) i)).2 6 (by omega)
      rw [e7]
      have hx : gw_in (i : Int) 10 := gw_inm (by omega) (by omega)
      refine ⟨fun h => absurd h (by omega), fun _ => ⟨hx, hx, hx, hx, hx, hx, ?_⟩⟩
      rw [gw_w1 (by omega)]
      exact ih (i + 1) (by omega)
  exact key n 0 (by omega)
