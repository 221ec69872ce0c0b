/-! the walk of the reference -/
def gd_n (m : gw_Mem) : Nat := (m 117 6).toNat
theorem gw_sum_01 {f : Int → Int} (h : ∀ i, 0 ≤ f i ∧ f i ≤ 1) (n : Nat) : 0 ≤ gw_sum f n ∧ gw_sum f n ≤ n := by
  induction n with
  | zero => simp [gw_sum]
  | succ n ih => have a := h n; rw [gw_sum]; omega
def gd_lost (m : gw_Mem) (i : Int) : Int := if m 131 i < 0 then 0 else 1
def gd_nr (m : gw_Mem) (x t : Int) : Int := if m 131 x < 0 then (if gw_w (t * m 122 4) < gw_w (m 117 16 - m 129 x) then 0 else 1) else 0
theorem gd_nr01 (m : gw_Mem) (x t : Int) : gd_nr m x t = 0 ∨ gd_nr m x t = 1 := by
  unfold gd_nr
  split
  · split <;> simp
  · simp
theorem gd_nrb (m : gw_Mem) (x t : Int) : (if gd_nr m x t = 0 then (0 : Int) else 1) = gd_nr m x t := by
  have h := gd_nr01 m x t
  split <;> omega
theorem gd_lostz (m : gw_Mem) (x : Int) : gd_lost m x = 0 ↔ m 131 x < 0 := by
  unfold gd_lost
  split <;> omega
def gd_near (m : gw_Mem) : Nat → Int := gw_sum (fun i => gd_nr m i 1)
def gd_alive (m : gw_Mem) : Nat → Int := gw_sum (fun i => if gd_lost m i = 0 then 1 else 0)
theorem gd_near_rng (m : gw_Mem) (n : Nat) : 0 ≤ gd_near m n ∧ gd_near m n ≤ n := gw_sum_01 (fun i => by have h := gd_nr01 m i 1; omega) n
theorem gd_alive_rng (m : gw_Mem) (n : Nat) : 0 ≤ gd_alive m n ∧ gd_alive m n ≤ n := gw_sum_01 (fun i => by split <;> omega) n
theorem sp_X12_isLost (x : Int) (m : gw_Mem) (hx : gw_in x 10) : gw_SpecI M_X12_isLost 10 [gR 117, gI x] m (fun r m' => r = gd_lost m x ∧ m' = m) := by
  refine gw_intro pl_X12_isLost rfl (fun Γ => ?_)
  apply r_X12_isLost_0
  exact ⟨hx, gw_rE rfl rfl⟩
theorem sp_X12_isNear (x t : Int) (m : gw_Mem) (hx : gw_in x 10) : gw_SpecI M_X12_isNear 11 [gR 117, gI x, gI t] m (fun r m' => r = gd_nr m x t ∧ m' = m) := by
  refine gw_intro pl_X12_isNear rfl (fun Γ => ?_)
  apply r_X12_isNear_0
  refine gw_CI.eq (sp_X12_isLost x m hx) rfl ⟨fun _ => hx, gw_rE ?_ rfl⟩
  simp only [gd_lostz, gd_nr]
theorem sp_X12_nearOf (x : Int) (m : gw_Mem) (hn : 0 ≤ m 117 6 ∧ m 117 6 ≤ 10) : gw_SpecI M_X12_nearOf 12 [gR 117, gI x] m (fun r m' => r = (if x = 0 then gd_near m (gd_n m) else gd_alive m (gd_n m)) ∧ m' = m) := by
  refine gw_intro pl_X12_nearOf rfl (fun Γ => ?_)
  apply r_X12_nearOf_0
  obtain ⟨n, hN⟩ := gw_nat hn.1
  have e : gd_n m = n := by unfold gd_n; omega
  have key : ∀ (j i : Nat), i + j = n → gw_G M_X12_nearOf 12 (fun r m' => ∃ v, r = some (gI v) ∧ v = (if x = 0 then gd_near m (gd_n m) else gd_alive m (gd_n m)) ∧ m' = m) Γ 7 [some (gR 117), some (gI x), some (gI (gd_near m i)), some (gI (gd_alive m i)), some (gI (i : Int))] [] m := by
    intro j
    induction j with
    | zero =>
      intro i hi
      apply r_X12_nearOf_7
      refine ⟨fun _ => gw_rE ?_ rfl, fun h => absurd (by omega) h⟩
      rw [e, ← hi, Nat.add_zero]
    | succ j ih =>
      intro i hi
      apply r_X12_nearOf_7
      refine ⟨fun h => absurd h (by omega), fun h => ?_⟩
      have hx : gw_in (i : Int) 10 := gw_inm (by omega) (by omega)
      refine gw_CI.eq (sp_X12_isLost i m hx) rfl (gw_CI.eq (sp_X12_isNear i 1 m hx) rfl ?_)
      have a := gd_near_rng m (i + 1)
      have b := gd_alive_rng m (i + 1)
      have h1 := ih (i + 1) (by omega)
      rw [gd_nrb, gw_w1 (by omega)]
      rw [show gw_w (gd_near m i + gd_nr m i 1) = gd_near m (i + 1) from gw_w_id (by have z : gd_near m (i + 1) = gd_near m i + gd_nr m i 1 := rfl; omega)]
      rw [show gw_w (gd_alive m i + (if gd_lost m i = 0 then 1 else 0)) = gd_alive m (i + 1) from gw_w_id (by have z : gd_alive m (i + 1) = gd_alive m i + (if gd_lost m i = 0 then 1 else 0) := rfl; omega)]
      exact h1
  exact key n 0 (by omega)
def gd_mk (m : gw_Mem) (k x : Int) : Int := gd_ma m k x (m 118 k).toNat
def gd_sq (m : gw_Mem) : Int := if m 117 16 < m 117 0 then gd_mk m 0 (m 117 16) else -4
def gd_sh (m : gw_Mem) : Int := if gd_sq m < 0 then -4 else if gw_and (gw_shr (m 117 22) (gd_sq m)) 1 = 0 then gd_sq m else -4
theorem gd_mk_rng {m : gw_Mem} (hJ : gd_JP m) {k : Int} (hk : 0 ≤ k ∧ k ≤ 3) (x : Int) : -4 ≤ gd_mk m k x ∧ gd_mk m k x < m 118 k ∧ gd_mk m k x < 8 ∧ (0 ≤ gd_mk m k x → gd_lo k ≤ m 120 (8 * k + gd_mk m k x) ∧ m 120 (8 * k + gd_mk m k x) ≤ gd_hi k) := by
  have hz := hJ.2.1 k hk
  have hr := gd_ma_rng m k x (m 118 k).toNat
  unfold gd_mk
  refine ⟨by omega, by omega, by omega, fun h => ?_⟩
  exact (hJ.2.2.1 k _ hk ⟨h, by omega⟩).2
theorem gd_sh_rng {m : gw_Mem} (hJ : gd_JP m) : -4 ≤ gd_sh m ∧ gd_sh m < 8 := by
  have h := gd_mk_rng hJ (k := 0) (by omega) (m 117 16)
  unfold gd_sh gd_sq
  repeat' split
  all_goals omega
theorem sp_X12_stopHere (m : gw_Mem) (hJ : gd_JP m) : gw_SpecI M_X12_stopHere 11 [gR 117] m (fun r m' => r = gd_sh m ∧ m' = m) := by
  refine gw_intro pl_X12_stopHere rfl (fun Γ => ?_)
  apply r_X12_stopHere_0
  refine ⟨fun h => ?_, fun h => ?_⟩
  · refine gw_CI.eq (sp_X12_markAt 0 (m 117 16) m (by omega) (hJ.2.1 0 (by omega))) rfl ?_
    apply r_X12_stopHere_25
    refine gw_rE ?_ rfl
    rw [gd_sh, gd_sq, if_pos h]
    rfl
  · apply r_X12_stopHere_25
    refine gw_rE ?_ rfl
    rw [gd_sh, gd_sq, if_neg h]
def gd_rd (m : gw_Mem) (x t : Int) : Int := if gd_mk m 1 x < 0 then 0 else if m 117 0 ≤ x then 0 else if (m 120 (8 + gd_mk m 1 x)).tdiv 2 ≤ t.tmod (m 120 (8 + gd_mk m 1 x)) then 0 else 1
theorem sp_X12_isRed (x t : Int) (m : gw_Mem) (hJ : gd_JP m) : gw_SpecI M_X12_isRed 11 [gR 117, gI x, gI t] m (fun r m' => r = gd_rd m x t ∧ m' = m) := by
  refine gw_intro pl_X12_isRed rfl (fun Γ => ?_)
  apply r_X12_isRed_0
  refine gw_CI.eq (sp_X12_markAt 1 x m (by omega) (hJ.2.1 1 (by omega))) rfl ?_
  have hr := gd_mk_rng hJ (k := 1) (by omega) x
  have e1 : gd_lo 1 = 2 := rfl
  have e2 : gd_hi 1 = 20 := rfl
  have e3 : gd_ma m 1 x (m 118 1).toNat = gd_mk m 1 x := rfl
  rw [e3]
  by_cases h : gd_mk m 1 x < 0
  · refine ⟨fun z => absurd h z, gw_rE ?_ rfl⟩
    rw [gd_rd, if_pos h, if_pos h]
  · have e4 : gw_w (8 + (if 0 ≤ gd_mk m 1 x then gd_mk m 1 x else 0)) = 8 + gd_mk m 1 x := by rw [if_pos (by omega), gw_w_id (by omega)]
    rw [e4]
    have h5 := hr.2.2.2 (by omega)
    rw [show (8 : Int) * 1 = 8 by omega, e1, e2] at h5
    have h6 : gw_w ((m 120 (8 + gd_mk m 1 x)).tdiv 2) = (m 120 (8 + gd_mk m 1 x)).tdiv 2 := by
      rw [Int.tdiv_eq_ediv_of_nonneg (by omega), gw_w_id (by omega)]
    rw [h6]
    exact ⟨fun _ _ => ⟨gw_inm (by omega) (by omega), by omega, gw_inm (by omega) (by omega)⟩, gw_rE rfl rfl⟩
/-- what the walk leaves as it is -/
def gd_wf (m m' : gw_Mem) : Prop := (∀ o : Nat, ¬ (129 ≤ o ∧ o ≤ 135) → o ≠ 117 → m' o = m o) ∧ ∀ j : Int, ¬ (16 ≤ j ∧ j ≤ 30) → m' 117 j = m 117 j
theorem gd_wf_rfl (m : gw_Mem) : gd_wf m m := ⟨fun _ _ _ => rfl, fun _ _ => rfl⟩
theorem gd_wf_tr {m m1 m2 : gw_Mem} (h : gd_wf m m1) (h' : gd_wf m1 m2) : gd_wf m m2 := ⟨fun o a b => (h'.1 o a b).trans (h.1 o a b), fun j a => (h'.2 j a).trans (h.2 j a)⟩
theorem gd_wf_up {m m1 : gw_Mem} (h : gd_wf m m1) {o : Nat} (ho : 129 ≤ o ∧ o ≤ 135) (j v : Int) : gd_wf m (gw_up m1 o j v) := by
  refine ⟨fun q a b => ?_, fun i a => ?_⟩
  · rw [gw_up_ne (by omega)]; exact h.1 q a b
  · rw [gw_up_ne (by omega)]; exact h.2 i a
theorem gd_wf_uf {m m1 : gw_Mem} (h : gd_wf m m1) {j : Int} (hj : 16 ≤ j ∧ j ≤ 30) (v : Int) : gd_wf m (gw_up m1 117 j v) := by
  refine ⟨fun q a b => ?_, fun i a => ?_⟩
  · rw [gw_up_ne b]; exact h.1 q a b
  · rw [gw_up_at, if_neg (by omega)]; exact h.2 i a
theorem gd_wf_JP {m m1 : gw_Mem} (h : gd_wf m m1) (hJ : gd_JP m) : gd_JP m1 :=
  gd_JP_congr hJ (h.2 0 (by omega)) (h.2 6 (by omega)) (h.1 118 (by omega) (by omega)) (h.1 119 (by omega) (by omega)) (h.1 120 (by omega) (by omega)) (h.1 121 (by omega) (by omega)) (h.1 122 (by omega) (by omega)) (h.1 123 (by omega) (by omega)) (h.1 124 (by omega) (by omega)) (h.1 125 (by omega) (by omega)) (h.1 126 (by omega) (by omega))
theorem gd_wf_n {m m1 : gw_Mem} (h : gd_wf m m1) : gd_n m1 = gd_n m := by unfold gd_n; rw [h.2 6 (by omega)]
/-- a minute of speech -/
def gd_spk (m : gw_Mem) : Nat → gw_Mem
  | 0 => m
  | i + 1 => gw_up (gd_spk m i) 132 i (gw_w (gd_spk m i 132 i + gd_nr (gd_spk m i) i (if gd_spk m i 125 i = 1 then 3 else 1)))
theorem gd_spk_wf (m : gw_Mem) (n : Nat) : gd_wf m (gd_spk m n) := by
  induction n with
  | zero => exact gd_wf_rfl m
  | succ n ih => exact gd_wf_up ih (by omega) _ _
def gd_done (m : gw_Mem) (k : Int) : gw_Mem := gw_up m 117 22 (gw_or (m 117 22) (gw_shl 1 k))
def gd_kA (m : gw_Mem) (k : Int) : Int × gw_Mem := if m 117 17 = 0 then (1, m) else if m 120 k ≤ m 117 19 then (if m 122 2 ≤ m 117 21 then (0, gd_done m k) else if m 117 20 < m 122 3 then (1, gw_up m 117 20 (gw_w (m 117 20 + 1))) else (0, gd_done m k)) else (1, gd_spk (gw_up m 117 19 (gw_w (m 117 19 + 1))) (gd_n m))
def gd_wish (m : gw_Mem) : Int := if gd_alive m (gd_n m) ≤ m 122 1 then gd_alive m (gd_n m) else m 122 1
def gd_bg (m : gw_Mem) : Int := if gd_wish m ≤ gd_near m (gd_n m) then 1 else if m 117 18 < m 122 3 then 0 else 1
def gd_bgm (m : gw_Mem) : gw_Mem := gw_up (gw_up m 117 17 (gd_bg m)) 117 18 (gw_w (m 117 18 + (if gd_bg m = 0 then 1 else 0)))
def gd_kp (m : gw_Mem) : Int × gw_Mem := if 0 ≤ gd_sh m then (if m 117 17 = 0 then gd_kA (gd_bgm m) (gd_sh m) else gd_kA m (gd_sh m)) else (0, m)
theorem gd_kA_wf (m : gw_Mem) (k : Int) : gd_wf m (gd_kA m k).2 := by
  unfold gd_kA gd_done
  split
  · exact gd_wf_rfl m
  · split
    · split
      · exact gd_wf_uf (gd_wf_rfl m) (by omega) _
      · split
        · exact gd_wf_uf (gd_wf_rfl m) (by omega) _
        · exact gd_wf_uf (gd_wf_rfl m) (by omega) _
    · exact gd_wf_tr (gd_wf_uf (gd_wf_rfl m) (by omega) _) (gd_spk_wf _ _)
theorem gd_bgm_wf (m : gw_Mem) : gd_wf m (gd_bgm m) := gd_wf_uf (gd_wf_uf (gd_wf_rfl m) (by omega) _) (by omega) _
theorem gd_kp_wf (m : gw_Mem) : gd_wf m (gd_kp m).2 := by
  unfold gd_kp
  split
  · split
    · exact gd_wf_tr (gd_bgm_wf m) (gd_kA_wf _ _)
    · exact gd_kA_wf _ _
  · exact gd_wf_rfl m
theorem sp_X12_isKept (m : gw_Mem) (hJ : gd_JP m) : gw_SpecI M_X12_isKept 13 [gR 117] m (fun r m' => r = (gd_kp m).1 ∧ m' = (gd_kp m).2) := by
  refine gw_intro pl_X12_isKept rfl (fun Γ => ?_)
  have kA : ∀ (mm : gw_Mem) (k : Int) (y2 y3 : Option gw_SV), gd_JP mm → 0 ≤ k → k < 8 → gd_kA mm k = gd_kp m → gw_G M_X12_isKept 13 (fun r m' => ∃ v, r = some (gI v) ∧ v = (gd_kp m).1 ∧ m' = (gd_kp m).2) Γ 97 [some (gR 117), some (gI k), y2, y3] [] mm := by
    intro mm k y2 y3 hJm h0 h8 hk
    apply r_X12_isKept_97
    rw [← hk]
    unfold gd_kA
    refine ⟨fun h => ?_, fun h => ⟨gw_inm h0 (by omega), fun h1 => ⟨fun h2 => ?_, fun h2 => ⟨fun h3 => ?_, fun h3 => ?_⟩⟩, fun h1 => ?_⟩⟩
    · rw [if_pos h]; exact gw_rE rfl rfl
    · rw [if_neg h, if_pos h1, if_pos h2]
      apply r_X12_isKept_210
      exact gw_rE rfl rfl
    · rw [if_neg h, if_pos h1, if_neg h2, if_pos h3]
      exact gw_rE rfl rfl
    · rw [if_neg h, if_pos h1, if_neg h2, if_neg h3]
      apply r_X12_isKept_210
      exact gw_rE rfl rfl
    · rw [if_neg h, if_neg h1]
      generalize hq : gw_up mm 117 19 (gw_w (mm 117 19 + 1)) = q
      have hqw : gd_wf mm q := by rw [← hq]; exact gd_wf_uf (gd_wf_rfl mm) (by omega) _
      have hn := hJm.2.2.2.2.1
      obtain ⟨n, hN⟩ := gw_nat hn.1
      have e : gd_n mm = n := by unfold gd_n; omega
      have key : ∀ (j i : Nat), i + j = n → gw_G M_X12_isKept 13 (fun r m' => ∃ v, r = some (gI v) ∧ v = 1 ∧ m' = gd_spk q (gd_n mm)) Γ 131 [some (gR 117), some (gI k), some (gI (i : Int)), y3] [] (gd_spk q i) := by
        intro j
        induction j with
        | zero =>
          intro i hi
          apply r_X12_isKept_131
          have e6 : gd_spk q i 117 6 = mm 117 6 := (gd_wf_tr hqw (gd_spk_wf q i)).2 6 (by omega)
          rw [e6]
          refine ⟨fun _ => gw_rE rfl ?_, fun h => absurd (by omega) h⟩
          rw [e, ← hi, Nat.add_zero]
        | succ j ih =>
          intro i hi
          apply r_X12_isKept_131
          have e6 : gd_spk q i 117 6 = mm 117 6 := (gd_wf_tr hqw (gd_spk_wf q i)).2 6 (by omega)
          rw [e6]
          have hx : gw_in (i : Int) 10 := gw_inm (by omega) (by omega)
          refine ⟨fun h => absurd h (by omega), fun h => ⟨hx, hx, gw_CI.eq (sp_X12_isNear i _ _ hx) rfl ⟨hx, ?_⟩⟩⟩
          rw [gd_nrb, gw_w1 (by omega)]
          exact ih (i + 1) (by omega)
      exact key n 0 (by omega)
  apply r_X12_isKept_0
  refine gw_CI.eq (sp_X12_stopHere m hJ) rfl ⟨fun h => ⟨fun h1 => ?_, fun h1 => ?_⟩, fun h => ?_⟩
  · have hr := gd_sh_rng hJ
    refine gw_CI.eq (sp_X12_nearOf 1 m hJ.2.2.2.2.1) rfl (gw_CI.eq (sp_X12_nearOf 0 m hJ.2.2.2.2.1) rfl ?_)
    have e0 : ∀ x y : Int, (if (1 : Int) = 0 then x else y) = y := fun x y => if_neg (by omega)
    have e1 : ∀ x y : Int, (if (0 : Int) = 0 then x else y) = x := fun x y => if_pos rfl
    rw [e0, e1]
    refine kA _ _ _ _ ?_ h hr.2 ?_
    · exact gd_wf_JP (gd_bgm_wf m) hJ
    · rw [gd_kp, if_pos h, if_pos h1]
      have e2 : (gw_up m 117 17 (gd_bg m)) 117 18 = m 117 18 := by rw [gw_up_at, if_neg (by omega)]
      have e3 : (gw_up m 117 17 (gd_bg m)) 117 17 = gd_bg m := by rw [gw_up_at, if_pos rfl]
      show gd_kA (gw_up (gw_up m 117 17 (gd_bg m)) 117 18 (gw_w ((gw_up m 117 17 (gd_bg m)) 117 18 + (if (gw_up m 117 17 (gd_bg m)) 117 17 = 0 then 1 else 0)))) (gd_sh m) = _
      rw [e2, e3]
      rfl
  · have hr := gd_sh_rng hJ
    exact kA _ _ _ _ hJ h hr.2 (by rw [gd_kp, if_pos h, if_neg h1])
  · rw [gd_kp, if_neg h]
    exact gw_rE rfl rfl
/-- the guide's steps -/
def gd_gs (m : gw_Mem) (t : Int) : Nat → gw_Mem
  | 0 => m
  | k + 1 => if m 117 0 ≤ m 117 16 then m else if 0 ≤ gd_sh m then m else if gd_rd m (m 117 16) t = 0 then gd_gs (gw_up m 117 16 (gw_w (m 117 16 + 1))) t k else m
def gd_clr (m : gw_Mem) : gw_Mem := gw_up (gw_up (gw_up (gw_up (gw_up m 117 17 0) 117 18 0) 117 19 0) 117 20 0) 117 21 0
def gd_ar (m : gw_Mem) (t : Int) : gw_Mem := gw_up m 117 29 (if m 117 16 = m 117 0 then t else m 117 29)
def gd_gA (m m1 : gw_Mem) (t : Int) : gw_Mem := gd_ar (if (gd_gs m1 t (m1 122 0).toNat) 117 16 = m1 117 16 then gd_gs m1 t (m1 122 0).toNat else gd_clr (gd_gs m1 t (m1 122 0).toNat)) t
def gd_gg (m : gw_Mem) (t : Int) : gw_Mem := if m 117 16 = m 117 0 then m else if (gd_kp m).1 = 0 then gd_gA m (gd_kp m).2 t else (gd_kp m).2
theorem gd_gs_wf (m : gw_Mem) (t : Int) (k : Nat) : gd_wf m (gd_gs m t k) := by
  induction k generalizing m with
  | zero => exact gd_wf_rfl m
  | succ k ih =>
    rw [gd_gs]
    split
    · exact gd_wf_rfl m
    · split
      · exact gd_wf_rfl m
      · split
        · exact gd_wf_tr (gd_wf_uf (gd_wf_rfl m) (by omega) _) (ih _)
        · exact gd_wf_rfl m
theorem gd_clr_wf (m : gw_Mem) : gd_wf m (gd_clr m) := by
  unfold gd_clr
  repeat (first | exact gd_wf_rfl m | refine gd_wf_uf ?_ (by omega) _)
theorem gd_ar_wf (m : gw_Mem) (t : Int) : gd_wf m (gd_ar m t) := gd_wf_uf (gd_wf_rfl m) (by omega) _
theorem gd_gA_wf (m m1 : gw_Mem) (t : Int) : gd_wf m1 (gd_gA m m1 t) := by
  unfold gd_gA
  split
  · exact gd_wf_tr (gd_gs_wf _ _ _) (gd_ar_wf _ _)
  · exact gd_wf_tr (gd_gs_wf _ _ _) (gd_wf_tr (gd_clr_wf _) (gd_ar_wf _ _))
theorem gd_gg_wf (m : gw_Mem) (t : Int) : gd_wf m (gd_gg m t) := by
  unfold gd_gg
  split
  · exact gd_wf_rfl m
  · split
    · exact gd_wf_tr (gd_kp_wf m) (gd_gA_wf _ _ _)
    · exact gd_kp_wf m
theorem sp_X12_guideGoes (t : Int) (m : gw_Mem) (hJ : gd_JP m) : gw_SpecV M_X12_guideGoes 14 [gR 117, gI t] m (fun m' => m' = gd_gg m t) := by
  refine gw_intro pl_X12_guideGoes rfl (fun Γ => ?_)
  apply r_X12_guideGoes_0
  refine ⟨fun h => ?_, fun h => ?_⟩
  · rw [gd_gg, if_pos h]; exact ⟨rfl, rfl⟩
  refine gw_CI.eq (sp_X12_isKept m hJ) rfl ⟨fun h1 => ?_, fun h1 => ?_⟩
  · rw [gd_gg, if_neg h, if_pos h1]
    generalize hm1 : (gd_kp m).2 = m1
    have hJ1 : gd_JP m1 := by rw [← hm1]; exact gd_wf_JP (gd_kp_wf m) hJ
    have hr := hJ1.2.2.2.2.2.2.2.1.1
    obtain ⟨n, hN⟩ := gw_nat (show 0 ≤ m1 122 0 by omega)
    have en : (m1 122 0).toNat = n := by omega
    have fin : ∀ q : gw_Mem, ∀ i : Int, q = gd_gs m1 t n → gw_G M_X12_guideGoes 14 (fun r m' => r = none ∧ m' = gd_gA m m1 t) Γ 82 [some (gR 117), some (gI t), some (gI (m1 117 16)), some (gI i)] [] q := by
      intro q i hq
      apply r_X12_guideGoes_82
      have z : gd_gA m m1 t = gd_ar (if q 117 16 = m1 117 16 then q else gd_clr q) t := by rw [gd_gA, en, hq]
      rw [z]
      refine ⟨fun h2 => ?_, fun h2 => ?_⟩
      · rw [if_pos h2]
        apply r_X12_guideGoes_115
        exact ⟨rfl, rfl⟩
      · rw [if_neg h2]
        apply r_X12_guideGoes_115
        exact ⟨rfl, rfl⟩
    have key : ∀ (j i : Nat) (q : gw_Mem), i + j = n → gd_wf m1 q → gd_gs q t j = gd_gs m1 t n → gw_G M_X12_guideGoes 14 (fun r m' => r = none ∧ m' = gd_gA m m1 t) Γ 26 [some (gR 117), some (gI t), some (gI (m1 117 16)), some (gI (i : Int))] [] q := by
      intro j
      induction j with
      | zero =>
        intro i q hi hw hq
        apply r_X12_guideGoes_26
        have e1 : q 122 0 = m1 122 0 := by rw [hw.1 122 (by omega) (by omega)]
        rw [e1]
        exact ⟨fun _ => fin q _ hq, fun h => absurd (by omega) h⟩
      | succ j ih =>
        intro i q hi hw hq
        apply r_X12_guideGoes_26
        have e1 : q 122 0 = m1 122 0 := by rw [hw.1 122 (by omega) (by omega)]
        have hJq := gd_wf_JP hw hJ1
        rw [e1]
        rw [gd_gs] at hq
        refine ⟨fun h => absurd h (by omega), fun _ => ⟨fun h2 => ?_, fun h2 => ?_⟩⟩
        · rw [if_pos h2] at hq; exact fin q _ hq
        rw [if_neg h2] at hq
        refine gw_CI.eq (sp_X12_stopHere q hJq) rfl ⟨fun h3 => ?_, fun h3 => ?_⟩
        · rw [if_pos h3] at hq; exact fin q _ hq
        rw [if_neg h3] at hq
        refine gw_CI.eq (sp_X12_isRed _ t q hJq) rfl ⟨fun h4 => ?_, fun h4 => ?_⟩
        · rw [if_pos h4] at hq
          rw [gw_w1 (by omega)]
          exact ih (i + 1) _ (by omega) (gd_wf_uf hw (by omega) _) hq
        · rw [if_neg h4] at hq; exact fin q _ hq
    exact key n 0 m1 (by omega) (gd_wf_rfl m1) rfl
  · rw [gd_gg, if_neg h, if_neg h1]; exact ⟨rfl, rfl⟩
/-- the least place of the others -/
def gd_lst (m : gw_Mem) (x : Int) : Nat → Int
  | 0 => 1000
  | i + 1 => if (i : Int) = x then gd_lst m x i else if gd_lost m i = 0 then (if gd_lst m x i ≤ m 129 i then gd_lst m x i else m 129 i) else gd_lst m x i
theorem sp_X12_leastOther (x : Int) (m : gw_Mem) (hn : 0 ≤ m 117 6 ∧ m 117 6 ≤ 10) : gw_SpecI M_X12_leastOther 12 [gR 117, gI x] m (fun r m' => r = gd_lst m x (gd_n m) ∧ m' = m) := by
  refine gw_intro pl_X12_leastOther rfl (fun Γ => ?_)
  apply r_X12_leastOther_0
  obtain ⟨n, hN⟩ := gw_nat hn.1
  have e : gd_n m = n := by unfold gd_n; omega
  have key : ∀ (j i : Nat), i + j = n → gw_G M_X12_leastOther 12 (fun r m' => ∃ v, r = some (gI v) ∧ v = gd_lst m x (gd_n m) ∧ m' = m) Γ 6 [some (gR 117), some (gI x), some (gI (gd_lst m x i)), some (gI (i : Int))] [] m := by
    intro j
    induction j with
    | zero =>
      intro i hi
      apply r_X12_leastOther_6
      refine ⟨fun _ => gw_rE ?_ rfl, fun h => absurd (by omega) h⟩
      rw [e, ← hi, Nat.add_zero]
    | succ j ih =>
      intro i hi
      apply r_X12_leastOther_6
      have hx : gw_in (i : Int) 10 := gw_inm (by omega) (by omega)
      have h1 := ih (i + 1) (by omega)
      rw [gd_lst] at h1
      refine ⟨fun h => absurd h (by omega), fun _ => ⟨fun h2 => ?_, fun h2 => gw_CI.eq (sp_X12_isLost i m hx) rfl ⟨fun _ => ⟨hx, fun _ => hx⟩, ?_⟩⟩⟩
      · apply r_X12_leastOther_47
        rw [if_pos h2] at h1
        rw [gw_w1 (by omega)]
        exact h1
      · apply r_X12_leastOther_47
        rw [if_neg h2] at h1
        rw [gw_w1 (by omega)]
        exact h1
  exact key n 0 (by omega)
/-- whether one is lost here -/
def gd_lk (m : gw_Mem) (x : Int) : Int := if m 123 x = 3 then -4 else gd_mk m 3 (m 129 x)
def gd_lw (m : gw_Mem) (x : Int) : Int := if gd_lk m x < 0 then 0 else if m 117 0 ≤ m 129 x then 0 else if gw_w (m 117 16 - m 129 x) ≤ m 120 (24 + gd_lk m x) then 0 else if gd_tl m (gd_n m) < 0 then 1 else if m 129 (gd_tl m (gd_n m)) ≤ m 129 x then 0 else 1
theorem sp_X12_losesWay (x : Int) (m : gw_Mem) (hx : gw_in x 10) (hJ : gd_JP m) : gw_SpecI M_X12_losesWay 12 [gR 117, gI x] m (fun r m' => r = gd_lw m x ∧ m' = m) := by
  refine gw_intro pl_X12_losesWay rfl (fun Γ => ?_)
  have hn := hJ.2.2.2.2.1
  have kA : ∀ (y2 y3 : Option gw_SV), gw_G M_X12_losesWay 12 (fun r m' => ∃ v, r = some (gI v) ∧ v = gd_lw m x ∧ m' = m) Γ 26 [some (gR 117), some (gI x), y2, y3] [gI (gd_lk m x)] m := by
    intro y2 y3
    apply r_X12_losesWay_26
    refine gw_CI.eq (sp_X12_tail m hn) rfl ?_
    have ht := gd_tl_rng m (m 117 6).toNat
    have e : (m 117 6).toNat = gd_n m := rfl
    rw [e] at ht ⊢
    by_cases h : gd_lk m x < 0
    · refine ⟨fun z => absurd h z, gw_rE ?_ rfl⟩
      rw [gd_lw, if_pos h, if_pos h]
    · have hk : gd_lk m x < 8 := by
        have := gd_mk_rng hJ (k := 3) (by omega) (m 129 x)
        unfold gd_lk
        split <;> omega
      have e4 : gw_w (24 + (if 0 ≤ gd_lk m x then gd_lk m x else 0)) = 24 + gd_lk m x := by rw [if_pos (by omega), gw_w_id (by omega)]
      rw [e4]
      have en : (gd_n m : Int) = m 117 6 := by unfold gd_n; omega
      refine ⟨fun _ => ⟨hx, fun _ => ⟨hx, gw_inm (by omega) (by omega), fun _ h2 => ⟨?_, hx⟩⟩⟩, gw_rE ?_ rfl⟩
      · rw [if_pos (by omega)]; exact gw_inm (by omega) (by omega)
      · rw [gd_lw]
        by_cases h2 : gd_tl m (gd_n m) < 0
        · simp only [if_pos h2]
        · simp only [if_neg h2, if_pos (show 0 ≤ gd_tl m (gd_n m) by omega)]
  apply r_X12_losesWay_0
  refine ⟨hx, fun h => ?_, fun h => ⟨hx, gw_CI.eq (sp_X12_markAt 3 (m 129 x) m (by omega) (hJ.2.1 3 (by omega))) rfl ?_⟩⟩
  · have h1 := kA none none
    rw [gd_lk, if_pos h] at h1
    exact h1
  · have h1 := kA none none
    rw [gd_lk, if_neg h] at h1
    exact h1
/-- the steps of one of the people -/
def gd_up1 (m : gw_Mem) (x : Int) : gw_Mem := gw_up m 129 x (gw_w (m 129 x + 1))
def gd_wd (m : gw_Mem) (x : Int) : Int := if m 123 x = 1 then (if m 117 0 ≤ m 129 x then -4 else gd_mk m 2 (m 129 x)) else -4
def gd_fs (m : gw_Mem) (x t : Int) : Nat → gw_Mem
  | 0 => m
  | k + 1 => if m 117 16 ≤ m 129 x then m else if gd_rd m (m 129 x) t = 0 then (if m 123 x = 3 ∧ gd_lst m x (gd_n m) ≤ m 129 x then m else if gd_lw m x = 0 then (if gd_wd (gd_up1 m x) x < 0 then gd_fs (gd_up1 m x) x t k else gw_up (gd_up1 m x) 130 x (gd_up1 m x 120 (16 + gd_wd (gd_up1 m x) x))) else gw_up m 131 x (m 129 x)) else m
def gd_go (m : gw_Mem) (x t : Int) : gw_Mem := if m 123 x = 1 ∧ 0 < m 130 x then gw_up m 130 x (gw_w (m 130 x - 1)) else if m 123 x = 2 ∧ t.tmod 2 = 1 then m else gd_fs m x t (m 124 x).toNat
theorem gd_fs_wf (m : gw_Mem) (x t : Int) (k : Nat) : gd_wf m (gd_fs m x t k) := by
  induction k generalizing m with
  | zero => exact gd_wf_rfl m
  | succ k ih =>
    rw [gd_fs]
    have h1 : gd_wf m (gd_up1 m x) := gd_wf_up (gd_wf_rfl m) (by omega) _ _
    repeat' split
    all_goals first
      | exact gd_wf_rfl m
      | exact gd_wf_tr h1 (ih _)
      | exact gd_wf_up h1 (by omega) _ _
      | exact gd_wf_up (gd_wf_rfl m) (by omega) _ _
theorem gd_go_wf (m : gw_Mem) (x t : Int) : gd_wf m (gd_go m x t) := by
  unfold gd_go
  repeat' split
  all_goals first
    | exact gd_wf_rfl m
    | exact gd_wf_up (gd_wf_rfl m) (by omega) _ _
    | exact gd_fs_wf _ _ _ _
theorem sp_X12_goes (x t : Int) (m : gw_Mem) (hx : 0 ≤ x ∧ x < m 117 6) (hJ : gd_JP m) : gw_SpecV M_X12_goes 13 [gR 117, gI x, gI t] m (fun m' => m' = gd_go m x t) := by
  refine gw_intro pl_X12_goes rfl (fun Γ => ?_)
  have hn := hJ.2.2.2.2.1
  have hin : gw_in x 10 := gw_inm hx.1 (by omega)
  have hp := (hJ.2.2.2.2.2.1 x hx).2.1
  obtain ⟨n, hN⟩ := gw_nat (show 0 ≤ m 124 x by omega)
  have en : (m 124 x).toNat = n := by omega
  have key : ∀ (j i : Nat) (q : gw_Mem) (y4 : Option gw_SV), i + j = n → gd_wf m q → gd_fs q x t j = gd_fs m x t n → gw_G M_X12_goes 13 (fun r m' => r = none ∧ m' = gd_fs m x t n) Γ 50 [some (gR 117), some (gI x), some (gI t), some (gI (i : Int)), y4] [] q := by
    intro j
    induction j with
    | zero =>
      intro i q y4 hi hw hq
      apply r_X12_goes_50
      have e1 : q 124 x = m 124 x := by rw [hw.1 124 (by omega) (by omega)]
      rw [e1]
      refine ⟨hin, fun _ => ⟨rfl, ?_⟩, fun h => absurd (by omega) h⟩
      exact hq
    | succ j ih =>
      intro i q y4 hi hw hq
      apply r_X12_goes_50
      have e1 : q 124 x = m 124 x := by rw [hw.1 124 (by omega) (by omega)]
      have hJq := gd_wf_JP hw hJ
      rw [e1]
      rw [gd_fs] at hq
      refine ⟨hin, fun h => absurd h (by omega), fun _ => ⟨hin, fun h2 => ?_, fun h2 => ⟨hin, ?_⟩⟩⟩
      · rw [if_pos h2] at hq; exact ⟨rfl, hq⟩
      rw [if_neg h2] at hq
      refine gw_CI.eq (sp_X12_isRed _ t q hJq) rfl ⟨fun h3 => ⟨hin, ?_⟩, fun h3 => ?_⟩
      · rw [if_pos h3] at hq
        have go : ¬ (q 123 x = 3 ∧ gd_lst q x (gd_n q) ≤ q 129 x) → gw_G M_X12_goes 13 (fun r m' => r = none ∧ m' = gd_fs m x t n) Γ 112 [some (gR 117), some (gI x), some (gI t), some (gI (i : Int)), y4] [] q := by
          intro h4
          rw [if_neg h4] at hq
          apply r_X12_goes_112
          refine gw_CI.eq (sp_X12_losesWay x q hin hJq) rfl ⟨fun h5 => ⟨hin, hin, hin, ?_⟩, fun h5 => ⟨hin, hin, rfl, ?_⟩⟩
          · rw [if_pos h5] at hq
            have hu : gw_up q 129 x (gw_w (q 129 x + 1)) = gd_up1 q x := rfl
            rw [hu]
            generalize hqq : gd_up1 q x = u at hq ⊢
            have hwu : gd_wf m u := by rw [← hqq]; exact gd_wf_up hw (by omega) _ _
            have hJu := gd_wf_JP hwu hJ
            have fin : gw_G M_X12_goes 13 (fun r m' => r = none ∧ m' = gd_fs m x t n) Γ 182 [some (gR 117), some (gI x), some (gI t), some (gI (i : Int)), y4] [gI (gd_wd u x)] u := by
              apply r_X12_goes_182
              refine ⟨fun h6 => ?_, fun h6 => ?_⟩
              · rw [if_pos h6] at hq
                rw [gw_w1 (by omega)]
                exact ih (i + 1) u _ (by omega) hwu hq
              · rw [if_neg h6] at hq
                have hk : gd_wd u x < 8 := by
                  have := gd_mk_rng hJu (k := 2) (by omega) (u 129 x)
                  unfold gd_wd
                  repeat' split
                  all_goals omega
                rw [gw_w_id (by omega)]
                exact ⟨gw_inm (by omega) (by omega), hin, rfl, hq⟩
            refine ⟨fun h6 => ⟨hin, fun h7 => ?_, fun h7 => ⟨hin, gw_CI.eq (sp_X12_markAt 2 (u 129 x) u (by omega) (hJu.2.1 2 (by omega))) rfl ?_⟩⟩, fun h6 => ?_⟩
            · apply r_X12_goes_180
              rw [gd_wd, if_pos h6, if_pos h7] at fin
              exact fin
            · rw [gd_wd, if_pos h6, if_neg h7] at fin
              exact fin
            · apply r_X12_goes_180
              rw [gd_wd, if_neg h6] at fin
              exact fin
          · rw [if_neg h5] at hq
            exact hq
        refine ⟨fun h4 => ⟨hin, gw_CI.eq (sp_X12_leastOther x q hJq.2.2.2.2.1) rfl ⟨fun h5 => go (fun z => by omega), fun h5 => ?_⟩⟩, fun h4 => go (fun z => h4 z.1)⟩
        rw [if_pos (And.intro h4 (by omega))] at hq
        exact ⟨rfl, hq⟩
      · rw [if_neg h3] at hq; exact ⟨rfl, hq⟩
  have st : ¬ (m 123 x = 1 ∧ 0 < m 130 x) → gw_G M_X12_goes 13 (fun r m' => r = none ∧ m' = gd_go m x t) Γ 30 [some (gR 117), some (gI x), some (gI t), none, none] [] m := by
    intro h0
    rw [gd_go, if_neg h0]
    apply r_X12_goes_30
    have s2 : ¬ (m 123 x = 2 ∧ t.tmod 2 = 1) → gw_G M_X12_goes 13 (fun r m' => r = none ∧ m' = (if m 123 x = 2 ∧ t.tmod 2 = 1 then m else gd_fs m x t (m 124 x).toNat)) Γ 48 [some (gR 117), some (gI x), some (gI t), none, none] [] m := by
      intro h1
      rw [if_neg h1, en]
      apply r_X12_goes_48
      exact key n 0 m _ (by omega) (gd_wf_rfl m) rfl
    refine ⟨hin, fun h1 => ⟨fun h2 => ?_, fun h2 => s2 (fun z => h2 z.2)⟩, fun h1 => s2 (fun z => h1 z.1)⟩
    rw [if_pos (And.intro h1 h2)]
    exact ⟨rfl, rfl⟩
  apply r_X12_goes_0
  refine ⟨hin, fun h => ⟨hin, fun h1 => st (fun z => by omega), fun h1 => ⟨hin, hin, rfl, ?_⟩⟩, fun h => st (fun z => h z.1)⟩
  rw [gd_go, if_pos (And.intro h (by omega))]
