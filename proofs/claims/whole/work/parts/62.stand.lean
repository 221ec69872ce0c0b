/-! the reference: where all hear -/
def gd_sz (x : Int) : Int := if 0 ≤ x then x else -x
def gd_sg (x : Int) : Int := if 0 ≤ x then (if x ≤ 0 then 0 else 1) else -1
def gd_qx (p k : Int) : Int := k % 12 - p % 12
def gd_qy (p k : Int) : Int := k / 12 - p / 12
def gd_qf (p k : Int) : Int := if gd_sz (gd_qx p k) ≤ gd_sz (gd_qy p k) then gd_sz (gd_qy p k) else gd_sz (gd_qx p k)
def gd_al (p k : Int) : Int := if gd_qx p k = 0 then 1 else if gd_qy p k = 0 then 1 else if gd_sz (gd_qx p k) = gd_sz (gd_qy p k) then 1 else 0
def gd_hj (g : gw_Mem) (p k : Int) : Nat → Int
  | 0 => if g 122 4 < gd_qf p k then 0 else 1
  | j + 1 => if gd_hj g p k j = 0 then 0 else if g 126 (p + ((j : Int) + 1) * (gd_sg (gd_qx p k) + 12 * gd_sg (gd_qy p k))) = 1 then 0 else 1
def gd_hz (g : gw_Mem) (p k : Int) : Int := if gd_al p k = 0 then gd_hj g p k 0 else gd_hj g p k (gd_qf p k - 1).toNat
def gd_fv (g : gw_Mem) (p : Int) : Nat → Int
  | 0 => 0
  | k + 1 => if gd_fv g p k < 0 then -4 else if g 126 k = 2 then (if gd_hz g p k = 0 then -4 else if gd_qf p k ≤ gd_fv g p k then gd_fv g p k else gd_qf p k) else gd_fv g p k
def gd_far (g : gw_Mem) (p : Int) : Int := if g 126 p = 1 then -4 else gd_fv g p 144
theorem gd_fv_stay (g : gw_Mem) (p : Int) (k : Nat) (h : gd_fv g p k = -4) : ∀ d : Nat, gd_fv g p (k + d) = -4 := by
  intro d
  induction d with
  | zero => exact h
  | succ d ih => rw [show k + (d + 1) = (k + d) + 1 by omega, gd_fv, ih, if_pos (by omega)]
theorem gd_fv_rng (g : gw_Mem) (p : Int) (k : Nat) : gd_fv g p k = -4 ∨ 0 ≤ gd_fv g p k := by
  induction k with
  | zero => right; rw [gd_fv]; omega
  | succ k ih =>
    have hz : ∀ x : Int, 0 ≤ gd_sz x := fun x => by unfold gd_sz; split <;> omega
    have a := hz (gd_qx p k)
    have b := hz (gd_qy p k)
    have c : 0 ≤ gd_qf p k := by unfold gd_qf; split <;> omega
    rw [gd_fv]
    repeat' split
    all_goals omega
theorem sp_X12_size (x : Int) (m : gw_Mem) (hx : -100 ≤ x ∧ x ≤ 100) : gw_SpecI M_X12_size 10 [gI x] m (fun r m' => r = gd_sz x ∧ m' = m) := by
  refine gw_intro pl_X12_size rfl (fun Γ => ?_)
  apply r_X12_size_0
  refine gw_rE ?_ rfl
  rw [gw_w_id (by omega)]
  rfl
theorem sp_X12_sign (x : Int) (m : gw_Mem) : gw_SpecI M_X12_sign 10 [gI x] m (fun r m' => r = gd_sg x ∧ m' = m) := by
  refine gw_intro pl_X12_sign rfl (fun Γ => ?_)
  apply r_X12_sign_0
  exact gw_rE rfl rfl
theorem gd_sg_rng (x : Int) : -1 ≤ gd_sg x ∧ gd_sg x ≤ 1 := by
  unfold gd_sg
  repeat' split
  all_goals omega
theorem gd_hj01 (g : gw_Mem) (p k : Int) (j : Nat) : gd_hj g p k j = 0 ∨ gd_hj g p k j = 1 := by
  cases j with
  | zero => unfold gd_hj; split <;> simp
  | succ j => unfold gd_hj; repeat' split
              all_goals simp
/-- a point between two that are aligned -/
theorem gd_btw {p k : Int} (hp : 0 ≤ p ∧ p < 144) (hk : 0 ≤ k ∧ k < 144) (ha : gd_al p k ≠ 0) {j : Int} (hj : 1 ≤ j ∧ j < gd_qf p k) : 0 ≤ p + j * (gd_sg (gd_qx p k) + 12 * gd_sg (gd_qy p k)) ∧ p + j * (gd_sg (gd_qx p k) + 12 * gd_sg (gd_qy p k)) < 144 := by
  unfold gd_al gd_qf gd_sg gd_sz gd_qx gd_qy at *
  have e0 : ∀ x y : Int, j * (x + 12 * y) = j * x + 12 * (j * y) := fun x y => by rw [Int.mul_add, Int.mul_left_comm]
  rw [e0]
  have m1 : j * (-1) = -j := by omega
  have m2 : j * 0 = 0 := by omega
  have m3 : j * 1 = j := by omega
  repeat' split
  all_goals (first | rw [m1] | rw [m2] | rw [m3])
  all_goals (try (first | rw [m1] | rw [m2] | rw [m3]))
  all_goals (repeat' split at hj)
  all_goals (repeat' split at ha)
  all_goals omega
theorem sp_X12_farthest (p : Nat) (g : gw_Mem) (hp : p < 144) : gw_SpecI M_X12_farthest 12 [gR 117, gI (p : Int)] g (fun r m' => r = gd_far g p ∧ m' = g) := by
  refine gw_intro pl_X12_farthest rfl (fun Γ => ?_)
  have key : ∀ (j k : Nat) (y4 y5 y6 y7 y8 y9 : Option gw_SV), k + j = 144 → g 126 (p : Int) ≠ 1 → 0 ≤ gd_fv g p k → gw_G M_X12_farthest 12 (fun r m' => ∃ v, r = some (gI v) ∧ v = gd_far g p ∧ m' = g) Γ 17 [some (gR 117), some (gI (p : Int)), some (gI (gd_fv g p k)), some (gI (k : Int)), y4, y5, y6, y7, y8, y9] [] g := by
    intro j
    induction j with
    | zero =>
      intro k y4 y5 y6 y7 y8 y9 hk h1 h0
      apply r_X12_farthest_17
      refine ⟨fun _ => gw_rE ?_ rfl, fun z => absurd (by omega) z⟩
      rw [gd_far, if_neg h1, show k = 144 by omega]
    | succ j ih =>
      intro k y4 y5 y6 y7 y8 y9 hk h1 h0
      apply r_X12_farthest_17
      refine ⟨fun z => absurd z (by omega), fun _ => ?_⟩
      have ex : gw_w ((k : Int).tmod 12 - (p : Int).tmod 12) = gd_qx p k := by
        rw [Int.tmod_eq_emod_of_nonneg (by omega), Int.tmod_eq_emod_of_nonneg (by omega)]
        exact gw_w_id (by omega)
      have ey : gw_w (gw_w ((k : Int).tdiv 12) - gw_w ((p : Int).tdiv 12)) = gd_qy p k := by
        rw [Int.tdiv_eq_ediv_of_nonneg (by omega), Int.tdiv_eq_ediv_of_nonneg (by omega), gw_w_id (x := (k : Int) / 12) (by omega), gw_w_id (x := (p : Int) / 12) (by omega)]
        exact gw_w_id (by omega)
      have bx : -100 ≤ gd_qx p k ∧ gd_qx p k ≤ 100 := by unfold gd_qx; omega
      have bY : -100 ≤ gd_qy p k ∧ gd_qy p k ≤ 100 := by unfold gd_qy; omega
      rw [ex, ey]
      -- on to the next point
      have nxt : ∀ (v : Int) (y6 y7 y8 y9 : Option gw_SV) , v = gd_fv g p (k + 1) → 0 ≤ v → gw_G M_X12_farthest 12 (fun r m' => ∃ v, r = some (gI v) ∧ v = gd_far g p ∧ m' = g) Γ 17 [some (gR 117), some (gI (p : Int)), some (gI v), some (gI (gw_w ((k : Int) + 1))), some (gI (gd_qx p k)), some (gI (gd_qy p k)), y6, y7, y8, y9] [] g := by
        intro v y6 y7 y8 y9 e hv
        rw [gw_w1 (by omega), e]
        exact ih (k + 1) _ _ _ _ _ _ (by omega) h1 (by omega)
      have stepv : gd_fv g p (k + 1) = if g 126 (k : Int) = 2 then (if gd_hz g p k = 0 then -4 else if gd_qf p k ≤ gd_fv g p k then gd_fv g p k else gd_qf p k) else gd_fv g p k := by rw [gd_fv, if_neg (by omega)]
      have hin : gw_in (k : Int) 144 := gw_inm (by omega) (by omega)
      have hzz : ∀ x : Int, 0 ≤ gd_sz x := fun x => by unfold gd_sz; split <;> omega
      have hqf : 0 ≤ gd_qf p k := by have a := hzz (gd_qx p k); have b := hzz (gd_qy p k); unfold gd_qf; split <;> omega
      have hqf2 : gd_qf p k ≤ 11 := by unfold gd_qf gd_sz gd_qx gd_qy; repeat' split
                                       all_goals omega
      -- what is decided at the end
      have fin : ∀ (al hv x9 : Int), g 126 (k : Int) = 2 → hv = gd_hz g p k → gw_G M_X12_farthest 12 (fun r m' => ∃ v, r = some (gI v) ∧ v = gd_far g p ∧ m' = g) Γ 193 [some (gR 117), some (gI (p : Int)), some (gI (gd_fv g p k)), some (gI (k : Int)), some (gI (gd_qx p k)), some (gI (gd_qy p k)), some (gI (gd_qf p k)), some (gI al), some (gI hv), some (gI x9)] [] g := by
        intro al hv x9 h2 e
        apply r_X12_farthest_193
        rw [if_pos h2, ← e] at stepv
        refine ⟨fun z => gw_rE ?_ rfl, fun z => ?_⟩
        · rw [if_pos z] at stepv
          have st := gd_fv_stay g p (k + 1) stepv (144 - (k + 1))
          rw [show k + 1 + (144 - (k + 1)) = 144 by omega] at st
          rw [gd_far, if_neg h1, st]
        · rw [if_neg z] at stepv
          apply r_X12_farthest_214
          refine nxt _ _ _ _ _ stepv.symm ?_
          split <;> omega
      -- the points between
      have btw : ∀ (al : Int), g 126 (k : Int) = 2 → al = gd_al p k → ∀ (j2 i : Nat), (i : Int) + j2 = gd_qf p k - 1 ∨ (i = 0 ∧ j2 = 0 ∧ gd_qf p k = 0) → (al = 0 → i = 0) → gw_G M_X12_farthest 12 (fun r m' => ∃ v, r = some (gI v) ∧ v = gd_far g p ∧ m' = g) Γ 135 [some (gR 117), some (gI (p : Int)), some (gI (gd_fv g p k)), some (gI (k : Int)), some (gI (gd_qx p k)), some (gI (gd_qy p k)), some (gI (gd_qf p k)), some (gI al), some (gI (gd_hj g p k i)), some (gI ((i : Int) + 1))] [] g := by
        intro al h2 eal j2
        induction j2 with
        | zero =>
          intro i hi hal
          apply r_X12_farthest_135
          refine ⟨fun _ => fin _ _ _ h2 ?_, fun z => absurd (by omega) z⟩
          unfold gd_hz
          rw [← eal]
          by_cases z : al = 0
          · rw [if_pos z, hal z]
          · rw [if_neg z, show (gd_qf p k - 1).toNat = i by omega]
        | succ j2 ih2 =>
          intro i hi hal
          apply r_X12_farthest_135
          refine ⟨fun z => absurd z (by omega), fun _ => ⟨fun z => fin _ _ _ h2 ?_, fun z => ?_⟩⟩
          · unfold gd_hz
            rw [← eal, if_pos z, hal z]
          · have h4 := ih2 (i + 1) (by omega) (fun q => absurd q z)
            rw [gd_hj] at h4
            refine ⟨fun h5 => ?_, fun h5 => ?_⟩
            · apply r_X12_farthest_185
              rw [if_pos h5] at h4
              rw [show gw_w ((i : Int) + 1 + 1) = ((i + 1 : Nat) : Int) + 1 by rw [gw_w_id (by omega)]; omega]
              exact h4
            · rw [if_neg h5] at h4
              refine gw_CI.eq (sp_X12_sign (gd_qx p k) g) rfl (gw_CI.eq (sp_X12_sign (gd_qy p k) g) rfl ?_)
              have bt := gd_btw (p := (p : Int)) (k := (k : Int)) (by omega) (by omega) (by rw [← eal]; exact z) (j := (i : Int) + 1) (by omega)
              have s1 := gd_sg_rng (gd_qx p k)
              have s2 := gd_sg_rng (gd_qy p k)
              have e : gw_w ((p : Int) + gw_w (((i : Int) + 1) * gw_w (gd_sg (gd_qx p k) + gw_w (12 * gd_sg (gd_qy p k))))) = (p : Int) + ((i : Int) + 1) * (gd_sg (gd_qx p k) + 12 * gd_sg (gd_qy p k)) := by
                rw [gw_w_id (x := 12 * gd_sg (gd_qy p k)) (by omega), gw_w_id (x := gd_sg (gd_qx p k) + 12 * gd_sg (gd_qy p k)) (by omega)]
                generalize ((i : Int) + 1) * (gd_sg (gd_qx p k) + 12 * gd_sg (gd_qy p k)) = u at bt ⊢
                rw [gw_w_id (x := u) (by omega), gw_w_id (by omega)]
              rw [e]
              refine ⟨gw_inm bt.1 bt.2, ?_⟩
              apply r_X12_farthest_185
              rw [show gw_w ((i : Int) + 1 + 1) = ((i + 1 : Nat) : Int) + 1 by rw [gw_w_id (by omega)]; omega]
              exact h4
      have go112 : g 126 (k : Int) = 2 → gw_G M_X12_farthest 12 (fun r m' => ∃ v, r = some (gI v) ∧ v = gd_far g p ∧ m' = g) Γ 112 [some (gR 117), some (gI (p : Int)), some (gI (gd_fv g p k)), some (gI (k : Int)), some (gI (gd_qx p k)), some (gI (gd_qy p k)), some (gI (gd_qf p k)), y7, y8, y9] [gI (gd_al p k)] g := by
        intro h2
        apply r_X12_farthest_112
        have h6 := btw (gd_al p k) h2 rfl (gd_qf p k - 1).toNat 0 (by omega) (fun _ => rfl)
        exact h6
      have go72 : gw_G M_X12_farthest 12 (fun r m' => ∃ v, r = some (gI v) ∧ v = gd_far g p ∧ m' = g) Γ 72 [some (gR 117), some (gI (p : Int)), some (gI (gd_fv g p k)), some (gI (k : Int)), some (gI (gd_qx p k)), some (gI (gd_qy p k)), y6, y7, y8, y9] [gI (gd_qf p k)] g := by
        apply r_X12_farthest_72
        refine ⟨hin, fun h2 => ?_, fun h2 => ?_⟩
        · have q := go112 h2
          unfold gd_al at q
          refine ⟨fun h3 => ?_, fun h3 => ?_⟩
          · rw [if_pos h3] at q
            apply r_X12_farthest_107
            exact q
          · rw [if_neg h3] at q
            refine ⟨fun h4 => ?_, fun h4 => ?_⟩
            · rw [if_pos h4] at q
              apply r_X12_farthest_107
              exact q
            · rw [if_neg h4] at q
              refine gw_CI.eq (sp_X12_size _ g bx) rfl (gw_CI.eq (sp_X12_size _ g bY) rfl ⟨fun h5 => ?_, fun h5 => ?_⟩)
              · rw [if_pos h5] at q
                apply r_X12_farthest_107
                exact q
              · rw [if_neg h5] at q
                exact q
        · rw [if_neg h2] at stepv
          apply r_X12_farthest_214
          exact nxt _ _ _ _ _ stepv.symm h0
      unfold gd_qf at go72
      refine gw_CI.eq (sp_X12_size _ g bx) rfl (gw_CI.eq (sp_X12_size _ g bY) rfl ⟨fun h2 => ?_, fun h2 => ?_⟩)
      · rw [if_pos h2] at go72
        exact gw_CI.eq (sp_X12_size _ g bY) rfl go72
      · rw [if_neg h2] at go72
        exact gw_CI.eq (sp_X12_size _ g bx) rfl go72
  apply r_X12_farthest_0
  refine ⟨gw_inm (by omega) (by omega), fun h => gw_rE (by rw [gd_far, if_pos h]) rfl, fun h => ?_⟩
  exact key 144 0 _ _ _ _ _ _ (by omega) h (by rw [gd_fv]; omega)
