/-! the walk of the reference -/
def gd_n (m : gw_Mem) : Nat := (m 117 6).toNat
theorem gw_sum_01 {f : Int → Int} (h : ∀ i, 0 ≤ f i ∧ f i ≤ 1) (n : Nat) : 0 ≤ gw_sum f n ∧ gw_sum f n ≤ n := by
  induction n with
  | zero => simp [gw_sum]
  | succ n ih => have a := h n; rw [gw_sum]; omega
def gd_lost (m : gw_Mem) (i : Int) : Int := if m 131 i < 0 then 0 else 1
def gd_nr (m : gw_Mem) (x t : Int) : Int := if m 131 x < 0 then (if gw_w (t * m 122 4) < gw_w (m 117 16 - m 129 x) then 0 else 1) else 0
theorem gd_nr01 (m : gw_Mem) (x t : Int) : gd_nr m x t = 0 ∨ gd_nr m x t = 1 := by
  unfold gd_nr
  split
  · split <;> simp
  · simp
theorem gd_nrb (m : gw_Mem) (x t : Int) : (if gd_nr m x t = 0 then (0 : Int) else 1) = gd_nr m x t := by
  have h := gd_nr01 m x t
  split <;> omega
theorem gd_lostz (m : gw_Mem) (x : Int) : gd_lost m x = 0 ↔ m 131 x < 0 := by
  unfold gd_lost
  split <;> omega
def gd_near (m : gw_Mem) : Nat → Int := gw_sum (fun i => gd_nr m i 1)
def gd_alive (m : gw_Mem) : Nat → Int := gw_sum (fun i => if gd_lost m i = 0 then 1 else 0)
theorem gd_near_rng (m : gw_Mem) (n : Nat) : 0 ≤ gd_near m n ∧ gd_near m n ≤ n := gw_sum_01 (fun i => by have h := gd_nr01 m i 1; omega) n
theorem gd_alive_rng (m : gw_Mem) (n : Nat) : 0 ≤ gd_alive m n ∧ gd_alive m n ≤ n := gw_sum_01 (fun i => by split <;> omega) n
def gd_mk (m : gw_Mem) (k x : Int) : Int := gd_ma m k x (m 118 k).toNat
def gd_sq (m : gw_Mem) : Int := if m 117 16 < m 117 0 then gd_mk m 0 (m 117 16) else -4
def gd_sh (m : gw_Mem) : Int := if gd_sq m < 0 then -4 else if gw_and (gw_shr (m 117 22) (gd_sq m)) 1 = 0 then gd_sq m else -4
theorem gd_mk_rng {m : gw_Mem} (hJ : gd_JP m) {k : Int} (hk : 0 ≤ k ∧ k ≤ 3) (x : Int) : -4 ≤ gd_mk m k x ∧ gd_mk m k x < m 118 k ∧ gd_mk m k x < 8 ∧ (0 ≤ gd_mk m k x → gd_lo k ≤ m 120 (8 * k + gd_mk m k x) ∧ m 120 (8 * k + gd_mk m k x) ≤ gd_hi k) := by
  have hz := hJ.2.1 k hk
  have hr := gd_ma_rng m k x (m 118 k).toNat
  unfold gd_mk
  refine ⟨by omega, by omega, by omega, fun h => ?_⟩
  exact (hJ.2.2.1 k _ hk ⟨h, by omega⟩).2
theorem gd_sh_rng {m : gw_Mem} (hJ : gd_JP m) : -4 ≤ gd_sh m ∧ gd_sh m < 8 := by
  have h := gd_mk_rng hJ (k := 0) (by omega) (m 117 16)
  unfold gd_sh gd_sq
  repeat' split
  all_goals omega
def gd_rd (m : gw_Mem) (x t : Int) : Int := if gd_mk m 1 x < 0 then 0 else if m 117 0 ≤ x then 0 else if (m 120 (8 + gd_mk m 1 x)).tdiv 2 ≤ t.tmod (m 120 (8 + gd_mk m 1 x)) then 0 else 1
/-- what the walk leaves as it is -/
def gd_wf (m m' : gw_Mem) : Prop := (∀ o : Nat, ¬ (129 ≤ o ∧ o ≤ 135) → o ≠ 117 → m' o = m o) ∧ ∀ j : Int, ¬ (16 ≤ j ∧ j ≤ 30) → m' 117 j = m 117 j
theorem gd_wf_rfl (m : gw_Mem) : gd_wf m m := ⟨fun _ _ _ => rfl, fun _ _ => rfl⟩
theorem gd_wf_tr {m m1 m2 : gw_Mem} (h : gd_wf m m1) (h' : gd_wf m1 m2) : gd_wf m m2 := ⟨fun o a b => (h'.1 o a b).trans (h.1 o a b), fun j a => (h'.2 j a).trans (h.2 j a)⟩
theorem gd_wf_up {m m1 : gw_Mem} (h : gd_wf m m1) {o : Nat} (ho : 129 ≤ o ∧ o ≤ 135) (j v : Int) : gd_wf m (gw_up m1 o j v) := by
  refine ⟨fun q a b => ?_, fun i a => ?_⟩
  · rw [gw_up_ne (by omega)]; exact h.1 q a b
  · rw [gw_up_ne (by omega)]; exact h.2 i a
theorem gd_wf_uf {m m1 : gw_Mem} (h : gd_wf m m1) {j : Int} (hj : 16 ≤ j ∧ j ≤ 30) (v : Int) : gd_wf m (gw_up m1 117 j v) := by
  refine ⟨fun q a b => ?_, fun i a => ?_⟩
  · rw [gw_up_ne b]; exact h.1 q a b
  · rw [gw_up_at, if_neg (by omega)]; exact h.2 i a
theorem gd_wf_JP {m m1 : gw_Mem} (h : gd_wf m m1) (hJ : gd_JP m) : gd_JP m1 :=
  gd_JP_congr hJ (h.2 0 (by omega)) (h.2 6 (by omega)) (h.1 118 (by omega) (by omega)) (h.1 119 (by omega) (by omega)) (h.1 120 (by omega) (by omega)) (h.1 121 (by omega) (by omega)) (h.1 122 (by omega) (by omega)) (h.1 123 (by omega) (by omega)) (h.1 124 (by omega) (by omega)) (h.1 125 (by omega) (by omega)) (h.1 126 (by omega) (by omega))
theorem gd_wf_n {m m1 : gw_Mem} (h : gd_wf m m1) : gd_n m1 = gd_n m := by unfold gd_n; rw [h.2 6 (by omega)]
/-- a minute of speech -/
def gd_spk (m : gw_Mem) : Nat → gw_Mem
  | 0 => m
  | i + 1 => gw_up (gd_spk m i) 132 i (gw_w (gd_spk m i 132 i + gd_nr (gd_spk m i) i (if gd_spk m i 125 i = 1 then 3 else 1)))
theorem gd_spk_wf (m : gw_Mem) (n : Nat) : gd_wf m (gd_spk m n) := by
  induction n with
  | zero => exact gd_wf_rfl m
  | succ n ih => exact gd_wf_up ih (by omega) _ _
def gd_done (m : gw_Mem) (k : Int) : gw_Mem := gw_up m 117 22 (gw_or (m 117 22) (gw_shl 1 k))
def gd_kA (m : gw_Mem) (k : Int) : Int × gw_Mem := if m 117 17 = 0 then (1, m) else if m 120 k ≤ m 117 19 then (if m 122 2 ≤ m 117 21 then (0, gd_done m k) else if m 117 20 < m 122 3 then (1, gw_up m 117 20 (gw_w (m 117 20 + 1))) else (0, gd_done m k)) else (1, gd_spk (gw_up m 117 19 (gw_w (m 117 19 + 1))) (gd_n m))
def gd_wish (m : gw_Mem) : Int := if gd_alive m (gd_n m) ≤ m 122 1 then gd_alive m (gd_n m) else m 122 1
def gd_bg (m : gw_Mem) : Int := if gd_wish m ≤ gd_near m (gd_n m) then 1 else if m 117 18 < m 122 3 then 0 else 1
def gd_bgm (m : gw_Mem) : gw_Mem := gw_up (gw_up m 117 17 (gd_bg m)) 117 18 (gw_w (m 117 18 + (if gd_bg m = 0 then 1 else 0)))
def gd_kp (m : gw_Mem) : Int × gw_Mem := if 0 ≤ gd_sh m then (if m 117 17 = 0 then gd_kA (gd_bgm m) (gd_sh m) else gd_kA m (gd_sh m)) else (0, m)
theorem gd_kA_wf (m : gw_Mem) (k : Int) : gd_wf m (gd_kA m k).2 := by
  unfold gd_kA gd_done
  split
  · exact gd_wf_rfl m
  · split
    · split
      · exact gd_wf_uf (gd_wf_rfl m) (by omega) _
      · split
        · exact gd_wf_uf (gd_wf_rfl m) (by omega) _
        · exact gd_wf_uf (gd_wf_rfl m) (by omega) _
    · exact gd_wf_tr (gd_wf_uf (gd_wf_rfl m) (by omega) _) (gd_spk_wf _ _)
theorem gd_bgm_wf (m : gw_Mem) : gd_wf m (gd_bgm m) := gd_wf_uf (gd_wf_uf (gd_wf_rfl m) (by omega) _) (by omega) _
theorem gd_kp_wf (m : gw_Mem) : gd_wf m (gd_kp m).2 := by
  unfold gd_kp
  split
  · split
    · exact gd_wf_tr (gd_bgm_wf m) (gd_kA_wf _ _)
    · exact gd_kA_wf _ _
  · exact gd_wf_rfl m
/-- the guide's steps -/
def gd_gs (m : gw_Mem) (t : Int) : Nat → gw_Mem
  | 0 => m
  | k + 1 => if m 117 0 ≤ m 117 16 then m else if 0 ≤ gd_sh m then m else if gd_rd m (m 117 16) t = 0 then gd_gs (gw_up m 117 16 (gw_w (m 117 16 + 1))) t k else m
def gd_clr (m : gw_Mem) : gw_Mem := gw_up (gw_up (gw_up (gw_up (gw_up m 117 17 0) 117 18 0) 117 19 0) 117 20 0) 117 21 0
def gd_ar (m : gw_Mem) (t : Int) : gw_Mem := gw_up m 117 29 (if m 117 16 = m 117 0 then t else m 117 29)
def gd_gA (m m1 : gw_Mem) (t : Int) : gw_Mem := gd_ar (if (gd_gs m1 t (m1 122 0).toNat) 117 16 = m1 117 16 then gd_gs m1 t (m1 122 0).toNat else gd_clr (gd_gs m1 t (m1 122 0).toNat)) t
def gd_gg (m : gw_Mem) (t : Int) : gw_Mem := if m 117 16 = m 117 0 then m else if (gd_kp m).1 = 0 then gd_gA m (gd_kp m).2 t else (gd_kp m).2
theorem gd_gs_wf (m : gw_Mem) (t : Int) (k : Nat) : gd_wf m (gd_gs m t k) := by
  induction k generalizing m with
  | zero => exact gd_wf_rfl m
  | succ k ih =>
    rw [gd_gs]
    split
    · exact gd_wf_rfl m
    · split
      · exact gd_wf_rfl m
      · split
        · exact gd_wf_tr (gd_wf_uf (gd_wf_rfl m) (by omega) _) (ih _)
        · exact gd_wf_rfl m
theorem gd_clr_wf (m : gw_Mem) : gd_wf m (gd_clr m) := by
  unfold gd_clr
  repeat (first | exact gd_wf_rfl m | refine gd_wf_uf ?_ (by omega) _)
theorem gd_ar_wf (m : gw_Mem) (t : Int) : gd_wf m (gd_ar m t) := gd_wf_uf (gd_wf_rfl m) (by omega) _
theorem gd_gA_wf (m m1 : gw_Mem) (t : Int) : gd_wf m1 (gd_gA m m1 t) := by
  unfold gd_gA
  split
  · exact gd_wf_tr (gd_gs_wf _ _ _) (gd_ar_wf _ _)
  · exact gd_wf_tr (gd_gs_wf _ _ _) (gd_wf_tr (gd_clr_wf _) (gd_ar_wf _ _))
theorem gd_gg_wf (m : gw_Mem) (t : Int) : gd_wf m (gd_gg m t) := by
  unfold gd_gg
  split
  · exact gd_wf_rfl m
  · split
    · exact gd_wf_tr (gd_kp_wf m) (gd_gA_wf _ _ _)
    · exact gd_kp_wf m
/-- the least place of the others -/
def gd_lst (m : gw_Mem) (x : Int) : Nat → Int
  | 0 => 1000
  | i + 1 => if (i : Int) = x then gd_lst m x i else if gd_lost m i = 0 then (if gd_lst m x i ≤ m 129 i then gd_lst m x i else m 129 i) else gd_lst m x i
/-- whether one is lost here -/
def gd_lk (m : gw_Mem) (x : Int) : Int := if m 123 x = 3 then -4 else gd_mk m 3 (m 129 x)
def gd_lw (m : gw_Mem) (x : Int) : Int := if gd_lk m x < 0 then 0 else if m 117 0 ≤ m 129 x then 0 else if gw_w (m 117 16 - m 129 x) ≤ m 120 (24 + gd_lk m x) then 0 else if gd_tl m (gd_n m) < 0 then 1 else if m 129 (gd_tl m (gd_n m)) ≤ m 129 x then 0 else 1
/-- the steps of one of the people -/
def gd_up1 (m : gw_Mem) (x : Int) : gw_Mem := gw_up m 129 x (gw_w (m 129 x + 1))
def gd_wd (m : gw_Mem) (x : Int) : Int := if m 123 x = 1 then (if m 117 0 ≤ m 129 x then -4 else gd_mk m 2 (m 129 x)) else -4
def gd_fs (m : gw_Mem) (x t : Int) : Nat → gw_Mem
  | 0 => m
  | k + 1 => if m 117 16 ≤ m 129 x then m else if gd_rd m (m 129 x) t = 0 then (if m 123 x = 3 ∧ gd_lst m x (gd_n m) ≤ m 129 x then m else if gd_lw m x = 0 then (if gd_wd (gd_up1 m x) x < 0 then gd_fs (gd_up1 m x) x t k else gw_up (gd_up1 m x) 130 x (gd_up1 m x 120 (16 + gd_wd (gd_up1 m x) x))) else gw_up m 131 x (m 129 x)) else m
def gd_go (m : gw_Mem) (x t : Int) : gw_Mem := if m 123 x = 1 ∧ 0 < m 130 x then gw_up m 130 x (gw_w (m 130 x - 1)) else if m 123 x = 2 ∧ t.tmod 2 = 1 then m else gd_fs m x t (m 124 x).toNat
theorem gd_fs_wf (m : gw_Mem) (x t : Int) (k : Nat) : gd_wf m (gd_fs m x t k) := by
  induction k generalizing m with
  | zero => exact gd_wf_rfl m
  | succ k ih =>
    rw [gd_fs]
    have h1 : gd_wf m (gd_up1 m x) := gd_wf_up (gd_wf_rfl m) (by omega) _ _
    repeat' split
    all_goals first
      | exact gd_wf_rfl m
      | exact gd_wf_tr h1 (ih _)
      | exact gd_wf_up h1 (by omega) _ _
      | exact gd_wf_up (gd_wf_rfl m) (by omega) _ _
theorem gd_go_wf (m : gw_Mem) (x t : Int) : gd_wf m (gd_go m x t) := by
  unfold gd_go
  repeat' split
  all_goals first
    | exact gd_wf_rfl m
    | exact gd_wf_up (gd_wf_rfl m) (by omega) _ _
    | exact gd_fs_wf _ _ _ _
