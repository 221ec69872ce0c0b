/-! the walk of the reference: minutes, and what is told of them -/
def gd_br (q : gw_Mem) (i t : Int) : gw_Mem := gw_up (gw_up q 133 i (gw_w (q 133 i + (if q 129 i = q 117 16 then (if q 117 0 ≤ q 117 16 then 0 else 1) else 0)))) 134 i (if q 129 i = q 117 0 then (if 0 ≤ q 134 i then q 134 i else t) else q 134 i)
def gd_bs (m : gw_Mem) (t : Int) : Nat → Int × gw_Mem
  | 0 => (1000, m)
  | i + 1 => if gd_lost (gd_bs m t i).2 i = 0 then (if (gd_bs m t i).1 ≤ (gd_bs m t i).2 129 i then (gd_bs m t i).1 else (gd_bs m t i).2 129 i, gd_br (gd_bs m t i).2 i t) else gd_bs m t i
def gd_out (q : gw_Mem) (l : Int) : Int := if l = 1000 then -4 else gw_w (q 117 16 - l)
def gd_b2 (q : gw_Mem) (l : Int) : gw_Mem := gw_up q 117 30 (if gd_out q l ≤ q 117 30 then q 117 30 else gd_out q l)
def gd_b3 (q : gw_Mem) : gw_Mem := gw_up q 117 21 (if gd_near q (gd_n q) = gd_alive q (gd_n q) then gw_w (q 117 21 + 1) else 0)
def gd_fm (q : gw_Mem) (t o : Int) : gw_Mem := gw_up (gw_up q 135 (12 * t) (q 117 16)) 135 (12 * t + 1) o
def gd_fr (q : gw_Mem) (t : Int) : Nat → gw_Mem
  | 0 => q
  | i + 1 => gw_up (gd_fr q t i) 135 (12 * t + 2 + i) (gd_fr q t i 129 i)
def gd_bm (m : gw_Mem) (t : Int) : gw_Mem := gd_b3 (gd_b2 (gd_bs m t (gd_n m)).2 (gd_bs m t (gd_n m)).1)
def gd_bo (m : gw_Mem) (t : Int) : Int := gd_out (gd_bs m t (gd_n m)).2 (gd_bs m t (gd_n m)).1
def gd_bh (m : gw_Mem) (t : Int) : gw_Mem := gd_fr (gd_fm (gd_bm m t) t (gd_bo m t)) t (gd_n m)
theorem gd_br_wf (m : gw_Mem) (i t : Int) : gd_wf m (gd_br m i t) := gd_wf_up (gd_wf_up (gd_wf_rfl m) (by omega) _ _) (by omega) _ _
theorem gd_bs_wf (m : gw_Mem) (t : Int) (n : Nat) : gd_wf m (gd_bs m t n).2 := by
  induction n with
  | zero => exact gd_wf_rfl m
  | succ n ih =>
    rw [gd_bs]
    split
    · exact gd_wf_tr ih (gd_br_wf _ _ _)
    · exact ih
theorem gd_bm_wf (m : gw_Mem) (t : Int) : gd_wf m (gd_bm m t) := gd_wf_tr (gd_bs_wf m t _) (gd_wf_uf (gd_wf_uf (gd_wf_rfl _) (by omega) _) (by omega) _)
theorem gd_fm_wf (m : gw_Mem) (t o : Int) : gd_wf m (gd_fm m t o) := gd_wf_up (gd_wf_up (gd_wf_rfl m) (by omega) _ _) (by omega) _ _
theorem gd_fr_wf (m : gw_Mem) (t : Int) (n : Nat) : gd_wf m (gd_fr m t n) := by
  induction n with
  | zero => exact gd_wf_rfl m
  | succ n ih => exact gd_wf_up ih (by omega) _ _
theorem gd_bh_wf (m : gw_Mem) (t : Int) : gd_wf m (gd_bh m t) := gd_wf_tr (gd_bm_wf m t) (gd_wf_tr (gd_fm_wf _ _ _) (gd_fr_wf _ _ _))
def gd_st0 (m : gw_Mem) : gw_Mem := gw_up (gw_up (gw_up (gw_up (gw_up (gw_up (gw_up (gw_up (gw_up m 117 16 0) 117 17 0) 117 18 0) 117 19 0) 117 20 0) 117 21 0) 117 22 0) 117 29 (-4)) 117 30 (-4)
def gd_in1 (m : gw_Mem) (i : Int) : gw_Mem := gw_up (gw_up (gw_up (gw_up (gw_up (gw_up m 129 i 0) 130 i 0) 131 i (-4)) 132 i 0) 133 i 0) 134 i (-4)
def gd_ini (m : gw_Mem) : Nat → gw_Mem
  | 0 => m
  | i + 1 => gd_in1 (gd_ini m i) i
def gd_pp (m : gw_Mem) (t : Int) : Nat → gw_Mem
  | 0 => m
  | i + 1 => if gd_lost (gd_pp m t i) i = 0 then gd_go (gd_pp m t i) i t else gd_pp m t i
def gd_min (m : gw_Mem) (t : Int) : gw_Mem := gd_bh (gd_pp (gd_gg m t) t (gd_n m)) t
def gd_run (m : gw_Mem) : Nat → gw_Mem
  | 0 => m
  | k + 1 => gd_min (gd_run m k) k
def gd_beg (m : gw_Mem) : gw_Mem := gd_ini (gd_st0 m) (gd_n m)
def gd_walks (m : gw_Mem) : gw_Mem := gd_run (gd_beg m) 300
theorem gd_st0_wf (m : gw_Mem) : gd_wf m (gd_st0 m) := by
  unfold gd_st0
  repeat (first | exact gd_wf_rfl m | refine gd_wf_uf ?_ (by omega) _)
theorem gd_in1_wf (m : gw_Mem) (i : Int) : gd_wf m (gd_in1 m i) := by
  unfold gd_in1
  repeat (first | exact gd_wf_rfl m | refine gd_wf_up ?_ (by omega) _ _)
theorem gd_ini_wf (m : gw_Mem) (n : Nat) : gd_wf m (gd_ini m n) := by
  induction n with
  | zero => exact gd_wf_rfl m
  | succ n ih => exact gd_wf_tr ih (gd_in1_wf _ _)
theorem gd_pp_wf (m : gw_Mem) (t : Int) (n : Nat) : gd_wf m (gd_pp m t n) := by
  induction n with
  | zero => exact gd_wf_rfl m
  | succ n ih =>
    rw [gd_pp]
    split
    · exact gd_wf_tr ih (gd_go_wf _ _ _)
    · exact ih
theorem gd_min_wf (m : gw_Mem) (t : Int) : gd_wf m (gd_min m t) := gd_wf_tr (gd_gg_wf m t) (gd_wf_tr (gd_pp_wf _ t _) (gd_bh_wf _ t))
theorem gd_run_wf (m : gw_Mem) (n : Nat) : gd_wf m (gd_run m n) := by
  induction n with
  | zero => exact gd_wf_rfl m
  | succ n ih => exact gd_wf_tr ih (gd_min_wf _ _)
theorem gd_beg_wf (m : gw_Mem) : gd_wf m (gd_beg m) := gd_wf_tr (gd_st0_wf m) (gd_ini_wf _ _)
theorem gd_walks_wf (m : gw_Mem) : gd_wf m (gd_walks m) := gd_wf_tr (gd_beg_wf m) (gd_run_wf _ _)
