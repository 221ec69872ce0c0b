/-! the class: a minute, and the start of a walk -/
theorem gd_fs_ne (g : gw_Mem) (x t : Int) (k : Nat) : ∀ o : Nat, ¬ (129 ≤ o ∧ o ≤ 131) → gd_fs g x t k o = g o := by
  induction k generalizing g with
  | zero => exact fun _ _ => rfl
  | succ k ih =>
    intro o ho
    rw [gd_fs]
    have hu : gd_up1 g x o = g o := gw_up_ne (by omega)
    repeat' split
    all_goals first
      | rfl
      | exact (ih _ o ho).trans hu
      | (rw [gw_up_ne (by omega)]; exact hu)
      | exact gw_up_ne (by omega)
theorem gd_go_ne (g : gw_Mem) (x t : Int) : ∀ o : Nat, ¬ (129 ≤ o ∧ o ≤ 131) → gd_go g x t o = g o := by
  intro o ho
  unfold gd_go
  repeat' split
  all_goals first
    | rfl
    | exact gw_up_ne (by omega)
    | exact gd_fs_ne _ _ _ _ o ho
theorem gd_pp_ne (g : gw_Mem) (t : Int) (n : Nat) : ∀ o : Nat, ¬ (129 ≤ o ∧ o ≤ 131) → gd_pp g t n o = g o := by
  induction n with
  | zero => exact fun _ _ => rfl
  | succ n ih =>
    intro o ho
    rw [gd_pp]
    split
    · rw [gd_go_ne _ _ _ o ho, ih o ho]
    · exact ih o ho
/-- she is at the end just when it is known since when -/
def gd_W (g : gw_Mem) : Prop := g 117 29 < 0 ↔ g 117 16 < g 117 0
def gc_Y (g m : gw_Mem) (b : Nat) : Prop := gc_Z g m b ∧ gd_W g
theorem gd_kA_29 (g : gw_Mem) (k : Int) : (gd_kA g k).2 117 29 = g 117 29 := by
  unfold gd_kA gd_done
  repeat' split
  all_goals first
    | rfl
    | (show gd_spk _ _ 117 29 = _; rw [gd_spk_ne _ _ (by omega), gw_up_at, if_neg (by omega)])
    | (show gw_up g 117 _ _ 117 29 = _; rw [gw_up_at, if_neg (by omega)])
theorem gd_kp_29 (g : gw_Mem) : (gd_kp g).2 117 29 = g 117 29 := by
  unfold gd_kp
  repeat' split
  · rw [gd_kA_29]
    unfold gd_bgm
    rw [gw_up_at, if_neg (by omega), gw_up_at, if_neg (by omega)]
  · exact gd_kA_29 _ _
  · rfl
theorem gd_kA_30 (g : gw_Mem) (k : Int) : (gd_kA g k).2 117 30 = g 117 30 := by
  unfold gd_kA gd_done
  repeat' split
  all_goals first
    | rfl
    | (show gd_spk _ _ 117 30 = _; rw [gd_spk_ne _ _ (by omega), gw_up_at, if_neg (by omega)])
    | (show gw_up g 117 _ _ 117 30 = _; rw [gw_up_at, if_neg (by omega)])
theorem gd_kp_30 (g : gw_Mem) : (gd_kp g).2 117 30 = g 117 30 := by
  unfold gd_kp
  repeat' split
  · rw [gd_kA_30]
    unfold gd_bgm
    rw [gw_up_at, if_neg (by omega), gw_up_at, if_neg (by omega)]
  · exact gd_kA_30 _ _
  · rfl
theorem gd_gs_at (g : gw_Mem) (t : Int) (k : Nat) : (∀ o : Nat, o ≠ 117 → gd_gs g t k o = g o) ∧ ∀ j : Int, j ≠ 16 → gd_gs g t k 117 j = g 117 j := by
  induction k generalizing g with
  | zero => exact ⟨fun _ _ => rfl, fun _ _ => rfl⟩
  | succ k ih =>
    rw [gd_gs]
    repeat' split
    all_goals first
      | exact ⟨fun _ _ => rfl, fun _ _ => rfl⟩
      | exact ⟨fun o ho => ((ih _).1 o ho).trans (gw_up_ne ho), fun j hj => ((ih _).2 j hj).trans (by rw [gw_up_at, if_neg hj])⟩
/-- what her minute leaves of the guide's own -/
theorem gd_gg_fin (g : gw_Mem) (t : Int) (hlt : g 117 16 < g 117 0) : gd_gg g t 117 30 = g 117 30 ∧ (gd_gg g t 117 29 = (if gd_gg g t 117 16 = g 117 0 then t else g 117 29)) := by
  rw [gd_gg, if_neg (by omega)]
  by_cases h : (gd_kp g).1 = 0
  · rw [if_pos h]
    unfold gd_gA
    have hk := gd_kp_wf g
    generalize hq : (gd_kp g).2 = q at hk
    have q29 : q 117 29 = g 117 29 := by rw [← hq]; exact gd_kp_29 g
    have q30 : q 117 30 = g 117 30 := by rw [← hq]; exact gd_kp_30 g
    have hs := gd_gs_at q t (q 122 0).toNat
    generalize gd_gs q t (q 122 0).toNat = s at hs
    have hc : ∀ j : Int, ¬ (17 ≤ j ∧ j ≤ 21) → (if s 117 16 = q 117 16 then s else gd_clr s) 117 j = s 117 j := by
      intro j hj
      split
      · rfl
      · exact (gd_clr_at s).2.1 j hj
    generalize (if s 117 16 = q 117 16 then s else gd_clr s) = u at hc
    unfold gd_ar
    simp only [gw_up_at]
    rw [if_neg (show ¬ ((30 : Int) = 29) by omega), if_neg (show ¬ ((16 : Int) = 29) by omega), hc 30 (by omega), hc 16 (by omega), hc 0 (by omega), hc 29 (by omega), hs.2 30 (by omega), hs.2 29 (by omega), hs.2 0 (by omega), q29, q30, hk.2 0 (by omega)]
    exact ⟨rfl, by simp⟩
  · rw [if_neg h, gd_kp_30, gd_kp_29, gd_kp_16, if_neg (by omega)]
    exact ⟨rfl, rfl⟩
theorem sp_X10_live (b : Nat) (hb : gw_isWalk b) (g m : gw_Mem) (t : Int) (ht : 0 ≤ t) (h : gc_Y g m b) : gw_SpecV M_X10_live 14 [gR b, gI t] m (fun m' => gc_Y (gd_min g t) m' b ∧ gc_fw b m m') := by
  refine gw_intro pl_X10_live rfl (fun Γ => ?_)
  obtain ⟨⟨hQ, h5, h6, h9⟩, hW⟩ := h
  have hJ := hQ.1
  have hnc := gd_n_cast hJ
  have hgw := gd_gg_wf g t
  -- behind the guide's minute
  have ppl : ∀ m1 : gw_Mem, gc_Q (gd_gg g t) m1 b → gc_fr b m m1 → ((if g 117 0 ≤ gd_gg g t 117 16 ∧ m b 5 < 0 then t else m b 5) = gd_gg g t 117 29) → gd_gg g t 117 30 = g 117 30 → gd_W (gd_gg g t) → gw_G M_X10_live 14 (fun r m' => r = none ∧ gc_Y (gd_min g t) m' b ∧ gc_fw b m m') Γ 19 [some (gR b), some (gI t), none] [] m1 := by
    intro m1 hQ1 hf1 e5 e30 hW1
    have key : ∀ (j i : Nat) (mm : gw_Mem), i + j = gd_n g → gc_Q (gd_pp (gd_gg g t) t i) mm b → gc_fr b m mm → gw_G M_X10_live 14 (fun r m' => r = none ∧ gc_Y (gd_min g t) m' b ∧ gc_fw b m m') Γ 21 [some (gR b), some (gI t), some (gI (i : Int))] [] mm := by
      intro j
      induction j with
      | zero =>
        intro i mm hi hQm hf
        apply r_X10_live_21 b hb
        have ei : i = gd_n g := by omega
        subst ei
        have pne := gd_pp_ne (gd_gg g t) t (gd_n g)
        have p117 : gd_pp (gd_gg g t) t (gd_n g) 117 = gd_gg g t 117 := pne 117 (by omega)
        have g0 : gd_gg g t 117 0 = g 117 0 := hgw.2 0 (by omega)
        rw [hQm.2.2.1.2.2.1, p117, hgw.2 6 (by omega)]
        refine ⟨fun _ => ?_, fun z => absurd (by omega) z⟩
        refine gw_CV.of (sp_X10_closeMinute b hb _ mm t hQm ?_ ?_) rfl (fun m' _ hm' => ⟨rfl, ⟨hm'.1, ?_⟩, fun o ho => ?_⟩)
        · rw [p117, g0, hf.2 5 (by omega) (by omega)]; exact e5
        · rw [p117, hf.2 6 (by omega) (by omega), e30]; exact h6
        · have bn : ∀ j : Int, j ≠ 21 → j ≠ 30 → gd_min g t 117 j = gd_gg g t 117 j := by
            intro j h1 h2
            unfold gd_min
            rw [gd_bh_ne _ t (by omega)]
            unfold gd_bm gd_b3 gd_b2
            rw [gw_up_at, if_neg h1, gw_up_at, if_neg h2, gd_bs_ne _ t _ 117 (by omega) (by omega), p117]
          unfold gd_W at hW1 ⊢
          rw [bn 29 (by omega) (by omega), bn 16 (by omega) (by omega), bn 0 (by omega) (by omega)]
          exact hW1
        · rw [hm'.2 o ho, hf.1 o ho]
      | succ j ih =>
        intro i mm hi hQm hf
        apply r_X10_live_21 b hb
        have pne := gd_pp_ne (gd_gg g t) t i
        have p117 : gd_pp (gd_gg g t) t i 117 = gd_gg g t 117 := pne 117 (by omega)
        have p6 : gd_pp (gd_gg g t) t i 117 6 = g 117 6 := by rw [p117]; exact hgw.2 6 (by omega)
        have hin : gw_in (i : Int) 10 := gw_inm (by omega) (by omega)
        have ro := gc_ro hQm.2.2.2.1 (j := (i : Int)) (by omega)
        rw [hQm.2.2.1.2.2.1, p6, ro.2.2.2.2.2]
        have h1 := ih (i + 1)
        rw [gd_pp] at h1
        refine ⟨fun z => absurd z (by omega), fun _ => ⟨hin, fun h2 => ?_, fun h2 => ?_⟩⟩
        · apply r_X10_live_47 b hb
          rw [gw_w1 (by omega)]
          rw [if_neg (by rw [gd_lostz]; omega)] at h1
          exact h1 mm (by omega) hQm hf
        · rw [if_pos (by rw [gd_lostz]; omega)] at h1
          refine gw_CV.of (sp_X10_follow b hb _ mm i t (by omega) (by omega) hQm) rfl (fun m' _ hm' => ?_)
          apply r_X10_live_47 b hb
          rw [gw_w1 (by omega)]
          exact h1 m' (by omega) hm'.1 (gc_fr_tr hf hm'.2)
    apply r_X10_live_19 b hb
    exact key (gd_n g) 0 m1 (by omega) hQ1 hf1
  apply r_X10_live_0 b hb
  have h4 : m b 4 = g 117 16 := hQ.2.2.2.2.2.2.1
  have hg := hQ.2.1.1
  rw [hQ.2.2.1.1, h4]
  unfold gd_W at hW
  refine ⟨fun h1 => ?_, fun h1 => ?_⟩
  · have e : gd_gg g t = g := by rw [gd_gg, if_pos (by omega)]
    refine ppl m (by rw [e]; exact hQ) (gc_fr_rfl b m) ?_ (by rw [e]) (by rw [e]; exact hW)
    rw [e, h5, if_neg (by omega)]
  · refine gw_CV.of (sp_X10_lead b hb g m t hQ (by omega)) rfl (fun m' _ hm' => ?_)
    have hfin := gd_gg_fin g t (by omega)
    have hg' := hm'.1.2.1.1
    have g0 : gd_gg g t 117 0 = g 117 0 := hgw.2 0 (by omega)
    refine ppl m' hm'.1 hm'.2 ?_ hfin.1 ?_
    · rw [hfin.2, h5]
      split <;> split <;> omega
    · unfold gd_W
      rw [hfin.2, g0]
      split <;> omega
