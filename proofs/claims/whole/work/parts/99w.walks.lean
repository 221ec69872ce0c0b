/-! calls of both: the walk -/
theorem gl_ha_c {m m' : gw_Mem} (n : Nat) (h : ∀ i : Nat, i < n → m' 132 (i : Int) = m 132 (i : Int)) : gd_ha m' n = gd_ha m n := by
  induction n with
  | zero => rfl
  | succ n ih => rw [gd_ha, gd_ha, ih (fun i hi => h i (by omega)), h n (by omega)]
theorem gl_ls_c {m m' : gw_Mem} (n : Nat) (h : ∀ i : Nat, i < n → gd_lost m' i = gd_lost m i) : gd_ls m' n = gd_ls m n := by
  induction n with
  | zero => rfl
  | succ n ih => rw [gd_ls, gd_ls, ih (fun i hi => h i (by omega)), h n (by omega)]
/-- both memories have one plan -/
def gl_2 (g g' : gw_Mem) : Prop := gd_JP g ∧ gd_pq g g'
theorem gl_fate_c {g g' : gw_Mem} (h : gl_2 g g') (x w : Int) : ga_fate g' x w = ga_fate g x w := by
  obtain ⟨hJ, hq⟩ := h
  have hn := hJ.2.2.2.2.1
  have hE := gd_E_walks (N := (g 117 6).toNat) hq (by omega) (by omega)
  unfold ga_fate
  rw [hq.2.2]
  generalize gd_walks g = a at hE ⊢
  generalize gd_walks g' = b at hE ⊢
  by_cases hc : (0 ≤ x ∧ x ≤ g 117 6 - 1) ∧ 0 ≤ w ∧ w ≤ 3
  · have hx : 0 ≤ x ∧ x < ((g 117 6).toNat : Int) := by omega
    rw [if_pos hc, if_pos hc, hE.2.2.1 132 (by omega) x hx, hE.2.2.1 133 (by omega) x hx, hE.2.2.1 134 (by omega) x hx, hE.2.2.1 131 (by omega) x hx]
  · rw [if_neg hc, if_neg hc]
theorem gl_at_c {g g' : gw_Mem} (h : gl_2 g g') (t x : Int) : ga_at g' t x = ga_at g t x := by
  obtain ⟨hJ, hq⟩ := h
  have hn := hJ.2.2.2.2.1
  have hE := gd_E_walks (N := (g 117 6).toNat) hq (by omega) (by omega)
  unfold ga_at
  rw [hq.2.2]
  generalize gd_walks g = a at hE ⊢
  generalize gd_walks g' = b at hE ⊢
  by_cases hc : (0 ≤ t ∧ t ≤ 299) ∧ -2 ≤ x ∧ x ≤ g 117 6 - 1
  · rw [if_pos hc, if_pos hc]
    have hz : 0 ≤ (if x = -1 then 0 else if x = -2 then 1 else 2 + x) ∧ (if x = -1 then 0 else if x = -2 then 1 else 2 + x) < ((g 117 6).toNat : Int) + 2 := by
      split
      · omega
      · split <;> omega
    generalize (if x = -1 then 0 else if x = -2 then 1 else 2 + x) = z at hz ⊢
    exact hE.2.2.2.1 _ (by omega) (by omega) (by omega)
  · rw [if_neg hc, if_neg hc]
theorem gl_all_c {g g' : gw_Mem} (h : gl_2 g g') (w : Int) : ga_all g' w = ga_all g w := by
  obtain ⟨hJ, hq⟩ := h
  have hn := hJ.2.2.2.2.1
  have hE := gd_E_walks (N := (g 117 6).toNat) hq (by omega) (by omega)
  have hT := gd_inT_pb (N := (g 117 6).toNat) (gd_pb_pq _ hq) (by omega) (by omega) 0
  have en : gd_n g' = gd_n g := by
    unfold gd_n
    rw [hq.2.2]
  have eN : gd_n g = (g 117 6).toNat := rfl
  have e1 : gd_ha (gd_walks g') (gd_n g') = gd_ha (gd_walks g) (gd_n g) := by
    rw [en]
    exact gl_ha_c _ (fun i hi => hE.2.2.1 132 (by omega) i (by omega))
  have e2 : gd_ls (gd_walks g') (gd_n g') = gd_ls (gd_walks g) (gd_n g) := by
    rw [en]
    exact gl_ls_c _ (fun i hi => gd_E_lost hE i (by omega))
  unfold ga_all
  rw [e1, e2, hT.1, hT.2.1, hE.2.1 29 (by omega), hE.2.1 30 (by omega)]
theorem gl_best_c {g g' : gw_Mem} (h : gl_2 g g') (hJ' : gd_JP g') (t w : Int) : ga_best g' t w = ga_best g t w := by
  obtain ⟨hJ, hq⟩ := h
  have hn := hJ.2.2.2.2.1
  unfold ga_best
  rw [gd_bst_vb hJ', gd_bst_vb hJ, gd_vb_pq hq (by omega) (by omega), hq.2.2]
theorem gl_worth_c {g g' : gw_Mem} (h : gl_2 g g') (x : Int) : ga_worth g' x = ga_worth g x := by
  obtain ⟨hJ, hq⟩ := h
  have hn := hJ.2.2.2.2.1
  have hE := gd_E_walks (N := (g 117 6).toNat) hq (by omega) (by omega)
  have en : gd_n g' = gd_n g := by
    unfold gd_n
    rw [hq.2.2]
  have eN : gd_n g = (g 117 6).toNat := rfl
  have hw := gd_walks_wf g
  have hw' := gd_walks_wf g'
  have hq2 : gd_pq (gd_wq (gd_walks g) g x) (gd_wq (gd_walks g') g' x) := by
    unfold gd_wq
    refine ⟨fun o ho => ?_, ?_, ?_⟩
    · funext j
      have e0 : gd_walks g' o = gd_walks g o := by rw [hw'.1 o (by omega) (by omega), hw.1 o (by omega) (by omega), hq.1 o (by omega)]
      rw [hq.1 123 (by omega), hq.1 125 (by omega)]
      unfold gw_up
      rw [e0]
    · rw [gw_up_ne (by omega), gw_up_ne (by omega), gw_up_ne (by omega), gw_up_ne (by omega), hw'.2 0 (by omega), hw.2 0 (by omega), hq.2.1]
    · rw [gw_up_ne (by omega), gw_up_ne (by omega), gw_up_ne (by omega), gw_up_ne (by omega), hw'.2 6 (by omega), hw.2 6 (by omega), hq.2.2]
  have h6 : (gd_wq (gd_walks g) g x) 117 6 = ((g 117 6).toNat : Int) := by
    unfold gd_wq
    rw [gw_up_ne (by omega), gw_up_ne (by omega), hw.2 6 (by omega)]
    omega
  have hE2 := gd_E_walks (N := (g 117 6).toNat) hq2 h6 (by omega)
  have e1 : gd_ha (gd_walks g') (gd_n g') = gd_ha (gd_walks g) (gd_n g) := by
    rw [en]
    exact gl_ha_c _ (fun i hi => hE.2.2.1 132 (by omega) i (by omega))
  have e2 : gd_ha (gd_walks (gd_wq (gd_walks g') g' x)) (gd_n g') = gd_ha (gd_walks (gd_wq (gd_walks g) g x)) (gd_n g) := by
    rw [en]
    exact gl_ha_c _ (fun i hi => hE2.2.2.1 132 (by omega) i (by omega))
  unfold ga_worth
  rw [e1, e2, hq.2.2, hq.1 123 (by omega), hq.1 125 (by omega)]
theorem gl_wf_R {M m1 m2 : gw_Mem} (h : gl_R M m1) (he : ∀ o : Nat, 117 ≤ o → m1 o = M o) (hw : gd_wf m1 m2) : gl_R m2 m2 := by
  refine gl_R_congr h ?_ (fun o ho => hw.1 o (by omega) (by omega))
  have h17 : ∀ j : Int, ¬ (16 ≤ j ∧ j ≤ 30) → m2 117 j = M 117 j := fun j hj => by rw [hw.2 j hj, he 117 (by omega)]
  have ho : ∀ o : Nat, 118 ≤ o → ¬ (129 ≤ o ∧ o ≤ 135) → m2 o = M o := fun o h1 h2 => by rw [hw.1 o h2 (by omega), he o (by omega)]
  exact ⟨h17 0 (by omega), h17 6 (by omega), h17 12 (by omega), h17 34 (by omega), ho _ (by omega) (by omega), ho _ (by omega) (by omega), ho _ (by omega) (by omega), ho _ (by omega) (by omega), ho _ (by omega) (by omega), ho _ (by omega) (by omega), ho _ (by omega) (by omega), ho _ (by omega) (by omega), ho _ (by omega) (by omega), ho _ (by omega) (by omega), ho _ (by omega) (by omega), ho _ (by omega) (by omega), ho _ (by omega) (by omega), ho _ (by omega) (by omega)⟩
theorem gl_ft_R {M m1 : gw_Mem} (h : gl_R M M) (hW : gc_W M m1) (ho : ∀ o : Nat, o ≠ 0 → o ≠ 1 → ¬ (65 ≤ o ∧ o ≤ 100) → m1 o = M o) (hj : ∀ j : Int, j ≠ 8 → j ≠ 10 → m1 0 j = M 0 j) : gl_R M m1 ∧ (∀ o : Nat, 117 ≤ o → m1 o = M o) ∧ gl_2 M m1 ∧ gd_J m1 := by
  have he : ∀ o : Nat, 117 ≤ o → m1 o = M o := fun o h1 => ho o (by omega) (by omega) (by omega)
  exact ⟨gl_R_gen h h.1.1 (gc_P_m h.2.1 (fun o h1 h2 => ho o (by omega) (by omega) (by omega))) (gl_ps_rfl M) (fun o h1 => ho o (by omega) (by omega) (by omega)) (hj 2 (by omega) (by omega)) hW (gc_B_m h.2.2.2.2.2.2 (hj 12 (by omega) (by omega)) (ho 2 (by omega) (by omega) (by omega))), he, ⟨h.1.1, gl_per_pq (gl_x_per he)⟩, gl_per_J (gl_x_per he) h.1⟩
theorem gl_o_fate {M : gw_Mem} (h : gl_R M M) (x w : Int) : gl_Op M_X11_fate M_X12_fate [gI x, gI w] M := by
  refine ⟨20, _, by decide, sp_X11_fate M M h.1.1 h.2.1 h.2.2.2.2.2.1 x w, fun v1 m1 _ hq => ?_⟩
  obtain ⟨rfl, hW, ho, hj⟩ := hq
  obtain ⟨hR, he, h2, hJ⟩ := gl_ft_R h hW (fun o a b c => ho o a b (by omega)) hj
  refine ⟨20, _, by decide, sp_X12_fate m1 hJ.1 x w, fun v2 m2 _ hq2 => ?_⟩
  obtain ⟨rfl, hm⟩ := hq2
  refine ⟨(gl_fate_c h2 x w).symm, gl_wf_R hR he ?_⟩
  rw [hm]
  unfold gu_fate
  split
  · exact gd_walks_wf m1
  · exact gd_wf_rfl m1
theorem gl_o_at {M : gw_Mem} (h : gl_R M M) (t x : Int) : gl_Op M_X11_at M_X12_at [gI t, gI x] M := by
  refine ⟨20, _, by decide, sp_X11_at M M h.1.1 h.2.1 h.2.2.2.2.2.1 t x, fun v1 m1 _ hq => ?_⟩
  obtain ⟨rfl, hW, ho, hj⟩ := hq
  obtain ⟨hR, he, h2, hJ⟩ := gl_ft_R h hW (fun o a b c => ho o a b (by omega)) hj
  refine ⟨20, _, by decide, sp_X12_at m1 hJ.1 t x, fun v2 m2 _ hq2 => ?_⟩
  obtain ⟨rfl, hm⟩ := hq2
  refine ⟨(gl_at_c h2 t x).symm, gl_wf_R hR he ?_⟩
  rw [hm]
  unfold gu_at
  split
  · exact gd_walks_wf m1
  · exact gd_wf_rfl m1
theorem gl_o_all {M : gw_Mem} (h : gl_R M M) (w : Int) : gl_Op M_X11_all M_X12_all [gI w] M := by
  refine ⟨20, _, by decide, sp_X11_all M M h.1.1 h.2.1 h.2.2.2.2.2.1 w, fun v1 m1 _ hq => ?_⟩
  obtain ⟨rfl, hW, ho, hj⟩ := hq
  obtain ⟨hR, he, h2, hJ⟩ := gl_ft_R h hW (fun o a b c => ho o a b (by omega)) hj
  refine ⟨20, _, by decide, sp_X12_all m1 hJ.1 w, fun v2 m2 _ hq2 => ?_⟩
  obtain ⟨rfl, hm⟩ := hq2
  refine ⟨(gl_all_c h2 w).symm, gl_wf_R hR he ?_⟩
  rw [hm]
  unfold gu_all
  split
  · exact gd_walks_wf m1
  · exact gd_wf_rfl m1
theorem gl_up_id {m : gw_Mem} {o : Nat} {j : Int} : gw_up m o j (m o j) o = m o := by
  funext i
  rw [gw_up_at]
  split
  · rename_i h
    rw [h]
  · rfl
theorem gl_o_worth {M : gw_Mem} (h : gl_R M M) (x : Int) : gl_Op M_X11_worth M_X12_worth [gI x] M := by
  refine ⟨20, _, by decide, sp_X11_worth M M h.1.1 h.2.1 h.2.2.2.2.2.1 x, fun v1 m1 _ hq => ?_⟩
  obtain ⟨rfl, hW, ho, hj⟩ := hq
  obtain ⟨hR, he, h2, hJ⟩ := gl_ft_R h hW ho hj
  refine ⟨20, _, by decide, sp_X12_worth m1 hJ.1 x, fun v2 m2 _ hq2 => ?_⟩
  obtain ⟨rfl, hm⟩ := hq2
  refine ⟨(gl_worth_c h2 x).symm, gl_wf_R hR he ?_⟩
  rw [hm]
  unfold gu_worth
  split
  · split
    · exact gd_wf_rfl m1
    · have w1 := gd_walks_wf m1
      have w2 := gd_walks_wf (gd_wq (gd_walks m1) m1 x)
      generalize gd_walks (gd_wq (gd_walks m1) m1 x) = b at w2 ⊢
      generalize gd_walks m1 = a at w1 w2
      have hb : ∀ o : Nat, ¬ (129 ≤ o ∧ o ≤ 135) → o ≠ 117 → o ≠ 123 → o ≠ 125 → b o = m1 o := fun o h1 h2 h3 h4 => by
        rw [w2.1 o h1 h2]
        unfold gd_wq
        rw [gw_up_ne h4, gw_up_ne h3, w1.1 o h1 h2]
      have hb2 : ∀ (o : Nat) (j : Int), (o = 123 ∨ o = 125) → j ≠ x → b o j = m1 o j := fun o j ho hj => by
        rw [w2.1 o (by omega) (by omega)]
        unfold gd_wq gw_up
        rw [if_neg (fun z => hj z.2), if_neg (fun z => hj z.2), w1.1 o (by omega) (by omega)]
      refine ⟨fun o h1 h2 => ?_, fun j h1 => ?_⟩
      · unfold gd_wz
        by_cases h3 : o = 123
        · subst h3
          rw [gw_up_ne (by omega)]
          funext j
          rw [gw_up_at]
          split
          · rename_i hx; rw [hx]
          · rename_i hx
            exact hb2 123 j (Or.inl rfl) hx
        · by_cases h4 : o = 125
          · subst h4
            funext j
            rw [gw_up_at]
            split
            · rename_i hx; rw [hx]
            · rename_i hx
              rw [gw_up_ne (by omega)]
              exact hb2 125 j (Or.inr rfl) hx
          · rw [gw_up_ne h4, gw_up_ne h3]
            exact hb o h1 h2 h3 h4
      · unfold gd_wz
        rw [gw_up_ne (by omega), gw_up_ne (by omega), w2.2 j h1]
        unfold gd_wq
        rw [gw_up_ne (by omega), gw_up_ne (by omega), w1.2 j h1]
  · exact gd_wf_rfl m1
theorem gl_o_best {M : gw_Mem} (h : gl_R M M) (t w : Int) : gl_Op M_X11_best M_X12_best [gI t, gI w] M := by
  refine ⟨20, _, by decide, sp_X11_best M M h.1.1 h.2.1 h.2.2.2.2.2.2 t w, fun v1 m1 _ hq => ?_⟩
  obtain ⟨rfl, hB, ho, hj⟩ := hq
  have he : ∀ o : Nat, 117 ≤ o → m1 o = M o := fun o h1 => ho o (by omega) (by omega) (by omega)
  have hR : gl_R M m1 := gl_R_gen h h.1.1 (gc_P_m h.2.1 (fun o h1 h2 => ho o (by omega) (by omega) (by omega))) (gl_ps_rfl M) (fun o h1 => ho o (by omega) (by omega) (by omega)) (hj 2 (by omega)) (gc_W_m h.2.2.2.2.2.1 (hj 8 (by omega)) (hj 10 (by omega)) (ho 1 (by omega) (by omega) (by omega)) (fun o h1 => ho o (by omega) (by omega) (by omega))) hB
  have hJ : gd_J m1 := gl_per_J (gl_x_per he) h.1
  refine ⟨20, _, by decide, sp_X12_best m1 hJ.1 t w, fun v2 m2 _ hq2 => ?_⟩
  obtain ⟨rfl, hm⟩ := hq2
  refine ⟨(gl_best_c ⟨h.1.1, gl_per_pq (gl_x_per he)⟩ hJ.1 t w).symm, gl_wf_R hR he ?_⟩
  rw [hm]
  unfold gu_best
  split
  · split
    · exact gd_wf_rfl m1
    · have hw := gd_bst_wr m1 t 220
      generalize (gd_bst m1 t 220).2 = b at hw ⊢
      unfold gd_bfin
      refine ⟨fun o h1 h2 => ?_, fun j h1 => ?_⟩
      · by_cases h3 : o = 122
        · subst h3
          funext j
          rw [gw_up_at]
          split
          · rename_i hx; rw [hx]
          · rw [gw_up_at]
            split
            · rename_i hx; rw [hx]
            · rw [gw_up_at]
              split
              · rename_i hx; rw [hx]
              · exact hw.2.2 j (by omega)
        · rw [gw_up_ne h3, gw_up_ne h3, gw_up_ne h3]
          exact hw.1 o h1 h2 h3
      · rw [gw_up_ne (by omega), gw_up_ne (by omega), gw_up_ne (by omega)]
        exact hw.2.1 j h1
  · exact gd_wf_rfl m1
