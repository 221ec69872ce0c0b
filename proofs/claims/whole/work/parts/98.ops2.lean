/-! calls of both: texts, sheets, images -/
theorem gl_ty_x (w : Int) (n : Nat) : ∀ lo g : gw_Mem, gd_ty w n (gl_x lo g) = gl_x lo (gd_ty w n g) := by
  induction n with
  | zero => intro lo g; rfl
  | succ n ih =>
    intro lo g
    show gd_ty w n (gw_up (gw_up (gl_x lo g) 127 (g 117 12) (gd_by w n)) 117 12 (g 117 12 + 1)) = gl_x lo (gd_ty w n (gw_up (gw_up g 127 (g 117 12) (gd_by w n)) 117 12 (g 117 12 + 1)))
    rw [gl_x_up (by omega), gl_x_up (by omega), ih]
theorem gl_o_type {M : gw_Mem} (h : gl_R M M) (w n : Int) : gl_Op M_X11_type M_X12_type [gL w, gI n] M := by
  refine gl_fun (fun g => ga_type g w n) (fun g => gu_type g w n) (sp_X11_type M M h.1.2.1 h.2.2.1 w n) (fun hJ => sp_X12_type w n _ hJ.2.1) (by decide) (by decide) h.1 (fun o ho => ?_) (fun lo => rfl) (fun lo => ?_) ?_
  · unfold cu_type
    split
    · split
      · split
        · exact gc_ty_ne _ _ _ _ (by omega) (by omega)
        · rfl
      · rfl
    · rfl
  · have e0 : gu_type (gl_x lo M) w n = if 1 ≤ n ∧ n ≤ 8 then (if gd_tok w n.toNat = true then (if M 117 12 + n ≤ 80 then gd_ty w n.toNat (gl_x lo M) else gl_x lo M) else gl_x lo M) else gl_x lo M := rfl
    show gu_type (gl_x lo M) w n = gl_x lo (gu_type M w n)
    rw [e0, gl_ty_x]
    unfold gu_type
    split
    · split
      · split <;> rfl
      · rfl
    · rfl
  · show gl_R (gu_type M w n) (cu_type M M w n)
    unfold gu_type cu_type
    split
    · rename_i hn
      split
      · rename_i hk
        split
        · rename_i hl
          obtain ⟨⟨j1, j2, j3, j4⟩, r1, r2, r3, r4, r5, r6⟩ := h
          have hne : ∀ o : Nat, o ≠ 127 → o ≠ 117 → gd_ty w n.toNat M o = M o := fun o h1 h2 => funext fun j => gd_ty_ne w n.toNat M o j ⟨h1, fun z => absurd z h2⟩
          have hj : ∀ j : Int, j ≠ 12 → gd_ty w n.toNat M 117 j = M 117 j := fun j hj => gd_ty_ne w n.toNat M 117 j ⟨by omega, fun _ => hj⟩
          have hm : ∀ o : Nat, o ≠ 46 → o ≠ 47 → gc_ty w n.toNat M o = M o := fun o h1 h2 => gc_ty_ne w n.toNat M o h1 h2
          have hq : gd_pq M (gd_ty w n.toNat M) := ⟨fun o ho => hne o (by omega) (by omega), hj 0 (by omega), hj 6 (by omega)⟩
          have e1 := hj 0 (by omega)
          have e2 := hj 6 (by omega)
          have hn2 : ((n.toNat : Nat) : Int) = n := Int.toNat_of_nonneg (by omega)
          refine ⟨⟨gd_JP_congr j1 e1 e2 (hne _ (by omega) (by omega)) (hne _ (by omega) (by omega)) (hne _ (by omega) (by omega)) (hne _ (by omega) (by omega)) (hne _ (by omega) (by omega)) (hne _ (by omega) (by omega)) (hne _ (by omega) (by omega)) (hne _ (by omega) (by omega)) (hne _ (by omega) (by omega)), gd_JT_ty w _ M j2 hk (by rw [hn2]; exact hl), gd_JI_congr j3 (hj 34 (by omega)) (hne _ (by omega) (by omega)), gd_JS_congr j4 (hne _ (by omega) (by omega)) (hne _ (by omega) (by omega))⟩, ?_, gc_T_ty w _ M M r2 j2.1.1, gc_I_congr r3 (by rw [hm 0 (by omega) (by omega)]) (fun o h1 h2 => hm o (by omega) (by omega)) (hj 34 (by omega)) (hne _ (by omega) (by omega)), gc_S_congr r4 (fun o h1 h2 => hm o (by omega) (by omega)) (hne _ (by omega) (by omega)) (hne _ (by omega) (by omega)) (hne _ (by omega) (by omega)), gc_W_m (gc_W_pq j1 r5 hq) (by rw [hm 0 (by omega) (by omega)]) (by rw [hm 0 (by omega) (by omega)]) (hm 1 (by omega) (by omega)) (fun o ho => hm o (by omega) (by omega)), gc_B_m (gc_B_pq j1 r6 hq) (by rw [hm 0 (by omega) (by omega)]) (hm 2 (by omega) (by omega))⟩
          exact gc_P_congr r1 (fun o h1 h2 => hm o (by omega) (by omega)) e1 e2 (hne _ (by omega) (by omega)) (hne _ (by omega) (by omega)) (hne _ (by omega) (by omega)) (hne _ (by omega) (by omega)) (hne _ (by omega) (by omega)) (hne _ (by omega) (by omega)) (hne _ (by omega) (by omega)) (hne _ (by omega) (by omega)) (hne _ (by omega) (by omega))
        · exact h
      · exact h
    · exact h
/-- what a change of sheets leaves -/
theorem gl_R_S {g m g' m' : gw_Mem} (h : gl_R g m) (hg : ∀ o : Nat, 117 ≤ o → o < 138 → g' o = g o) (hm : ∀ o : Nat, o < 109 → m' o = m o) (hJ : gd_JS g') (hS : gc_S g' m') : gl_R g' m' := by
  obtain ⟨⟨j1, j2, j3, j4⟩, r1, r2, r3, r4, r5, r6⟩ := h
  have hq : gd_pq g g' := ⟨fun o ho => hg o (by omega) (by omega), by rw [hg 117 (by omega) (by omega)], by rw [hg 117 (by omega) (by omega)]⟩
  have h17 := hg 117 (by omega) (by omega)
  refine ⟨⟨gd_JP_congr j1 ?_ ?_ ?_ ?_ ?_ ?_ ?_ ?_ ?_ ?_ ?_, gd_JT_congr j2 ?_ ?_, gd_JI_congr j3 ?_ ?_, hJ⟩, gc_P_congr r1 (fun o h1 h2 => hm o (by omega)) ?_ ?_ ?_ ?_ ?_ ?_ ?_ ?_ ?_ ?_ ?_, gc_T_congr r2 (hm 46 (by omega)) (hm 47 (by omega)) ?_ ?_, gc_I_congr r3 (by rw [hm 0 (by omega)]) (fun o h1 h2 => hm o (by omega)) ?_ ?_, hS, gc_W_m (gc_W_pq j1 r5 hq) (by rw [hm 0 (by omega)]) (by rw [hm 0 (by omega)]) (hm 1 (by omega)) (fun o ho => hm o (by omega)), gc_B_m (gc_B_pq j1 r6 hq) (by rw [hm 0 (by omega)]) (hm 2 (by omega))⟩ <;> first | exact hg _ (by omega) (by omega) | rw [h17]
theorem gl_o_sheet {M : gw_Mem} (h : gl_R M M) (s l n : Int) : gl_Op M_X11_sheet M_X12_sheet [gI s, gI l, gI n] M := by
  have hm : ∀ o : Nat, (o < 109 ∨ 117 ≤ o) → cu_sheet M s l n o = M o := fun o ho => by
    unfold cu_sheet
    split
    · split
      · rw [gw_fill_ne (by omega), gw_up_ne (by omega), gw_up_ne (by omega)]
      · rfl
    · rfl
  refine gl_fun (fun _ => ga_sheet s l n) (fun g => gu_sheet g s l n) (sp_X11_sheet M s l n) (fun _ => sp_X12_sheet s l n _) (by decide) (by decide) h.1 (fun o ho => hm o (by omega)) (fun lo => rfl) (fun lo => ?_) ?_
  · show gu_sheet _ s l n = gl_x lo (gu_sheet M s l n)
    unfold gu_sheet
    split
    · split
      · rw [gl_x_up (by omega), gl_x_up (by omega), gl_x_fill (by omega)]
      · rfl
    · rfl
  · refine gl_R_S h (fun o h1 h2 => ?_) (fun o ho => hm o (by omega)) (gd_JS_sheet h.1.2.2.2 s l n) (gc_S_sheet h.2.2.2.2.1 s l n)
    show gu_sheet M s l n o = M o
    unfold gu_sheet
    split
    · split
      · rw [gw_fill_ne (by omega), gw_up_ne (by omega), gw_up_ne (by omega)]
      · rfl
    · rfl
theorem gl_o_drop {M : gw_Mem} (h : gl_R M M) (s : Int) : gl_Op M_X11_drop M_X12_drop [gI s] M := by
  have hm : ∀ o : Nat, (o < 109 ∨ 117 ≤ o) → cu_drop M M s o = M o := fun o ho => by
    unfold cu_drop
    split
    · split
      · rw [gw_up_ne (by omega)]
      · rfl
    · rfl
  refine gl_fun (fun g => ga_drop g s) (fun g => gu_drop g s) (sp_X11_drop M M h.1.2.2.2 h.2.2.2.2.1 s) (fun _ => sp_X12_drop s _) (by decide) (by decide) h.1 (fun o ho => hm o (by omega)) (fun lo => rfl) (fun lo => ?_) ?_
  · have e0 : gu_drop (gl_x lo M) s = if 0 ≤ s ∧ s ≤ 3 then (if 0 ≤ M 138 s then gw_up (gl_x lo M) 138 s (-1) else gl_x lo M) else gl_x lo M := rfl
    show gu_drop (gl_x lo M) s = gl_x lo (gu_drop M s)
    rw [e0, gl_x_up (by omega)]
    unfold gu_drop
    split
    · split <;> rfl
    · rfl
  · refine gl_R_S h (fun o h1 h2 => ?_) (fun o ho => hm o (by omega)) (gd_JS_drop h.1.2.2.2 s) (gc_S_drop h.2.2.2.2.1 s)
    show gu_drop M s o = M o
    unfold gu_drop
    split
    · split
      · rw [gw_up_ne (by omega)]
      · rfl
    · rfl
theorem gl_o_item {M : gw_Mem} (h : gl_R M M) (s l i v : Int) : gl_Op M_X11_item M_X12_item [gI s, gI l, gI i, gI v] M := by
  have hm : ∀ o : Nat, (o < 109 ∨ 117 ≤ o) → cu_item M M s l i v o = M o := fun o ho => by
    unfold cu_item
    split
    · split
      · rw [gw_up_ne (by omega)]
      · rfl
    · rfl
  have hg : ∀ o : Nat, 117 ≤ o → o ≠ 140 → gu_item M s l i v o = M o := fun o h1 h2 => by
    unfold gu_item
    split
    · split
      · rw [gw_up_ne h2]
      · rfl
    · rfl
  refine gl_fun (fun g => ga_item g s l i) (fun g => gu_item g s l i v) (sp_X11_item M M h.1.2.2.2 h.2.2.2.2.1 s l i v) (fun hJ => sp_X12_item s l i v _ hJ.2.2.2) (by decide) (by decide) h.1 (fun o ho => hm o (by omega)) (fun lo => rfl) (fun lo => ?_) ?_
  · have e0 : gu_item (gl_x lo M) s l i v = if (0 ≤ s ∧ s ≤ 3) ∧ 0 ≤ l ∧ l ≤ 2 then (if 0 ≤ gd_fd M s l i 1 then gw_up (gl_x lo M) 140 (24 * s + i) (gd_nar l v) else gl_x lo M) else gl_x lo M := rfl
    show gu_item (gl_x lo M) s l i v = gl_x lo (gu_item M s l i v)
    rw [e0, gl_x_up (by omega)]
    unfold gu_item
    split
    · split <;> rfl
    · rfl
  · exact gl_R_S h (fun o h1 h2 => hg o h1 (by omega)) (fun o ho => hm o (by omega)) (gd_JS_congr h.1.2.2.2 (hg _ (by omega) (by omega)) (hg _ (by omega) (by omega))) (gc_S_item h.1.2.2.2 h.2.2.2.2.1 s l i v)
theorem gl_o_copy {M : gw_Mem} (h : gl_R M M) (a i b j n : Int) : gl_Op M_X11_copy M_X12_copy [gI a, gI i, gI b, gI j, gI n] M := by
  have hm : ∀ o : Nat, (o < 109 ∨ 117 ≤ o) → cu_copy M M a i b j n o = M o := fun o ho => by
    unfold cu_copy
    split
    · rename_i hc
      have hab : (0 ≤ a ∧ a ≤ 3) ∧ 0 ≤ b ∧ b ≤ 3 := by
        unfold ga_copy at hc
        by_cases hz : (0 ≤ a ∧ a ≤ 3) ∧ 0 ≤ b ∧ b ≤ 3
        · exact hz
        · rw [if_neg hz] at hc
          omega
      rw [gw_cp_ne (by omega)]
    · rfl
  refine ⟨13, _, by decide, sp_X11_copy M M h.1.2.2.2 h.2.2.2.2.1 a i b j n, fun v1 m1 _ hq => ?_⟩
  obtain ⟨rfl, rfl⟩ := hq
  have he : ∀ o : Nat, 117 ≤ o → cu_copy M M a i b j n o = M o := fun o ho => hm o (by omega)
  have hx := gl_x_eq he
  have hJ : gd_J (cu_copy M M a i b j n) := gl_per_J (gl_x_per he) h.1
  refine ⟨12, _, by decide, sp_X12_copy a i b j n _ hJ.2.2.2, fun v2 m2 _ hq2 => ?_⟩
  obtain ⟨rfl, h2, h3⟩ := hq2
  have ega : ga_copy (cu_copy M M a i b j n) a i b j n = ga_copy M a i b j n := by
    rw [hx]
    rfl
  refine ⟨ega.symm, ?_⟩
  have h138 : m2 138 = M 138 := (h2 138 (by omega) (by omega)).trans (he 138 (by omega))
  have h139 : m2 139 = M 139 := (h2 139 (by omega) (by omega)).trans (he 139 (by omega))
  have h140 : m2 140 = (if 0 ≤ ga_copy M a i b j n then gu_copy M a i b j n 140 else M 140) := by
    rw [h3, ega, he 140 (by omega)]
    split
    · unfold gu_copy
      rw [hx, gl_x_cp (by omega) (by omega), gl_x_hi (by omega)]
    · rfl
  have hSc := gc_S_copy h.1.2.2.2 h.2.2.2.2.1 a i b j n h138 h139 h140
  have hS2 : gc_S m2 m2 := gc_S_congr hSc (fun o h4 h5 => h2 o (by omega) (by omega)) rfl rfl rfl
  exact gl_R_S h (fun o h4 h5 => (h2 o (by omega) (by omega)).trans (he o (by omega))) (fun o ho => (h2 o (by omega) (by omega)).trans (hm o (by omega))) (gd_JS_congr h.1.2.2.2 h138 h139) hS2
theorem gl_o_image {M : gw_Mem} (h : gl_R M M) : gl_Op M_X11_image M_X12_image [] M := by
  have hm : ∀ o : Nat, o ≠ 0 → (o < 25 ∨ 46 ≤ o) → gw_up (gc_pl M 25 4) 0 2 1 o = M o := fun o h1 h2 => by
    rw [gw_up_ne h1, gc_pl_ne (by omega)]
  have hm0 : ∀ j : Int, j ≠ 2 → gw_up (gc_pl M 25 4) 0 2 1 0 j = M 0 j := fun j hj => by
    rw [gw_up_at, if_neg hj, gc_pl_ne (by omega)]
  obtain ⟨n1, n2, n3⟩ := gu_image_ne M
  refine gl_fun (fun _ => 1) (fun g => gu_image g) (sp_X11_image M) (fun _ => sp_X12_image _) (by decide) (by decide) h.1 (fun o ho => hm o (by omega) (by omega)) (fun lo => rfl) (fun lo => ?_) ?_
  · show gu_image (gl_x lo M) = gl_x lo (gu_image M)
    unfold gu_image gu_image0
    rw [gl_x_cp (by omega) (by omega), gl_x_cp (by omega) (by omega), gl_x_cp (by omega) (by omega), gl_x_cp (by omega) (by omega), gl_x_cp (by omega) (by omega), gl_x_cp (by omega) (by omega), gl_x_cp (by omega) (by omega), gl_x_cp (by omega) (by omega), gl_x_cp (by omega) (by omega), gl_x_up (by omega), gl_x_up (by omega), gl_x_up (by omega)]
    rfl
  · show gl_R (gu_image M) (gw_up (gc_pl M 25 4) 0 2 1)
    obtain ⟨⟨j1, j2, j3, j4⟩, r1, r2, r3, r4, r5, r6⟩ := h
    have hq : gd_pq M (gu_image M) := ⟨fun o ho => n1 o (by omega) (by omega), n2 0 (by omega), n2 6 (by omega)⟩
    have hP25 : gc_P (gd_img (gu_image M)) (gw_up (gc_pl M 25 4) 0 2 1) 25 := gc_P_m (gc_P_ag j1 (gc_pl_P j1 r1 (by omega)) (gd_img_ag M)) (fun o h1 h2 => gw_up_ne (by omega))
    refine ⟨⟨gd_JP_congr j1 (n2 0 (by omega)) (n2 6 (by omega)) (n1 _ (by omega) (by omega)) (n1 _ (by omega) (by omega)) (n1 _ (by omega) (by omega)) (n1 _ (by omega) (by omega)) (n1 _ (by omega) (by omega)) (n1 _ (by omega) (by omega)) (n1 _ (by omega) (by omega)) (n1 _ (by omega) (by omega)) (n1 _ (by omega) (by omega)), gd_JT_congr j2 (n2 12 (by omega)) (n1 _ (by omega) (by omega)), ⟨by rw [n3]; exact Or.inr rfl, fun _ => gd_JP_ag j1 (gd_img_ag M)⟩, gd_JS_congr j4 (n1 _ (by omega) (by omega)) (n1 _ (by omega) (by omega))⟩, ?_, gc_T_congr r2 (hm 46 (by omega) (by omega)) (hm 47 (by omega) (by omega)) (n2 12 (by omega)) (n1 _ (by omega) (by omega)), ⟨by rw [n3]; rfl, fun _ => hP25⟩, gc_S_congr r4 (fun o h1 h2 => hm o (by omega) (by omega)) (n1 _ (by omega) (by omega)) (n1 _ (by omega) (by omega)) (n1 _ (by omega) (by omega)), gc_W_m (gc_W_pq j1 r5 hq) (hm0 8 (by omega)) (hm0 10 (by omega)) (hm 1 (by omega) (by omega)) (fun o ho => hm o (by omega) (by omega)), gc_B_m (gc_B_pq j1 r6 hq) (hm0 12 (by omega)) (hm 2 (by omega) (by omega))⟩
    exact gc_P_congr r1 (fun o h1 h2 => hm o (by omega) (by omega)) (n2 0 (by omega)) (n2 6 (by omega)) (n1 _ (by omega) (by omega)) (n1 _ (by omega) (by omega)) (n1 _ (by omega) (by omega)) (n1 _ (by omega) (by omega)) (n1 _ (by omega) (by omega)) (n1 _ (by omega) (by omega)) (n1 _ (by omega) (by omega)) (n1 _ (by omega) (by omega)) (n1 _ (by omega) (by omega))
theorem gl_o_restore {M : gw_Mem} (h : gl_R M M) : gl_Op M_X11_restore M_X12_restore [] M := by
  have h02 : M 0 2 = M 117 34 := h.2.2.2.1.1
  have h1 := sp_X11_restore M
  rw [h02] at h1
  refine gl_fun (fun g => if g 117 34 = 0 then -4 else 1) (fun g => if g 117 34 = 0 then g else gu_restore g) h1 (fun _ => sp_X12_restore _) (by decide) (by decide) h.1 (fun o ho => ?_) (fun lo => rfl) (fun lo => ?_) ?_
  · split
    · rfl
    · rw [gl_fg_hi ho, gc_pl_ne (by omega)]
  · show (if M 117 34 = 0 then gl_x lo M else gu_restore (gl_x lo M)) = gl_x lo (if M 117 34 = 0 then M else gu_restore M)
    have e1 : gu_restore (gl_x lo M) = gl_x lo (gu_restore M) := by
      unfold gu_restore
      rw [gl_x_cp (by omega) (by omega), gl_x_cp (by omega) (by omega), gl_x_cp (by omega) (by omega), gl_x_cp (by omega) (by omega), gl_x_cp (by omega) (by omega), gl_x_cp (by omega) (by omega), gl_x_cp (by omega) (by omega), gl_x_cp (by omega) (by omega), gl_x_cp (by omega) (by omega), gl_x_up (by omega), gl_x_up (by omega)]
      rfl
    rw [e1]
    split <;> rfl
  · show gl_R (if M 117 34 = 0 then M else gu_restore M) (if M 117 34 = 0 then M else gc_fg (gc_pl M 4 25))
    by_cases hz : M 117 34 = 0
    · rw [if_pos hz, if_pos hz]
      exact h
    · rw [if_neg hz, if_neg hz]
      have h34 : M 117 34 = 1 := by
        rcases h.1.2.2.1.1 with z | z
        · exact absurd z hz
        · exact z
      have hJi := h.1.2.2.1.2 h34
      have hPi := h.2.2.2.1.2 h34
      obtain ⟨n1, n2⟩ := gu_restore_ne M
      exact gl_R_fg h (gd_JP_ag hJi (gd_restore_ag M)) (gc_P_ag hJi (gc_pl_P hJi hPi (by omega)) (gd_restore_ag M)) ⟨n2 12 (by omega) (by omega), n1 127 (by omega) (by omega), n2 34 (by omega) (by omega), n1 137 (by omega) (by omega), n1 138 (by omega) (by omega), n1 139 (by omega) (by omega), n1 140 (by omega) (by omega)⟩ (fun o ho => gc_pl_ne (by omega))
