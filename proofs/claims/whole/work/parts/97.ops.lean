/-! calls of both, one lemma each -/
section GLO
variable {M : gw_Mem}
theorem gl_o_told (h : gl_R M M) (k j w : Int) : gl_Op M_X11_told M_X12_told [gI k, gI j, gI w] M := gl_ask (fun g => ga_told g k j w) h (sp_X11_told M M h.1.1 h.2.1 k j w) (sp_X12_told k j w M h.1.1) (by decide) (by decide)
theorem gl_o_of (h : gl_R M M) (p w : Int) : gl_Op M_X11_of M_X12_of [gI p, gI w] M := gl_ask (fun g => ga_of g p w) h (sp_X11_of M M h.1.1 h.2.1 p w) (sp_X12_of p w M h.1.1) (by decide) (by decide)
theorem gl_o_count (h : gl_R M M) (w : Int) : gl_Op M_X11_count M_X12_count [gI w] M := gl_ask (fun g => ga_count g w) h (sp_X11_count M M h.1.1 h.2.1 w) (sp_X12_count w M h.1.1) (by decide) (by decide)
theorem gl_o_chosen (h : gl_R M M) (t w : Int) : gl_Op M_X11_chosen M_X12_chosen [gI t, gI w] M := gl_ask (fun g => ga_chosen g t w) h (sp_X11_chosen M M h.1.1 h.2.1 t w) (sp_X12_chosen M h.1.1 t w) (by decide) (by decide)
theorem gl_o_counted (h : gl_R M M) (k c e q : Int) : gl_Op M_X11_counted M_X12_counted [gI k, gI c, gI e, gI q] M := gl_ask (fun g => ga_counted g k c e q) h (sp_X11_counted M M h.1.1 h.2.1 k c e q) (sp_X12_counted k c e q M h.1.1) (by decide) (by decide)
theorem gl_o_often (h : gl_R M M) (c e q : Int) : gl_Op M_X11_often M_X12_often [gI c, gI e, gI q] M := gl_ask (fun g => ga_often g c e q) h (sp_X11_often M M h.1.1 h.2.1 c e q) (sp_X12_often c e q M h.1.1) (by decide) (by decide)
/-! the plan -/
theorem gl_ps_rfl (g : gw_Mem) : gl_ps g g := ⟨rfl, rfl, rfl, rfl, rfl, rfl, rfl⟩
theorem gl_fg_hi {m : gw_Mem} {o : Nat} (h : 117 ≤ o) : gc_fg m o = m o := by
  unfold gc_fg
  rw [gw_up_ne (by omega), gw_up_ne (by omega)]
theorem gl_o_end (h : gl_R M M) (v : Int) : gl_Op M_X11_end M_X12_end [gI v] M := by
  refine gl_fun (fun g => ga_end g v) (fun g => gu_end g v) (sp_X11_end M M h.2.1 v) (fun _ => sp_X12_end v _) (by decide) (by decide) h.1 (fun o ho => ?_) (fun lo => rfl) (fun lo => ?_) ?_
  · unfold cu_end
    split
    · rw [gl_fg_hi ho, gw_up_ne (by omega)]
    · rfl
  · show gu_end _ v = gl_x lo (gu_end M v)
    unfold gu_end
    split
    · rw [gl_x_up (by omega)]
    · rfl
  · show gl_R (gu_end M v) (cu_end M v)
    unfold gu_end cu_end
    split
    · rename_i hv
      exact gl_R_fg h (gd_JP_end h.1.1 hv) (gc_P_end h.2.1) ⟨rfl, rfl, rfl, rfl, rfl, rfl, rfl⟩ (fun o ho => gw_up_ne (by omega))
    · exact h
theorem gl_comes_x (lo : gw_Mem) (k p l : Int) : gd_comes (gl_x lo M) k p l = gl_x lo (gd_comes M k p l) := by
  unfold gd_comes
  split
  · rw [gl_x_up (by omega), gl_x_up (by omega), gl_x_up (by omega), gl_x_up (by omega)]
    rfl
  · rw [gl_x_up (by omega), gl_x_up (by omega), gl_x_up (by omega)]
    rfl
theorem gl_add_ne (m : gw_Mem) {b : Nat} (k p l : Int) (hk : 0 ≤ k ∧ k ≤ 3) {o : Nat} (ho : ¬ (b + 1 ≤ o ∧ o < b + 13)) : gc_add m b k p l o = m o := by
  unfold gc_add
  rw [gw_up_ne (by omega)]
  split
  · rw [gw_up_ne (by omega), gw_up_ne (by omega), gw_up_ne (by omega)]
  · rw [gw_up_ne (by omega), gw_up_ne (by omega)]
theorem gl_o_mark (h : gl_R M M) (k p l : Int) : gl_Op M_X11_mark M_X12_mark [gI k, gI p, gI l] M := by
  refine gl_fun (fun g => ga_mark g k p l) (fun g => gu_mark g k p l) (sp_X11_mark M M h.1.1 h.2.1 k p l) (fun hJ => sp_X12_mark k p l _ hJ.1) (by decide) (by decide) h.1 (fun o ho => ?_) (fun lo => by show ga_mark (gl_x lo M) k p l = ga_mark M k p l; unfold ga_mark; rw [gd_ma_congr (g := M) (g' := gl_x lo M) rfl]; rfl) (fun lo => ?_) ?_
  · unfold cu_mark
    split
    · rename_i hc
      split
      · rfl
      · split
        · rfl
        · rw [gl_fg_hi ho, gl_add_ne _ _ _ _ hc.1 (by omega)]
    · rfl
  · show gu_mark (gl_x lo M) k p l = gl_x lo (gu_mark M k p l)
    have e : gu_mark (gl_x lo M) k p l = if (0 ≤ k ∧ k ≤ 3) ∧ (0 ≤ p ∧ p ≤ 99) ∧ gd_lo k ≤ l ∧ l ≤ gd_hi k then (if 0 ≤ gd_ma M k p (M 118 k).toNat then gl_x lo M else if M 118 k = 8 then gl_x lo M else gd_comes (gl_x lo M) k p l) else gl_x lo M := by
      unfold gu_mark
      rw [gd_ma_congr (g := M) (g' := gl_x lo M) rfl]
      rfl
    rw [e, gl_comes_x]
    unfold gu_mark
    split
    · split
      · rfl
      · split <;> rfl
    · rfl
  · show gl_R (gu_mark M k p l) (cu_mark M M k p l)
    unfold gu_mark cu_mark
    split
    · rename_i hc
      split
      · exact h
      · split
        · exact h
        · rename_i h8
          have h9 := h.1.1.2.1 k hc.1
          refine gl_R_fg h (gd_JP_comes h.1.1 hc.1 hc.2.1 hc.2.2 (by omega)) (gc_P_comes h.1.1 h.2.1 hc.1 (by omega)) ?_ (fun o ho => gl_add_ne _ _ _ _ hc.1 (by omega))
          unfold gd_comes
          split <;> exact ⟨rfl, rfl, rfl, rfl, rfl, rfl, rfl⟩
    · exact h
theorem gl_o_value (h : gl_R M M) (j v : Int) : gl_Op M_X11_value M_X12_value [gI j, gI v] M := by
  refine gl_fun (fun g => ga_value g j v) (fun g => gu_value g j v) (sp_X11_value M M h.1.1 h.2.1 j v) (fun hJ => sp_X12_value j v _ hJ.1) (by decide) (by decide) h.1 (fun o ho => ?_) (fun lo => rfl) (fun lo => ?_) ?_
  · unfold cu_value
    split
    · rw [gw_up_ne (by omega)]
    · rfl
  · have e : gu_value (gl_x lo M) j v = if (0 ≤ j ∧ j ≤ M 118 0 - 1) ∧ 0 ≤ v ∧ v ≤ 99 then gw_up (gl_x lo M) 121 j v else gl_x lo M := rfl
    show gu_value (gl_x lo M) j v = gl_x lo (gu_value M j v)
    rw [e]
    unfold gu_value
    split
    · rw [gl_x_up (by omega)]
    · rfl
  · show gl_R (gu_value M j v) (cu_value M M j v)
    unfold gu_value cu_value
    split
    · rename_i hc
      have hq : gd_pq M (gw_up M 121 j v) := ⟨fun o ho => gw_up_ne (by omega), rfl, rfl⟩
      have hm : ∀ o : Nat, o ≠ 9 → gw_up M 9 j v o = M o := fun o ho => gw_up_ne ho
      exact gl_R_gen h (gd_JP_value h.1.1 hc.2) (gc_P_value h.2.1) ⟨rfl, rfl, rfl, rfl, rfl, rfl, rfl⟩ (fun o ho => hm o (by omega)) rfl (gc_W_m (gc_W_pq h.1.1 h.2.2.2.2.2.1 hq) rfl rfl (hm 1 (by omega)) (fun o ho => hm o (by omega))) (gc_B_m (gc_B_pq h.1.1 h.2.2.2.2.2.2 hq) rfl (hm 2 (by omega)))
    · exact h
theorem gl_o_person (h : gl_R M M) (k p e : Int) (he : gw_b e) : gl_Op M_X11_person M_X12_person [gI k, gI p, gI e] M := by
  have hj : ∀ {b o : Nat} {m : gw_Mem}, ¬ (b ≤ o ∧ o ≤ b + 3) → gc_join m b k p e o = m o := fun ho => by
    unfold gc_join
    rw [gw_up_ne (by omega), gw_up_ne (by omega), gw_up_ne (by omega), gw_up_ne (by omega)]
  refine gl_fun (fun g => ga_person g k p) (fun g => gu_person g k p e) (sp_X11_person M M h.1.1 h.2.1 k p e he) (fun hJ => sp_X12_person k p e _ hJ.1 he) (by decide) (by decide) h.1 (fun o ho => ?_) (fun lo => by show ga_person (gl_x lo M) k p = ga_person M k p; unfold ga_person; rw [gd_tl_congr (g := M) (g' := gl_x lo M) rfl]; rfl) (fun lo => ?_) ?_
  · unfold cu_person
    split
    · split
      · rfl
      · split
        · rfl
        · rw [gl_fg_hi ho, hj (by omega)]
    · rfl
  · have e0 : gu_person (gl_x lo M) k p e = if (0 ≤ k ∧ k ≤ 3) ∧ 1 ≤ p ∧ p ≤ 4 then (if k = 3 ∧ 0 ≤ gd_tl M (M 117 6).toNat then gl_x lo M else if M 117 6 = 10 then gl_x lo M else gd_joins (gl_x lo M) k p e) else gl_x lo M := by
      unfold gu_person
      rw [gd_tl_congr (g := M) (g' := gl_x lo M) rfl]
      rfl
    have e1 : gd_joins (gl_x lo M) k p e = gl_x lo (gd_joins M k p e) := by
      unfold gd_joins
      rw [gl_x_up (by omega), gl_x_up (by omega), gl_x_up (by omega), gl_x_up (by omega)]
      rfl
    show gu_person (gl_x lo M) k p e = gl_x lo (gu_person M k p e)
    rw [e0, e1]
    unfold gu_person
    split
    · split
      · rfl
      · split <;> rfl
    · rfl
  · show gl_R (gu_person M k p e) (cu_person M M k p e)
    unfold gu_person cu_person
    split
    · rename_i hc
      split
      · exact h
      · rename_i ht
        split
        · exact h
        · rename_i h10
          have h9 := h.1.1.2.2.2.2.1
          exact gl_R_fg h (gd_JP_joins h.1.1 hc.1 hc.2 he ht (by omega)) (gc_P_joins h.2.1) ⟨rfl, rfl, rfl, rfl, rfl, rfl, rfl⟩ (fun o ho => hj (by omega))
    · exact h
theorem gl_o_rule (h : gl_R M M) (w v : Int) : gl_Op M_X11_rule M_X12_rule [gI w, gI v] M := by
  refine gl_fun (fun g => ga_rule g w v) (fun g => gu_rule g w v) (sp_X11_rule M M h.2.1 w v) (fun _ => sp_X12_rule w v _) (by decide) (by decide) h.1 (fun o ho => ?_) (fun lo => rfl) (fun lo => ?_) ?_
  · unfold cu_rule
    split
    · rw [gl_fg_hi ho, gw_up_ne (by omega)]
    · rfl
  · show gu_rule _ w v = gl_x lo (gu_rule M w v)
    unfold gu_rule
    split
    · rw [gl_x_up (by omega)]
    · rfl
  · show gl_R (gu_rule M w v) (cu_rule M w v)
    unfold gu_rule cu_rule
    split
    · rename_i hv
      exact gl_R_fg h (gd_JP_rule h.1.1 hv) (gc_P_rule h.2.1) ⟨rfl, rfl, rfl, rfl, rfl, rfl, rfl⟩ (fun o ho => gw_up_ne (by omega))
    · exact h
theorem gl_o_square (h : gl_R M M) (p v : Int) : gl_Op M_X11_square M_X12_square [gI p, gI v] M := by
  refine gl_fun (fun g => ga_square g p v) (fun g => gu_square g p v) (sp_X11_square M M h.2.1 p v) (fun _ => sp_X12_square p v _) (by decide) (by decide) h.1 (fun o ho => ?_) (fun lo => rfl) (fun lo => ?_) ?_
  · unfold cu_square
    split
    · rw [gw_up_ne (by omega)]
    · rfl
  · show gu_square _ p v = gl_x lo (gu_square M p v)
    unfold gu_square
    split
    · rw [gl_x_up (by omega)]
    · rfl
  · show gl_R (gu_square M p v) (cu_square M p v)
    unfold gu_square cu_square
    split
    · rename_i hc
      have hq : gd_pq M (gw_up M 126 p v) := ⟨fun o ho => gw_up_ne (by omega), rfl, rfl⟩
      have hm : ∀ o : Nat, o ≠ 24 → gw_up M 24 p v o = M o := fun o ho => gw_up_ne ho
      exact gl_R_gen h (gd_JP_square h.1.1 hc.2) (gc_P_square h.2.1) ⟨rfl, rfl, rfl, rfl, rfl, rfl, rfl⟩ (fun o ho => hm o (by omega)) rfl (gc_W_m (gc_W_pq h.1.1 h.2.2.2.2.2.1 hq) rfl rfl (hm 1 (by omega)) (fun o ho => hm o (by omega))) (gc_B_m (gc_B_pq h.1.1 h.2.2.2.2.2.2 hq) rfl (hm 2 (by omega)))
    · exact h
end GLO
