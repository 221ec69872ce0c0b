/-! the first memory's numbers -/
theorem gl_getD {l : List Int} (h : ∀ x ∈ l, gw_inR x) (n : Nat) : gw_inR (l.getD n 0) := by
  rw [List.getD_eq_getElem?_getD]
  cases hn : l[n]? with
  | none => exact gw_in0
  | some x => exact h x (List.mem_of_getElem? hn)
theorem gl_bools : ∀ o : Fin 117, (gw_SH[o.val]?).map (fun s => s.1) = some 3 → o.val = 21 ∨ o.val = 42 ∨ o.val = 64 ∨ o.val = 74 ∨ o.val = 92 := by decide +kernel
theorem gl_okM0 : gw_okM gl_m0 := by
  refine ⟨fun o j => ?_, fun o n rs ho j => ?_⟩
  · unfold gl_m0
    have key : ∀ (c : Prop) (inst : Decidable c) (a b : Int), gw_inR a → gw_inR b → gw_inR (@ite Int c inst a b) := fun c inst a b ha hb => by
      by_cases hc : c
      · rw [if_pos hc]; exact ha
      · rw [if_neg hc]; exact hb
    repeat' (refine key _ _ _ _ ?_ ?_)
    all_goals first
      | (unfold gw_inR; omega)
      | (refine gl_getD (fun x hx => ?_) _; simp only [List.mem_cons, List.not_mem_nil, or_false] at hx; unfold gw_inR; omega)
  · have hl : o < 117 := by
      rw [← gw_SHlen]
      exact (List.getElem?_eq_some_iff.mp ho).1
    have h1 := gl_bools ⟨o, hl⟩ (by show (gw_SH[o]?).map (fun s => s.1) = some 3; rw [ho]; rfl)
    have h2 : o = 21 ∨ o = 42 ∨ o = 64 ∨ o = 74 ∨ o = 92 := h1
    rcases h2 with rfl | rfl | rfl | rfl | rfl <;> exact Or.inl rfl
