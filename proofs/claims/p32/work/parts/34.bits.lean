/-! bits -/
theorem gd_bit0 : ∀ n : Fin 256, ∀ k : Fin 8, (0 ≤ gw_or (n.val : Int) (gw_shl 1 (k.val : Int)) ∧ gw_or (n.val : Int) (gw_shl 1 (k.val : Int)) < 256) ∧ ∀ j : Fin 8, (gw_and (gw_shr (gw_or (n.val : Int) (gw_shl 1 (k.val : Int))) (j.val : Int)) 1 = 0 ↔ gw_and (gw_shr (n.val : Int) (j.val : Int)) 1 = 0 ∧ j ≠ k) := by decide +kernel
theorem gd_bit {d k : Int} (hd : 0 ≤ d ∧ d < 256) (hk : 0 ≤ k ∧ k < 8) : (0 ≤ gw_or d (gw_shl 1 k) ∧ gw_or d (gw_shl 1 k) < 256) ∧ ∀ j : Int, 0 ≤ j ∧ j < 8 → (gw_and (gw_shr (gw_or d (gw_shl 1 k)) j) 1 = 0 ↔ gw_and (gw_shr d j) 1 = 0 ∧ j ≠ k) := by
  have e : ∀ x : Int, ∀ N : Nat, 0 ≤ x ∧ x < N → ∃ f : Fin N, x = (f.val : Int) := fun x N h => ⟨⟨x.toNat, by omega⟩, by show x = ((x.toNat : Nat) : Int); omega⟩
  obtain ⟨fd, rfl⟩ := e d 256 hd
  obtain ⟨fk, rfl⟩ := e k 8 hk
  have h := gd_bit0 fd fk
  refine ⟨h.1, fun j hj => ?_⟩
  obtain ⟨fj, rfl⟩ := e j 8 hj
  rw [h.2 fj]
  constructor
  · exact fun z => ⟨z.1, fun q => z.2 (Fin.ext (by omega))⟩
  · exact fun z => ⟨z.1, fun q => z.2 (by rw [q])⟩
theorem gd_bit00 : ∀ j : Fin 8, gw_and (gw_shr 0 (j.val : Int)) 1 = 0 := by decide +kernel
