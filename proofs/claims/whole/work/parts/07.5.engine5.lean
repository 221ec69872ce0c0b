/-! text constants: what they hold, and the JDK's own methods on them -/
def gw_sb (o : Nat) (i : Int) : Int := (if o = 2000 then ([115, 108, 119, 116] : List Int) else [112, 108, 111, 116]).getD i.toNat 0
theorem gw_strlen {mt d QR Γ pc ls stk m} {idx o : Nat} (pc' : Nat) (hd : decode (gw_mC mt) pc = .ok (.invokevirtual idx, 3)) (hp : pc + 3 = pc') (hw : Cond.methodLink (gw_mY mt).cls idx ⟨"java/lang/String", "length", "()I"⟩ ∈ gw_tb) (hs : o = 2000 ∨ o = 2001) (hdd : 8 ≤ d) (hln : Nat.ble stk.length 4 = true) (h : gw_G mt d QR Γ pc' ls (gI 4 :: stk) m) : gw_G mt d QR Γ pc ls (gR o :: stk) m := by
  sorry
theorem gw_charAt {mt d QR Γ pc ls stk m} {idx o : Nat} {i : Int} (pc' : Nat) (hd : decode (gw_mC mt) pc = .ok (.invokevirtual idx, 3)) (hp : pc + 3 = pc') (hw : Cond.methodLink (gw_mY mt).cls idx ⟨"java/lang/String", "charAt", "(I)C"⟩ ∈ gw_tb) (hs : o = 2000 ∨ o = 2001) (hdd : 8 ≤ d) (hln : Nat.ble stk.length 4 = true) (hi : gw_in i 4) (h : gw_G mt d QR Γ pc' ls (gI (gw_sb o i) :: stk) m) : gw_G mt d QR Γ pc ls (gI i :: gR o :: stk) m := by
  sorry
