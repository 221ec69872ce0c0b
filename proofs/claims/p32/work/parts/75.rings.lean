/-! colours of rings, of stars, of all that meet, of none -/
theorem gp_pig (c : Nat) : ∀ (n : Nat) (h : Nat → Int), (∀ b : Nat, b < n → 0 ≤ h b ∧ h b < c) → (∀ a b : Nat, a < b → b < n → h a ≠ h b) → n ≤ c := by
  induction c with
  | zero =>
    intro n h h1 _
    by_cases z : n = 0
    · omega
    · have := h1 0 (by omega)
      omega
  | succ c ih =>
    intro n h h1 h2
    by_cases z : ∃ b : Nat, b < n ∧ h b = c
    · obtain ⟨b0, hb, hc⟩ := z
      have q := ih (n - 1) (fun a => if a < b0 then h a else h (a + 1)) (fun b hb1 => by
        by_cases e : b < b0
        · rw [if_pos e]
          have a1 := h1 b (by omega)
          have a2 := h2 b b0 e hb
          omega
        · rw [if_neg e]
          have a1 := h1 (b + 1) (by omega)
          have a2 := h2 b0 (b + 1) (by omega) (by omega)
          omega) (fun a b hab hbn => by
        by_cases e : b < b0
        · rw [if_pos e, if_pos (by omega)]
          exact h2 a b hab (by omega)
        · rw [if_neg e]
          by_cases f : a < b0
          · rw [if_pos f]
            exact h2 a (b + 1) (by omega) (by omega)
          · rw [if_neg f]
            exact h2 (a + 1) (b + 1) (by omega) (by omega))
      omega
    · have q := ih n h (fun b hb => by
        have a1 := h1 b hb
        have a2 : h b ≠ c := fun e => z ⟨b, hb, e⟩
        omega) h2
      omega
def gp_okc (n pr i : Int) : Prop := (1 ≤ n ∧ n ≤ 8) ∧ (0 ≤ pr ∧ pr ≤ gw_w (gw_shl 1 (gw_w ((gw_w (n * gw_w (n - 1))).tdiv 2)) - 1)) ∧ -1 ≤ i ∧ i ≤ n - 1
theorem gp_cA {n pr i v : Int} {N c0 : Nat} (hN : n.toNat = N) (ok : gp_okc n pr i) (hc0 : 1 ≤ c0) {h0 : Nat → Int} (V : gd_vl n pr c0 h0 N) (low : ∀ (c : Nat) (h : Nat → Int), 1 ≤ c → gd_vl n pr c h N → c0 ≤ c) (hv : gd_isc n pr i v) : ∃ h : Nat → Int, gd_vl n pr c0 h N ∧ gd_lm n pr c0 N h N ∧ v = if 0 ≤ i then h i.toNat else c0 := by
  obtain ⟨c, h, h1, h2, h3, h4, h5⟩ := hv.1 ok
  rw [hN] at h2 h3 h4
  have l1 := low c h h1 h2
  have e : c = c0 := by
    by_cases z : c0 < c
    · exact absurd V (h4 c0 hc0 z h0)
    · omega
  subst e
  exact ⟨h, h2, h3, h5⟩
theorem gp_low2 {n pr : Int} {N : Nat} (hN : 2 ≤ N) (hm : gd_mt n pr 0 1) : ∀ (c : Nat) (h : Nat → Int), 1 ≤ c → gd_vl n pr c h N → 2 ≤ c := by
  intro c h h1 h2
  have a := h2 0 (by omega)
  have b := h2 1 (by omega)
  have d := b.2 0 (by omega) hm
  omega
theorem gp_alt {h : Nat → Int} {N : Nat} (r : ∀ b : Nat, b < N → 0 ≤ h b ∧ h b < 2) (s : ∀ a : Nat, a + 1 < N → h a ≠ h (a + 1)) : ∀ a : Nat, a < N → (a % 2 = 0 → h a = h 0) ∧ (a % 2 = 1 → h a = 1 - h 0) := by
  intro a
  induction a with
  | zero => intro _; exact ⟨fun _ => rfl, fun z => by omega⟩
  | succ a ih =>
    intro ha
    have q := ih (by omega)
    have r0 := r 0 (by omega)
    have r1 := r a (by omega)
    have r2 := r (a + 1) ha
    have d := s a ha
    by_cases e : a % 2 = 0
    · have := q.1 e
      exact ⟨fun z => by omega, fun _ => by omega⟩
    · have := q.2 (by omega)
      exact ⟨fun _ => by omega, fun z => by omega⟩
theorem gp_low3 {n pr : Int} {N : Nat} (hN : 3 ≤ N ∧ N % 2 = 1) (hm : ∀ a : Nat, a + 1 < N → gd_mt n pr a (a + 1)) (hl : gd_mt n pr 0 (N - 1)) : ∀ (c : Nat) (h : Nat → Int), 1 ≤ c → gd_vl n pr c h N → 3 ≤ c := by
  intro c h h1 h2
  by_cases z : 3 ≤ c
  · exact z
  exfalso
  have al := gp_alt (h := h) (N := N) (fun b hb => by have := (h2 b hb).1; omega) (fun a ha => (h2 (a + 1) ha).2 a (by omega) (hm a ha)) (N - 1) (by omega)
  exact (h2 (N - 1) (by omega)).2 0 (by omega) hl (al.1 (by omega)).symm
theorem gp_lowN {n pr : Int} {N : Nat} (hm : ∀ b : Nat, b < N → ∀ a : Nat, a < b → gd_mt n pr a b) : ∀ (c : Nat) (h : Nat → Int), 1 ≤ c → gd_vl n pr c h N → N ≤ c := by
  intro c h h1 h2
  exact gp_pig c N h (fun b hb => (h2 b hb).1) (fun a b hab hb => (h2 b hb).2 a hab (hm b hb a hab))
theorem gp_idN {n pr : Int} {N : Nat} (hm : ∀ b : Nat, b < N → ∀ a : Nat, a < b → gd_mt n pr a b) (V : gd_vl n pr N (fun a => (a : Int)) N) {h : Nat → Int} (h2 : gd_vl n pr N h N) (h3 : gd_lm n pr N N h N) : ∀ k : Nat, k ≤ N → ∀ a : Nat, a < k → h a = a := by
  intro k
  induction k with
  | zero => intro _ a ha; omega
  | succ k ih =>
    intro hk a ha
    have q := ih (by omega)
    by_cases e : a = k
    · subst e
      have l := h3 _ V a (by omega) (fun b hb => (q b hb).symm)
      have r := (h2 a (by omega)).1
      by_cases z : h a = a
      · exact z
      · exfalso
        obtain ⟨x, hx⟩ := gw_nat r.1
        have hxa : x < a := by omega
        have d := (h2 a (by omega)).2 x hxa (hm a (by omega) x hxa)
        rw [q x hxa] at d
        omega
    · exact q a (by omega)
theorem gp_low1 {n pr : Int} {N : Nat} : ∀ (c : Nat) (h : Nat → Int), 1 ≤ c → gd_vl n pr c h N → 1 ≤ c := fun _ _ h _ => h
theorem gp_star {n pr : Int} {N : Nat} (hN : 3 ≤ N) (hm : gd_mt n pr 0 (N - 1)) (V : gd_vl n pr 2 (fun a => if a = 0 then 0 else 1) N) {h : Nat → Int} (h2 : gd_vl n pr 2 h N) (h3 : gd_lm n pr 2 N h N) : h (N - 1) = 1 := by
  have l := h3 _ V 0 (by omega) (fun b hb => by omega)
  rw [if_pos rfl] at l
  have r0 := (h2 0 (by omega)).1
  have r := (h2 (N - 1) (by omega)).1
  have d := (h2 (N - 1) (by omega)).2 0 (by omega) hm
  omega
/-- the law's two loops, one in the other -/
def gp_in (n a : Int) : Nat → Int → Int × Int × Int → Int × Int × Int
  | 0, _, s => s
  | k + 1, b, s => gp_in n a k (b + 1) (gw_or s.1 (if b = a + 1 then gw_shl 1 s.2.2 else if a = 0 then (if b = n - 1 then gw_shl 1 s.2.2 else 0) else 0), gw_or s.2.1 (if a = 0 then gw_shl 1 s.2.2 else 0), s.2.2 + 1)
def gp_outl (n : Int) : Nat → Int → Int × Int × Int → Int × Int × Int
  | 0, _, s => s
  | k + 1, a, s => gp_outl n k (a + 1) (gp_in n a (n - (a + 1)).toNat (a + 1) s)
/-- what the law asks of the colours -/
def gp_asks (n ring star bit : Int) : Prop := (∀ v : Int, gd_isc n ring (-1) v → v = if n.tmod 2 = 0 then (2 : Int) else (3 : Int)) ∧ (∀ v : Int, gd_isc n star (-1) v → v = 2) ∧ (∀ v : Int, gd_isc n (gw_w (gw_shl 1 bit - 1)) (-1) v → v = n) ∧ (∀ v : Int, gd_isc n (gw_w (gw_shl 1 bit - 1)) (gw_w (n - 1)) v → v = gw_w (n - 1)) ∧ (∀ v : Int, gd_isc n 0 (-1) v → v = 1) ∧ (∀ v : Int, gd_isc n star (gw_w (n - 1)) v → v = 1) ∧ gw_inR ring ∧ gw_inR star
theorem gp_v3 : gp_outl 3 3 0 (0, 0, 0) = (7, 3, 3) := by decide +kernel
theorem gp_f3 : gw_w (gw_shl 1 3 - 1) = 7 ∧ gw_w ((3 : Int) - 1) = 2 := by decide +kernel
theorem gp_mf3 : ∀ b : Nat, b < 3 → ∀ a : Nat, a < b → gd_mt 3 7 a b := by unfold gd_mt; decide +kernel
theorem gp_Vr3 : gd_vl 3 7 (3 : Nat) (fun a => if a = 2 then 2 else ((a % 2 : Nat) : Int)) 3 := by unfold gd_vl gd_mt; decide +kernel
theorem gp_Vs3 : gd_vl 3 3 (2 : Nat) (fun a => if a = 0 then 0 else 1) 3 := by unfold gd_vl gd_mt; decide +kernel
theorem gp_Vf3 : gd_vl 3 7 (3 : Nat) (fun a => (a : Int)) 3 := by unfold gd_vl gd_mt; decide +kernel
theorem gp_Vz3 : gd_vl 3 0 (1 : Nat) (fun _ => 0) 3 := by unfold gd_vl gd_mt; decide +kernel
theorem gp_ms3 : gd_mt 3 3 0 1 ∧ gd_mt 3 3 0 2 := by unfold gd_mt; decide +kernel
theorem gp_mr3 : (∀ a : Nat, a + 1 < 3 → gd_mt 3 7 a (a + 1)) ∧ gd_mt 3 7 0 2 := by
  refine ⟨fun a ha => ?_, by unfold gd_mt; decide +kernel⟩
  have h : a = 0 ∨ a = 1 := by omega
  rcases h with rfl | rfl <;> unfold gd_mt <;> decide +kernel
theorem gp_okr3 (i : Int) (hi : -1 ≤ i ∧ i ≤ 2) : gp_okc 3 7 i := by
  have h : gw_w (gw_shl 1 (gw_w ((gw_w ((3 : Int) * gw_w ((3 : Int) - 1))).tdiv 2)) - 1) = 7 := by decide +kernel
  unfold gp_okc
  rw [h]
  omega
theorem gp_oks3 (i : Int) (hi : -1 ≤ i ∧ i ≤ 2) : gp_okc 3 3 i := by
  have h : gw_w (gw_shl 1 (gw_w ((gw_w ((3 : Int) * gw_w ((3 : Int) - 1))).tdiv 2)) - 1) = 7 := by decide +kernel
  unfold gp_okc
  rw [h]
  omega
theorem gp_okf3 (i : Int) (hi : -1 ≤ i ∧ i ≤ 2) : gp_okc 3 7 i := by
  have h : gw_w (gw_shl 1 (gw_w ((gw_w ((3 : Int) * gw_w ((3 : Int) - 1))).tdiv 2)) - 1) = 7 := by decide +kernel
  unfold gp_okc
  rw [h]
  omega
theorem gp_okz3 (i : Int) (hi : -1 ≤ i ∧ i ≤ 2) : gp_okc 3 0 i := by
  have h : gw_w (gw_shl 1 (gw_w ((gw_w ((3 : Int) * gw_w ((3 : Int) - 1))).tdiv 2)) - 1) = 7 := by decide +kernel
  unfold gp_okc
  rw [h]
  omega
theorem gp_as3 : gp_asks 3 7 3 3 := by
  unfold gp_asks
  rw [gp_f3.1, gp_f3.2]
  refine ⟨fun v hv => ?_, fun v hv => ?_, fun v hv => ?_, fun v hv => ?_, fun v hv => ?_, fun v hv => ?_, by unfold gw_inR; omega, by unfold gw_inR; omega⟩
  · obtain ⟨h, _, _, e⟩ := gp_cA (N := 3) rfl (gp_okr3 (-1) (by omega)) (by omega) gp_Vr3 (gp_low3 (by omega) gp_mr3.1 gp_mr3.2) hv
    rw [e, if_neg (by omega), if_neg (by decide)]
    rfl
  · obtain ⟨h, _, _, e⟩ := gp_cA (N := 3) rfl (gp_oks3 (-1) (by omega)) (by omega) gp_Vs3 (gp_low2 (by omega) gp_ms3.1) hv
    rw [e, if_neg (by omega)]
    rfl
  · obtain ⟨h, _, _, e⟩ := gp_cA (N := 3) rfl (gp_okf3 (-1) (by omega)) (by omega) gp_Vf3 (gp_lowN gp_mf3) hv
    rw [e, if_neg (by omega)]
    rfl
  · obtain ⟨h, h2, h3, e⟩ := gp_cA (N := 3) rfl (gp_okf3 2 (by omega)) (by omega) gp_Vf3 (gp_lowN gp_mf3) hv
    have z := gp_idN gp_mf3 gp_Vf3 h2 h3 3 (by omega) 2 (by omega)
    rw [e, if_pos (by omega)]
    exact z
  · obtain ⟨h, _, _, e⟩ := gp_cA (N := 3) rfl (gp_okz3 (-1) (by omega)) (by omega) gp_Vz3 gp_low1 hv
    rw [e, if_neg (by omega)]
    rfl
  · obtain ⟨h, h2, h3, e⟩ := gp_cA (N := 3) rfl (gp_oks3 2 (by omega)) (by omega) gp_Vs3 (gp_low2 (by omega) gp_ms3.1) hv
    have z := gp_star (N := 3) (by omega) gp_ms3.2 gp_Vs3 h2 h3
    rw [e, if_pos (by omega)]
    exact z
theorem gp_v4 : gp_outl 4 4 0 (0, 0, 0) = (45, 7, 6) := by decide +kernel
theorem gp_f4 : gw_w (gw_shl 1 6 - 1) = 63 ∧ gw_w ((4 : Int) - 1) = 3 := by decide +kernel
theorem gp_mf4 : ∀ b : Nat, b < 4 → ∀ a : Nat, a < b → gd_mt 4 63 a b := by unfold gd_mt; decide +kernel
theorem gp_Vr4 : gd_vl 4 45 (2 : Nat) (fun a => ((a % 2 : Nat) : Int)) 4 := by unfold gd_vl gd_mt; decide +kernel
theorem gp_Vs4 : gd_vl 4 7 (2 : Nat) (fun a => if a = 0 then 0 else 1) 4 := by unfold gd_vl gd_mt; decide +kernel
theorem gp_Vf4 : gd_vl 4 63 (4 : Nat) (fun a => (a : Int)) 4 := by unfold gd_vl gd_mt; decide +kernel
theorem gp_Vz4 : gd_vl 4 0 (1 : Nat) (fun _ => 0) 4 := by unfold gd_vl gd_mt; decide +kernel
theorem gp_ms4 : gd_mt 4 7 0 1 ∧ gd_mt 4 7 0 3 := by unfold gd_mt; decide +kernel
theorem gp_mr4 : (∀ a : Nat, a + 1 < 4 → gd_mt 4 45 a (a + 1)) ∧ gd_mt 4 45 0 3 := by
  refine ⟨fun a ha => ?_, by unfold gd_mt; decide +kernel⟩
  have h : a = 0 ∨ a = 1 ∨ a = 2 := by omega
  rcases h with rfl | rfl | rfl <;> unfold gd_mt <;> decide +kernel
theorem gp_okr4 (i : Int) (hi : -1 ≤ i ∧ i ≤ 3) : gp_okc 4 45 i := by
  have h : gw_w (gw_shl 1 (gw_w ((gw_w ((4 : Int) * gw_w ((4 : Int) - 1))).tdiv 2)) - 1) = 63 := by decide +kernel
  unfold gp_okc
  rw [h]
  omega
theorem gp_oks4 (i : Int) (hi : -1 ≤ i ∧ i ≤ 3) : gp_okc 4 7 i := by
  have h : gw_w (gw_shl 1 (gw_w ((gw_w ((4 : Int) * gw_w ((4 : Int) - 1))).tdiv 2)) - 1) = 63 := by decide +kernel
  unfold gp_okc
  rw [h]
  omega
theorem gp_okf4 (i : Int) (hi : -1 ≤ i ∧ i ≤ 3) : gp_okc 4 63 i := by
  have h : gw_w (gw_shl 1 (gw_w ((gw_w ((4 : Int) * gw_w ((4 : Int) - 1))).tdiv 2)) - 1) = 63 := by decide +kernel
  unfold gp_okc
  rw [h]
  omega
theorem gp_okz4 (i : Int) (hi : -1 ≤ i ∧ i ≤ 3) : gp_okc 4 0 i := by
  have h : gw_w (gw_shl 1 (gw_w ((gw_w ((4 : Int) * gw_w ((4 : Int) - 1))).tdiv 2)) - 1) = 63 := by decide +kernel
  unfold gp_okc
  rw [h]
  omega
theorem gp_as4 : gp_asks 4 45 7 6 := by
  unfold gp_asks
  rw [gp_f4.1, gp_f4.2]
  refine ⟨fun v hv => ?_, fun v hv => ?_, fun v hv => ?_, fun v hv => ?_, fun v hv => ?_, fun v hv => ?_, by unfold gw_inR; omega, by unfold gw_inR; omega⟩
  · obtain ⟨h, _, _, e⟩ := gp_cA (N := 4) rfl (gp_okr4 (-1) (by omega)) (by omega) gp_Vr4 (gp_low2 (by omega) (gp_mr4.1 0 (by omega))) hv
    rw [e, if_neg (by omega), if_pos (by decide)]
    rfl
  · obtain ⟨h, _, _, e⟩ := gp_cA (N := 4) rfl (gp_oks4 (-1) (by omega)) (by omega) gp_Vs4 (gp_low2 (by omega) gp_ms4.1) hv
    rw [e, if_neg (by omega)]
    rfl
  · obtain ⟨h, _, _, e⟩ := gp_cA (N := 4) rfl (gp_okf4 (-1) (by omega)) (by omega) gp_Vf4 (gp_lowN gp_mf4) hv
    rw [e, if_neg (by omega)]
    rfl
  · obtain ⟨h, h2, h3, e⟩ := gp_cA (N := 4) rfl (gp_okf4 3 (by omega)) (by omega) gp_Vf4 (gp_lowN gp_mf4) hv
    have z := gp_idN gp_mf4 gp_Vf4 h2 h3 4 (by omega) 3 (by omega)
    rw [e, if_pos (by omega)]
    exact z
  · obtain ⟨h, _, _, e⟩ := gp_cA (N := 4) rfl (gp_okz4 (-1) (by omega)) (by omega) gp_Vz4 gp_low1 hv
    rw [e, if_neg (by omega)]
    rfl
  · obtain ⟨h, h2, h3, e⟩ := gp_cA (N := 4) rfl (gp_oks4 3 (by omega)) (by omega) gp_Vs4 (gp_low2 (by omega) gp_ms4.1) hv
    have z := gp_star (N := 4) (by omega) gp_ms4.2 gp_Vs4 h2 h3
    rw [e, if_pos (by omega)]
    exact z
theorem gp_v5 : gp_outl 5 5 0 (0, 0, 0) = (665, 15, 10) := by decide +kernel
theorem gp_f5 : gw_w (gw_shl 1 10 - 1) = 1023 ∧ gw_w ((5 : Int) - 1) = 4 := by decide +kernel
theorem gp_mf5 : ∀ b : Nat, b < 5 → ∀ a : Nat, a < b → gd_mt 5 1023 a b := by unfold gd_mt; decide +kernel
theorem gp_Vr5 : gd_vl 5 665 (3 : Nat) (fun a => if a = 4 then 2 else ((a % 2 : Nat) : Int)) 5 := by unfold gd_vl gd_mt; decide +kernel
theorem gp_Vs5 : gd_vl 5 15 (2 : Nat) (fun a => if a = 0 then 0 else 1) 5 := by unfold gd_vl gd_mt; decide +kernel
theorem gp_Vf5 : gd_vl 5 1023 (5 : Nat) (fun a => (a : Int)) 5 := by unfold gd_vl gd_mt; decide +kernel
theorem gp_Vz5 : gd_vl 5 0 (1 : Nat) (fun _ => 0) 5 := by unfold gd_vl gd_mt; decide +kernel
theorem gp_ms5 : gd_mt 5 15 0 1 ∧ gd_mt 5 15 0 4 := by unfold gd_mt; decide +kernel
theorem gp_mr5 : (∀ a : Nat, a + 1 < 5 → gd_mt 5 665 a (a + 1)) ∧ gd_mt 5 665 0 4 := by
  refine ⟨fun a ha => ?_, by unfold gd_mt; decide +kernel⟩
  have h : a = 0 ∨ a = 1 ∨ a = 2 ∨ a = 3 := by omega
  rcases h with rfl | rfl | rfl | rfl <;> unfold gd_mt <;> decide +kernel
theorem gp_okr5 (i : Int) (hi : -1 ≤ i ∧ i ≤ 4) : gp_okc 5 665 i := by
  have h : gw_w (gw_shl 1 (gw_w ((gw_w ((5 : Int) * gw_w ((5 : Int) - 1))).tdiv 2)) - 1) = 1023 := by decide +kernel
  unfold gp_okc
  rw [h]
  omega
theorem gp_oks5 (i : Int) (hi : -1 ≤ i ∧ i ≤ 4) : gp_okc 5 15 i := by
  have h : gw_w (gw_shl 1 (gw_w ((gw_w ((5 : Int) * gw_w ((5 : Int) - 1))).tdiv 2)) - 1) = 1023 := by decide +kernel
  unfold gp_okc
  rw [h]
  omega
theorem gp_okf5 (i : Int) (hi : -1 ≤ i ∧ i ≤ 4) : gp_okc 5 1023 i := by
  have h : gw_w (gw_shl 1 (gw_w ((gw_w ((5 : Int) * gw_w ((5 : Int) - 1))).tdiv 2)) - 1) = 1023 := by decide +kernel
  unfold gp_okc
  rw [h]
  omega
theorem gp_okz5 (i : Int) (hi : -1 ≤ i ∧ i ≤ 4) : gp_okc 5 0 i := by
  have h : gw_w (gw_shl 1 (gw_w ((gw_w ((5 : Int) * gw_w ((5 : Int) - 1))).tdiv 2)) - 1) = 1023 := by decide +kernel
  unfold gp_okc
  rw [h]
  omega
theorem gp_as5 : gp_asks 5 665 15 10 := by
  unfold gp_asks
  rw [gp_f5.1, gp_f5.2]
  refine ⟨fun v hv => ?_, fun v hv => ?_, fun v hv => ?_, fun v hv => ?_, fun v hv => ?_, fun v hv => ?_, by unfold gw_inR; omega, by unfold gw_inR; omega⟩
  · obtain ⟨h, _, _, e⟩ := gp_cA (N := 5) rfl (gp_okr5 (-1) (by omega)) (by omega) gp_Vr5 (gp_low3 (by omega) gp_mr5.1 gp_mr5.2) hv
    rw [e, if_neg (by omega), if_neg (by decide)]
    rfl
  · obtain ⟨h, _, _, e⟩ := gp_cA (N := 5) rfl (gp_oks5 (-1) (by omega)) (by omega) gp_Vs5 (gp_low2 (by omega) gp_ms5.1) hv
    rw [e, if_neg (by omega)]
    rfl
  · obtain ⟨h, _, _, e⟩ := gp_cA (N := 5) rfl (gp_okf5 (-1) (by omega)) (by omega) gp_Vf5 (gp_lowN gp_mf5) hv
    rw [e, if_neg (by omega)]
    rfl
  · obtain ⟨h, h2, h3, e⟩ := gp_cA (N := 5) rfl (gp_okf5 4 (by omega)) (by omega) gp_Vf5 (gp_lowN gp_mf5) hv
    have z := gp_idN gp_mf5 gp_Vf5 h2 h3 5 (by omega) 4 (by omega)
    rw [e, if_pos (by omega)]
    exact z
  · obtain ⟨h, _, _, e⟩ := gp_cA (N := 5) rfl (gp_okz5 (-1) (by omega)) (by omega) gp_Vz5 gp_low1 hv
    rw [e, if_neg (by omega)]
    rfl
  · obtain ⟨h, h2, h3, e⟩ := gp_cA (N := 5) rfl (gp_oks5 4 (by omega)) (by omega) gp_Vs5 (gp_low2 (by omega) gp_ms5.1) hv
    have z := gp_star (N := 5) (by omega) gp_ms5.2 gp_Vs5 h2 h3
    rw [e, if_pos (by omega)]
    exact z
theorem gp_v6 : gp_outl 6 6 0 (0, 0, 0) = (21041, 31, 15) := by decide +kernel
theorem gp_f6 : gw_w (gw_shl 1 15 - 1) = 32767 ∧ gw_w ((6 : Int) - 1) = 5 := by decide +kernel
theorem gp_mf6 : ∀ b : Nat, b < 6 → ∀ a : Nat, a < b → gd_mt 6 32767 a b := by unfold gd_mt; decide +kernel
theorem gp_Vr6 : gd_vl 6 21041 (2 : Nat) (fun a => ((a % 2 : Nat) : Int)) 6 := by unfold gd_vl gd_mt; decide +kernel
theorem gp_Vs6 : gd_vl 6 31 (2 : Nat) (fun a => if a = 0 then 0 else 1) 6 := by unfold gd_vl gd_mt; decide +kernel
theorem gp_Vf6 : gd_vl 6 32767 (6 : Nat) (fun a => (a : Int)) 6 := by unfold gd_vl gd_mt; decide +kernel
theorem gp_Vz6 : gd_vl 6 0 (1 : Nat) (fun _ => 0) 6 := by unfold gd_vl gd_mt; decide +kernel
theorem gp_ms6 : gd_mt 6 31 0 1 ∧ gd_mt 6 31 0 5 := by unfold gd_mt; decide +kernel
theorem gp_mr6 : (∀ a : Nat, a + 1 < 6 → gd_mt 6 21041 a (a + 1)) ∧ gd_mt 6 21041 0 5 := by
  refine ⟨fun a ha => ?_, by unfold gd_mt; decide +kernel⟩
  have h : a = 0 ∨ a = 1 ∨ a = 2 ∨ a = 3 ∨ a = 4 := by omega
  rcases h with rfl | rfl | rfl | rfl | rfl <;> unfold gd_mt <;> decide +kernel
theorem gp_okr6 (i : Int) (hi : -1 ≤ i ∧ i ≤ 5) : gp_okc 6 21041 i := by
  have h : gw_w (gw_shl 1 (gw_w ((gw_w ((6 : Int) * gw_w ((6 : Int) - 1))).tdiv 2)) - 1) = 32767 := by decide +kernel
  unfold gp_okc
  rw [h]
  omega
theorem gp_oks6 (i : Int) (hi : -1 ≤ i ∧ i ≤ 5) : gp_okc 6 31 i := by
  have h : gw_w (gw_shl 1 (gw_w ((gw_w ((6 : Int) * gw_w ((6 : Int) - 1))).tdiv 2)) - 1) = 32767 := by decide +kernel
  unfold gp_okc
  rw [h]
  omega
theorem gp_okf6 (i : Int) (hi : -1 ≤ i ∧ i ≤ 5) : gp_okc 6 32767 i := by
  have h : gw_w (gw_shl 1 (gw_w ((gw_w ((6 : Int) * gw_w ((6 : Int) - 1))).tdiv 2)) - 1) = 32767 := by decide +kernel
  unfold gp_okc
  rw [h]
  omega
theorem gp_okz6 (i : Int) (hi : -1 ≤ i ∧ i ≤ 5) : gp_okc 6 0 i := by
  have h : gw_w (gw_shl 1 (gw_w ((gw_w ((6 : Int) * gw_w ((6 : Int) - 1))).tdiv 2)) - 1) = 32767 := by decide +kernel
  unfold gp_okc
  rw [h]
  omega
theorem gp_as6 : gp_asks 6 21041 31 15 := by
  unfold gp_asks
  rw [gp_f6.1, gp_f6.2]
  refine ⟨fun v hv => ?_, fun v hv => ?_, fun v hv => ?_, fun v hv => ?_, fun v hv => ?_, fun v hv => ?_, by unfold gw_inR; omega, by unfold gw_inR; omega⟩
  · obtain ⟨h, _, _, e⟩ := gp_cA (N := 6) rfl (gp_okr6 (-1) (by omega)) (by omega) gp_Vr6 (gp_low2 (by omega) (gp_mr6.1 0 (by omega))) hv
    rw [e, if_neg (by omega), if_pos (by decide)]
    rfl
  · obtain ⟨h, _, _, e⟩ := gp_cA (N := 6) rfl (gp_oks6 (-1) (by omega)) (by omega) gp_Vs6 (gp_low2 (by omega) gp_ms6.1) hv
    rw [e, if_neg (by omega)]
    rfl
  · obtain ⟨h, _, _, e⟩ := gp_cA (N := 6) rfl (gp_okf6 (-1) (by omega)) (by omega) gp_Vf6 (gp_lowN gp_mf6) hv
    rw [e, if_neg (by omega)]
    rfl
  · obtain ⟨h, h2, h3, e⟩ := gp_cA (N := 6) rfl (gp_okf6 5 (by omega)) (by omega) gp_Vf6 (gp_lowN gp_mf6) hv
    have z := gp_idN gp_mf6 gp_Vf6 h2 h3 6 (by omega) 5 (by omega)
    rw [e, if_pos (by omega)]
    exact z
  · obtain ⟨h, _, _, e⟩ := gp_cA (N := 6) rfl (gp_okz6 (-1) (by omega)) (by omega) gp_Vz6 gp_low1 hv
    rw [e, if_neg (by omega)]
    rfl
  · obtain ⟨h, h2, h3, e⟩ := gp_cA (N := 6) rfl (gp_oks6 5 (by omega)) (by omega) gp_Vs6 (gp_low2 (by omega) gp_ms6.1) hv
    have z := gp_star (N := 6) (by omega) gp_ms6.2 gp_Vs6 h2 h3
    rw [e, if_pos (by omega)]
    exact z
theorem gp_v7 : gp_outl 7 7 0 (0, 0, 0) = (1345633, 63, 21) := by decide +kernel
theorem gp_f7 : gw_w (gw_shl 1 21 - 1) = 2097151 ∧ gw_w ((7 : Int) - 1) = 6 := by decide +kernel
theorem gp_mf7 : ∀ b : Nat, b < 7 → ∀ a : Nat, a < b → gd_mt 7 2097151 a b := by unfold gd_mt; decide +kernel
theorem gp_Vr7 : gd_vl 7 1345633 (3 : Nat) (fun a => if a = 6 then 2 else ((a % 2 : Nat) : Int)) 7 := by unfold gd_vl gd_mt; decide +kernel
theorem gp_Vs7 : gd_vl 7 63 (2 : Nat) (fun a => if a = 0 then 0 else 1) 7 := by unfold gd_vl gd_mt; decide +kernel
theorem gp_Vf7 : gd_vl 7 2097151 (7 : Nat) (fun a => (a : Int)) 7 := by unfold gd_vl gd_mt; decide +kernel
theorem gp_Vz7 : gd_vl 7 0 (1 : Nat) (fun _ => 0) 7 := by unfold gd_vl gd_mt; decide +kernel
theorem gp_ms7 : gd_mt 7 63 0 1 ∧ gd_mt 7 63 0 6 := by unfold gd_mt; decide +kernel
theorem gp_mr7 : (∀ a : Nat, a + 1 < 7 → gd_mt 7 1345633 a (a + 1)) ∧ gd_mt 7 1345633 0 6 := by
  refine ⟨fun a ha => ?_, by unfold gd_mt; decide +kernel⟩
  have h : a = 0 ∨ a = 1 ∨ a = 2 ∨ a = 3 ∨ a = 4 ∨ a = 5 := by omega
  rcases h with rfl | rfl | rfl | rfl | rfl | rfl <;> unfold gd_mt <;> decide +kernel
theorem gp_okr7 (i : Int) (hi : -1 ≤ i ∧ i ≤ 6) : gp_okc 7 1345633 i := by
  have h : gw_w (gw_shl 1 (gw_w ((gw_w ((7 : Int) * gw_w ((7 : Int) - 1))).tdiv 2)) - 1) = 2097151 := by decide +kernel
  unfold gp_okc
  rw [h]
  omega
theorem gp_oks7 (i : Int) (hi : -1 ≤ i ∧ i ≤ 6) : gp_okc 7 63 i := by
  have h : gw_w (gw_shl 1 (gw_w ((gw_w ((7 : Int) * gw_w ((7 : Int) - 1))).tdiv 2)) - 1) = 2097151 := by decide +kernel
  unfold gp_okc
  rw [h]
  omega
theorem gp_okf7 (i : Int) (hi : -1 ≤ i ∧ i ≤ 6) : gp_okc 7 2097151 i := by
  have h : gw_w (gw_shl 1 (gw_w ((gw_w ((7 : Int) * gw_w ((7 : Int) - 1))).tdiv 2)) - 1) = 2097151 := by decide +kernel
  unfold gp_okc
  rw [h]
  omega
theorem gp_okz7 (i : Int) (hi : -1 ≤ i ∧ i ≤ 6) : gp_okc 7 0 i := by
  have h : gw_w (gw_shl 1 (gw_w ((gw_w ((7 : Int) * gw_w ((7 : Int) - 1))).tdiv 2)) - 1) = 2097151 := by decide +kernel
  unfold gp_okc
  rw [h]
  omega
theorem gp_as7 : gp_asks 7 1345633 63 21 := by
  unfold gp_asks
  rw [gp_f7.1, gp_f7.2]
  refine ⟨fun v hv => ?_, fun v hv => ?_, fun v hv => ?_, fun v hv => ?_, fun v hv => ?_, fun v hv => ?_, by unfold gw_inR; omega, by unfold gw_inR; omega⟩
  · obtain ⟨h, _, _, e⟩ := gp_cA (N := 7) rfl (gp_okr7 (-1) (by omega)) (by omega) gp_Vr7 (gp_low3 (by omega) gp_mr7.1 gp_mr7.2) hv
    rw [e, if_neg (by omega), if_neg (by decide)]
    rfl
  · obtain ⟨h, _, _, e⟩ := gp_cA (N := 7) rfl (gp_oks7 (-1) (by omega)) (by omega) gp_Vs7 (gp_low2 (by omega) gp_ms7.1) hv
    rw [e, if_neg (by omega)]
    rfl
  · obtain ⟨h, _, _, e⟩ := gp_cA (N := 7) rfl (gp_okf7 (-1) (by omega)) (by omega) gp_Vf7 (gp_lowN gp_mf7) hv
    rw [e, if_neg (by omega)]
    rfl
  · obtain ⟨h, h2, h3, e⟩ := gp_cA (N := 7) rfl (gp_okf7 6 (by omega)) (by omega) gp_Vf7 (gp_lowN gp_mf7) hv
    have z := gp_idN gp_mf7 gp_Vf7 h2 h3 7 (by omega) 6 (by omega)
    rw [e, if_pos (by omega)]
    exact z
  · obtain ⟨h, _, _, e⟩ := gp_cA (N := 7) rfl (gp_okz7 (-1) (by omega)) (by omega) gp_Vz7 gp_low1 hv
    rw [e, if_neg (by omega)]
    rfl
  · obtain ⟨h, h2, h3, e⟩ := gp_cA (N := 7) rfl (gp_oks7 6 (by omega)) (by omega) gp_Vs7 (gp_low2 (by omega) gp_ms7.1) hv
    have z := gp_star (N := 7) (by omega) gp_ms7.2 gp_Vs7 h2 h3
    rw [e, if_pos (by omega)]
    exact z
theorem gp_rings (n : Int) (hn : 3 ≤ n ∧ n ≤ 7) : gp_asks n (gp_outl n n.toNat 0 (0, 0, 0)).1 (gp_outl n n.toNat 0 (0, 0, 0)).2.1 (gp_outl n n.toNat 0 (0, 0, 0)).2.2 := by
  have h : n = 3 ∨ n = 4 ∨ n = 5 ∨ n = 6 ∨ n = 7 := by omega
  rcases h with rfl | rfl | rfl | rfl | rfl
  · rw [show gp_outl 3 (3 : Int).toNat 0 (0, 0, 0) = _ from gp_v3]
    exact gp_as3
  · rw [show gp_outl 4 (4 : Int).toNat 0 (0, 0, 0) = _ from gp_v4]
    exact gp_as4
  · rw [show gp_outl 5 (5 : Int).toNat 0 (0, 0, 0) = _ from gp_v5]
    exact gp_as5
  · rw [show gp_outl 6 (6 : Int).toNat 0 (0, 0, 0) = _ from gp_v6]
    exact gp_as6
  · rw [show gp_outl 7 (7 : Int).toNat 0 (0, 0, 0) = _ from gp_v7]
    exact gp_as7
