/-! the first world as the engine's: all together -/
theorem gl_q_use {f : Nat → gw_Shp → Nat × va_E} {W : va_W} (a : Nat) (h : (gl_mk f a ((gw_SH.drop a).take 13)).map some = ((gl_pm.drop a).take 13).map (fun i => W[i]?)) {k : Nat} {s : gw_Shp} (h1 : a ≤ k) (h2 : k < a + 13) (hs : gw_SH[k]? = some s) : W[gl_pm.getD k 0]? = some (f k s) := by
  have h3 := congrArg (fun l => l[k - a]?) h
  rw [List.getElem?_map, List.getElem?_map, gl_mk_get, List.getElem?_take, List.getElem?_take, if_pos (by omega), if_pos (by omega), List.getElem?_drop, List.getElem?_drop, show a + (k - a) = k by omega, hs] at h3
  cases hp : gl_pm[k]? with
  | none => rw [hp] at h3; cases h3
  | some i =>
    rw [hp] at h3
    rw [List.getD_eq_getElem?_getD, hp]
    exact (Option.some.inj h3).symm
theorem gl_sub {cx : gw_Cx} {ad1 : Nat → Nat} (k : Nat) (q : Nat × va_E) (hq : (gw_W0 (gl_cx cx ad1) gl_m0)[k]? = some q) : (gl_W cx.2.1 ad1)[gl_pm.getD k 0]? = some q := by
  obtain ⟨hk, s, hs, rfl⟩ := gw_W0_of hq
  rw [gl_cell_eq, gl_cell2_eq]
  show _ = some (gl_f cx.2.1 (gl_ad ad1 cx.2.2.1) k s)
  have h12 : k / 13 < 9 := by omega
  have hd := Nat.div_add_mod k 13
  have hm := Nat.mod_lt k (show 0 < 13 by omega)
  generalize k / 13 = t at h12 hd
  match t, h12, hd with
  | 0, _, hd => exact gl_q_use 0 (gl_q0 cx.2.1 ad1 cx.2.2.1) (by omega) (by omega) hs
  | 1, _, hd => exact gl_q_use 13 (gl_q1 cx.2.1 ad1 cx.2.2.1) (by omega) (by omega) hs
  | 2, _, hd => exact gl_q_use 26 (gl_q2 cx.2.1 ad1 cx.2.2.1) (by omega) (by omega) hs
  | 3, _, hd => exact gl_q_use 39 (gl_q3 cx.2.1 ad1 cx.2.2.1) (by omega) (by omega) hs
  | 4, _, hd => exact gl_q_use 52 (gl_q4 cx.2.1 ad1 cx.2.2.1) (by omega) (by omega) hs
  | 5, _, hd => exact gl_q_use 65 (gl_q5 cx.2.1 ad1 cx.2.2.1) (by omega) (by omega) hs
  | 6, _, hd => exact gl_q_use 78 (gl_q6 cx.2.1 ad1 cx.2.2.1) (by omega) (by omega) hs
  | 7, _, hd => exact gl_q_use 91 (gl_q7 cx.2.1 ad1 cx.2.2.1) (by omega) (by omega) hs
  | 8, _, hd => exact gl_q_use 104 (gl_q8 cx.2.1 ad1 cx.2.2.1) (by omega) (by omega) hs
  | t + 9, h, _ => exact absurd h (by omega)
theorem gl_pm_inj : ∀ i : Fin 117, ∀ j : Fin 117, gl_pm.getD i.val 0 = gl_pm.getD j.val 0 → i = j := by decide +kernel
theorem gl_Wd0 {cx : gw_Cx} (h : cx.2.2.2.2 0 = 0) (m : gw_Mem) : gw_Wd cx m = gw_W0 cx m := by
  unfold gw_Wd gw_xt
  rw [if_pos h, List.append_nil]
theorem gl_world {cx : gw_Cx} (h0 : cx.2.2.2.2 0 = 0) {ad1 : Nat → Nat} {H : Heap} (hP : va_P cx.1 vwCl (gl_W cx.2.1 ad1) H) (hD : va_D (gw_A cx) (gl_W cx.2.1 ad1)) : va_P cx.1 vwCl (gw_Wd (gl_cx cx ad1) gl_m0) H ∧ gw_ap (gl_cx cx ad1) := by
  rw [gl_Wd0 (cx := gl_cx cx ad1) h0]
  refine ⟨hP.by (fun k => gl_pm.getD k 0) (fun k q hq => gl_sub k q hq), ?_⟩
  have h1 : va_D (gw_A cx) (gw_W0 (gl_cx cx ad1) gl_m0) := hD.by (fun k => gl_pm.getD k 0) (fun k q hq => gl_sub k q hq) (fun i j hi hj hij => by
    rw [gw_W0_len] at hi hj
    have := gl_pm_inj ⟨i, hi⟩ ⟨j, hj⟩ hij
    exact congrArg Fin.val this)
  have h2 : ∀ i : Nat, i < 117 → ∃ e : va_E, (gw_W0 (gl_cx cx ad1) gl_m0)[i]? = some ((gl_cx cx ad1).2.2.1 i, e) := fun i hi => by
    obtain ⟨s, hs⟩ : ∃ s, gw_SH[i]? = some s := by
      rw [← gw_SHlen] at hi
      exact ⟨_, List.getElem?_eq_getElem hi⟩
    exact ⟨_, gw_W0_get hs⟩
  have he : gw_ex (gl_cx cx ad1) = 0 := by
    unfold gw_ex
    exact if_pos h0
  unfold gw_ap
  rw [he]
  refine ⟨fun i j hi hj hij => ?_, fun i hi => ?_⟩
  · obtain ⟨e1, h3⟩ := h2 i (by omega)
    obtain ⟨e2, h4⟩ := h2 j (by omega)
    exact h1.1 i j _ _ h3 h4 hij
  · obtain ⟨e1, h3⟩ := h2 i (by omega)
    exact h1.2 i _ h3
theorem gl_Stat {cx cx' : gw_Cx} {U : State} {H : Heap} (h : gw_Stat cx U H) (h1 : cx'.2.2.2.1 = cx.2.2.2.1) (h2 : ∀ o : Nat, 900 ≤ o → cx'.2.2.1 o = cx.2.2.1 o) (h3 : ∀ k : Nat, 1 ≤ k → cx'.2.2.2.2 k = cx.2.2.2.2 k) : gw_Stat cx' U H := by
  have hA : gw_A cx' = gw_A cx := by
    unfold gw_A
    rw [h1]
  have hx : (fun j : Nat => Int32.ofInt (cx'.2.2.2.2 (2 + j))) = fun j : Nat => Int32.ofInt (cx.2.2.2.2 (2 + j)) := funext fun j => by rw [h3 _ (by omega)]
  obtain ⟨a, b, c⟩ := h
  refine ⟨fun i hi => by rw [hA, h2 (1000 + i) (by omega)]; exact a i hi, ?_, c⟩
  obtain ⟨b1, b2, b3, b4⟩ := b
  refine ⟨by rw [hx, h2 900 (by omega), h3 1 (by omega)]; exact b1, by rw [hA, h2 900 (by omega)]; exact b2, by rw [h3 1 (by omega)]; exact b3, fun j => by rw [h3 _ (by omega)]; exact b4 j⟩
theorem gl_ad_big (ad1 ad0 : Nat → Nat) {o : Nat} (h : 117 ≤ o) : gl_ad ad1 ad0 o = ad0 o := by
  unfold gl_ad
  rw [if_neg (by omega)]
