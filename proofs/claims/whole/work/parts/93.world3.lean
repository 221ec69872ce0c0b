/-! the first world as the engine's: all together -/
theorem gl_q_use {f : Nat → gw_Shp → Nat × va_E} {W : va_W} (a : Nat) (h : (gl_mk f a ((gw_SH.drop a).take 12)).map some = ((gl_pm.drop a).take 12).map (fun i => W[i]?)) {k : Nat} {s : gw_Shp} (h1 : a ≤ k) (h2 : k < a + 12) (hs : gw_SH[k]? = some s) : W[gl_pm.getD k 0]? = some (f k s) := by
  have h3 := congrArg (fun l => l[k - a]?) h
  rw [List.getElem?_map, List.getElem?_map, gl_mk_get, List.getElem?_take, List.getElem?_take, if_pos (by omega), if_pos (by omega), List.getElem?_drop, List.getElem?_drop, show a + (k - a) = k by omega, hs] at h3
  cases hp : gl_pm[k]? with
  | none => rw [hp] at h3; cases h3
  | some i =>
    rw [hp] at h3
    rw [List.getD_eq_getElem?_getD, hp]
    exact (Option.some.inj h3).symm
theorem gl_sub {cx : gw_Cx} {ad1 ad2 : Nat → Nat} (k : Nat) (q : Nat × va_E) (hq : (gw_Wd (gl_cx cx ad1 ad2) gl_m0)[k]? = some q) : (gl_W cx.2.1 ad1 ad2)[gl_pm.getD k 0]? = some q := by
  obtain ⟨hk, s, hs, rfl⟩ := gw_Wd_of hq
  rw [gl_cell_eq, gl_cell2_eq]
  show _ = some (gl_f cx.2.1 (gl_ad ad1 ad2 cx.2.2.1) k s)
  have h12 : k / 12 < 12 := by omega
  have hd := Nat.div_add_mod k 12
  have hm := Nat.mod_lt k (show 0 < 12 by omega)
  generalize k / 12 = t at h12 hd
  match t, h12, hd with
  | 0, _, hd => exact gl_q_use 0 (gl_q0 cx.2.1 ad1 ad2 cx.2.2.1) (by omega) (by omega) hs
  | 1, _, hd => exact gl_q_use 12 (gl_q1 cx.2.1 ad1 ad2 cx.2.2.1) (by omega) (by omega) hs
  | 2, _, hd => exact gl_q_use 24 (gl_q2 cx.2.1 ad1 ad2 cx.2.2.1) (by omega) (by omega) hs
  | 3, _, hd => exact gl_q_use 36 (gl_q3 cx.2.1 ad1 ad2 cx.2.2.1) (by omega) (by omega) hs
  | 4, _, hd => exact gl_q_use 48 (gl_q4 cx.2.1 ad1 ad2 cx.2.2.1) (by omega) (by omega) hs
  | 5, _, hd => exact gl_q_use 60 (gl_q5 cx.2.1 ad1 ad2 cx.2.2.1) (by omega) (by omega) hs
  | 6, _, hd => exact gl_q_use 72 (gl_q6 cx.2.1 ad1 ad2 cx.2.2.1) (by omega) (by omega) hs
  | 7, _, hd => exact gl_q_use 84 (gl_q7 cx.2.1 ad1 ad2 cx.2.2.1) (by omega) (by omega) hs
  | 8, _, hd => exact gl_q_use 96 (gl_q8 cx.2.1 ad1 ad2 cx.2.2.1) (by omega) (by omega) hs
  | 9, _, hd => exact gl_q_use 108 (gl_q9 cx.2.1 ad1 ad2 cx.2.2.1) (by omega) (by omega) hs
  | 10, _, hd => exact gl_q_use 120 (gl_q10 cx.2.1 ad1 ad2 cx.2.2.1) (by omega) (by omega) hs
  | 11, _, hd => exact gl_q_use 132 (gl_q11 cx.2.1 ad1 ad2 cx.2.2.1) (by omega) (by omega) hs
  | t + 12, h, _ => exact absurd h (by omega)
theorem gl_pm_inj : ∀ i : Fin 144, ∀ j : Fin 144, gl_pm.getD i.val 0 = gl_pm.getD j.val 0 → i = j := by decide +kernel
theorem gl_world {cx : gw_Cx} {ad1 ad2 : Nat → Nat} {H : Heap} (hP : va_P cx.1 vwCl (gl_W cx.2.1 ad1 ad2) H) (hD : va_D (gw_A cx) (gl_W cx.2.1 ad1 ad2)) : va_P cx.1 vwCl (gw_Wd (gl_cx cx ad1 ad2) gl_m0) H ∧ gw_ap (gl_cx cx ad1 ad2) := by
  refine ⟨hP.by (fun k => gl_pm.getD k 0) (fun k q hq => gl_sub k q hq), ?_⟩
  have h1 : va_D (gw_A cx) (gw_Wd (gl_cx cx ad1 ad2) gl_m0) := hD.by (fun k => gl_pm.getD k 0) (fun k q hq => gl_sub k q hq) (fun i j hi hj hij => by
    rw [gw_Wd_len] at hi hj
    have := gl_pm_inj ⟨i, hi⟩ ⟨j, hj⟩ hij
    exact congrArg Fin.val this)
  have h2 : ∀ i : Nat, i < 144 → ∃ e : va_E, (gw_Wd (gl_cx cx ad1 ad2) gl_m0)[i]? = some ((gl_cx cx ad1 ad2).2.2.1 i, e) := fun i hi => by
    obtain ⟨s, hs⟩ : ∃ s, gw_SH[i]? = some s := by
      rw [← gw_SHlen] at hi
      exact ⟨_, List.getElem?_eq_getElem hi⟩
    exact ⟨_, gw_Wd_get hs⟩
  refine ⟨fun i j hi hj hij => ?_, fun i hi => ?_⟩
  · obtain ⟨e1, h3⟩ := h2 i hi
    obtain ⟨e2, h4⟩ := h2 j hj
    exact h1.1 i j _ _ h3 h4 hij
  · obtain ⟨e1, h3⟩ := h2 i hi
    exact h1.2 i _ h3
theorem gl_Stat {cx cx' : gw_Cx} {U : State} {H : Heap} (h : gw_Stat cx U H) (h1 : cx'.2.2.2.1 = cx.2.2.2.1) (h2 : ∀ o : Nat, 1000 ≤ o → cx'.2.2.1 o = cx.2.2.1 o) (h3 : cx'.2.2.2.2 = cx.2.2.2.2) : gw_Stat cx' U H := by
  have hA : gw_A cx' = gw_A cx := by
    unfold gw_A
    rw [h1]
  have h4 : (fun i : Nat => cx'.2.2.1 (2000 + i)) = fun i : Nat => cx.2.2.1 (2000 + i) := funext fun i => h2 _ (by omega)
  unfold gw_Stat
  rw [hA, h3, h4, h2 2000 (by omega), h2 2001 (by omega)]
  exact ⟨fun i hi => by rw [h2 (1000 + i) (by omega)]; exact h.1 i hi, h.2⟩
theorem gl_ad_big (ad1 ad2 ad0 : Nat → Nat) {o : Nat} (h : 144 ≤ o) : gl_ad ad1 ad2 ad0 o = ad0 o := by
  unfold gl_ad
  rw [if_neg (by omega), if_neg (by omega)]
