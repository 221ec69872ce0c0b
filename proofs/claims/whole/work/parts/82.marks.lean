/-! the class reads a text: clauses -/
def gc_M (G m : gw_Mem) : Prop := ∃ u : gw_Mem, gc_P G u 47 ∧ ∀ o : Nat, 48 ≤ o → o < 61 → u o = m o
def gc_N (G m : gw_Mem) : Prop := ∃ u : gw_Mem, gc_P G u 47 ∧ ∀ o : Nat, 61 ≤ o → o < 65 → u o = m o
theorem gc_M_h {G m m' : gw_Mem} (h : gc_M G m) (hm : ∀ o : Nat, 48 ≤ o → o < 61 → m' o = m o) : gc_M G m' := by
  obtain ⟨u, h1, h2⟩ := h
  exact ⟨u, h1, fun o a b => by rw [h2 o a b, hm o a b]⟩
theorem gc_N_h {G m m' : gw_Mem} (h : gc_N G m) (hm : ∀ o : Nat, 61 ≤ o → o < 65 → m' o = m o) : gc_N G m' := by
  obtain ⟨u, h1, h2⟩ := h
  exact ⟨u, h1, fun o a b => by rw [h2 o a b, hm o a b]⟩
theorem gc_add_congr {u m : gw_Mem} (h : ∀ o : Nat, 48 ≤ o → o < 61 → u o = m o) (k p l : Int) : ∀ o : Nat, 48 ≤ o → o < 61 → gc_add u 48 k p l o = gc_add m 48 k p l o := by
  intro o a b
  funext j
  unfold gc_add
  have e := h 49 (by omega) (by omega)
  have eo := h o a b
  rw [show 48 + 1 = 49 from rfl, e]
  by_cases c : k = 0
  · rw [if_pos c, if_pos c]
    simp only [gw_up, eo]
  · rw [if_neg c, if_neg c]
    simp only [gw_up, eo]
theorem gc_join_congr {u m : gw_Mem} (h : ∀ o : Nat, 61 ≤ o → o < 65 → u o = m o) (k p e : Int) : ∀ o : Nat, 61 ≤ o → o < 65 → gc_join u 61 k p e o = gc_join m 61 k p e o := by
  intro o a b
  funext j
  unfold gc_join
  have e1 := h 61 (by omega) (by omega)
  have eo := h o a b
  rw [e1]
  simp only [gw_up, eo]
theorem gc_add_ne (m : gw_Mem) (k p l : Int) (hk : 0 ≤ k ∧ k ≤ 3) {o : Nat} (h : ¬ (48 ≤ o ∧ o < 61)) : gc_add m 48 k p l o = m o := by
  unfold gc_add
  rw [gw_up_ne (by omega)]
  split
  · rw [gw_up_ne (by omega), gw_up_ne (by omega), gw_up_ne (by omega)]
  · rw [gw_up_ne (by omega), gw_up_ne (by omega)]
theorem gc_join_ne (m : gw_Mem) (k p e : Int) {o : Nat} (h : ¬ (61 ≤ o ∧ o < 65)) : gc_join m 61 k p e o = m o := by
  unfold gc_join
  rw [gw_up_ne (by omega), gw_up_ne (by omega), gw_up_ne (by omega), gw_up_ne (by omega)]
theorem gc_M_comes {G m : gw_Mem} (hJ : gd_JP G) (h : gc_M G m) {k p l : Int} (hk : 0 ≤ k ∧ k ≤ 3) (hn : G 118 k < 8) : gc_M (gd_comes G k p l) (gc_add m 48 k p l) := by
  obtain ⟨u, h1, h2⟩ := h
  exact ⟨gc_add u 48 k p l, gc_P_comes hJ h1 hk hn, gc_add_congr h2 k p l⟩
theorem gc_N_joins {G m : gw_Mem} (h : gc_N G m) {k p e : Int} : gc_N (gd_joins G k p e) (gc_join m 61 k p e) := by
  obtain ⟨u, h1, h2⟩ := h
  exact ⟨gc_join u 61 k p e, gc_P_joins h1, gc_join_congr h2 k p e⟩
theorem gc_mk_congr {u m : gw_Mem} {k : Int} (p : Int) (h : u (48 + 5 + k.toNat) = m (48 + 5 + k.toNat)) (n : Nat) : gc_mk u 48 k p n = gc_mk m 48 k p n := by
  induction n with
  | zero => rfl
  | succ n ih => rw [gc_mk, gc_mk, ih, h]
theorem gc_tl_congr {u m : gw_Mem} (h : u 62 = m 62) (n : Nat) : gc_tl u 61 n = gc_tl m 61 n := by
  induction n with
  | zero => rfl
  | succ n ih => rw [gc_tl, gc_tl, ih, show 61 + 1 = 62 from rfl, h]
theorem gc_M_sz {G m : gw_Mem} (h : gc_M G m) {k : Int} (hk : 0 ≤ k ∧ k ≤ 3) : m 49 k = G 118 k := by
  obtain ⟨u, h1, h2⟩ := h
  rw [← h2 49 (by omega) (by omega)]
  exact h1.2.1 k hk
theorem gc_N_sz {G m : gw_Mem} (h : gc_N G m) : m 61 0 = G 117 6 := by
  obtain ⟨u, h1, h2⟩ := h
  rw [← h2 61 (by omega) (by omega)]
  exact h1.2.2.2.2.1
theorem gc_M_mk {G m : gw_Mem} (h : gc_M G m) {k p : Int} (hk : 0 ≤ k ∧ k ≤ 3) (hs : 0 ≤ G 118 k) : gc_mk m 48 k p (G 118 k).toNat = true ↔ 0 ≤ gd_ma G k p (G 118 k).toNat := by
  obtain ⟨u, h1, h2⟩ := h
  rw [← gc_mk_congr p (h2 (48 + 5 + k.toNat) (by omega) (by omega))]
  exact gc_mk_ma h1 hk hs
theorem gc_N_tl {G m : gw_Mem} (hJ : gd_JP G) (h : gc_N G m) : 0 ≤ gc_tl m 61 (G 117 6).toNat ↔ 0 ≤ gd_tl G (G 117 6).toNat := by
  obtain ⟨u, h1, h2⟩ := h
  rw [← gc_tl_congr (h2 62 (by omega) (by omega))]
  have := gc_tl_tl hJ h1
  rw [show 47 + 14 = 61 from rfl] at this
  omega
theorem gd_wm_congr (g : gw_Mem) {r r' : Int → Int} (n : Nat) (h : ∀ j : Int, j < 3 * (n : Int) → r' j = r j) : gd_wm g r' n = gd_wm g r n := by
  induction n with
  | zero => rfl
  | succ n ih => rw [gd_wm, gd_wm, ih (fun j hj => h j (by omega)), h _ (by omega), h _ (by omega), h _ (by omega)]
theorem gd_gm_congr (g : gw_Mem) {r r' : Int → Int} (n : Nat) (h : ∀ j : Int, j < 3 * (n : Int) → r' j = r j) : gd_gm g r' n = gd_gm g r n := by
  induction n with
  | zero => rfl
  | succ n ih => rw [gd_gm, gd_gm, ih (fun j hj => h j (by omega)), h _ (by omega), h _ (by omega), h _ (by omega)]
/-- the marks laid are those read -/
theorem gd_wm_has (g : gw_Mem) (r : Int → Int) (n : Nat) (hn : n ≤ 8) (hC : ∀ k : Nat, k < n → gz_Cw r k) (k p : Int) (hk : 0 ≤ k ∧ k ≤ 3) : (∃ j : Nat, j < (gd_wm g r n 118 k).toNat ∧ gd_wm g r n 119 (8 * k + j) = p) ↔ ∃ i : Nat, i < n ∧ r (3 * (i : Int)) = k ∧ r (3 * (i : Int) + 1) = p := by
  induction n with
  | zero =>
    constructor
    · rintro ⟨j, hj, _⟩
      have := gd_wm_8 g r 0 k hk
      omega
    · rintro ⟨i, hi, _⟩
      omega
  | succ n ih =>
    have ih := ih (by omega) (fun k hk => hC k (by omega))
    have c := (hC n (by omega)).1
    have b := gd_wm_8 g r n k hk
    have bc := gd_wm_8 g r n (r (3 * (n : Int))) c
    rw [gd_wm, gd_comes_8]
    simp only [gd_comes_9]
    constructor
    · rintro ⟨j, hj, e⟩
      by_cases d : k = r (3 * (n : Int))
      · rw [if_pos d] at hj
        by_cases d2 : 8 * k + (j : Int) = 8 * r (3 * (n : Int)) + gd_wm g r n 118 (r (3 * (n : Int)))
        · rw [if_pos d2] at e
          exact ⟨n, by omega, d.symm, e⟩
        · rw [if_neg d2] at e
          rw [← d] at hj d2
          obtain ⟨i, hi, q⟩ := ih.mp ⟨j, by omega, e⟩
          exact ⟨i, by omega, q⟩
      · rw [if_neg d] at hj
        rw [if_neg (by omega)] at e
        obtain ⟨i, hi, q⟩ := ih.mp ⟨j, hj, e⟩
        exact ⟨i, by omega, q⟩
    · rintro ⟨i, hi, q1, q2⟩
      by_cases d : i = n
      · subst d
        refine ⟨(gd_wm g r i 118 k).toNat, ?_, ?_⟩
        · rw [if_pos q1.symm, q1]; omega
        · rw [if_pos (by rw [q1]; omega)]; exact q2
      · obtain ⟨j, hj, e⟩ := ih.mpr ⟨i, by omega, q1, q2⟩
        refine ⟨j, ?_, ?_⟩
        · by_cases d2 : k = r (3 * (n : Int))
          · rw [if_pos d2, ← d2]; omega
          · rw [if_neg d2]; exact hj
        · rw [if_neg ?_]
          · exact e
          · by_cases d2 : k = r (3 * (n : Int))
            · rw [← d2]; omega
            · omega
theorem gd_wm_tk (g : gw_Mem) (r : Int → Int) (n : Nat) (hn : n ≤ 8) (hC : ∀ k : Nat, k < n → gz_Cw r k) (k p : Int) (hk : 0 ≤ k ∧ k ≤ 3) : 0 ≤ gd_ma (gd_wm g r n) k p (gd_wm g r n 118 k).toNat ↔ gz_tk r k p n = 1 := by
  rw [(gz_tk_iff r k p n).2, ← gd_wm_has g r n hn hC k p hk]
  have ng := gd_ma_neg (gd_wm g r n) k p (gd_wm g r n 118 k).toNat
  constructor
  · intro z
    refine Classical.byContradiction fun c => ?_
    have := ng.mpr (fun j hj e => c ⟨j, hj, e⟩)
    omega
  · rintro ⟨j, hj, e⟩
    refine Classical.byContradiction fun c => ?_
    exact ng.mp (by omega) j hj e
theorem gd_gm_tt (g : gw_Mem) (r : Int → Int) (n : Nat) : 0 ≤ gd_tl (gd_gm g r n) n ↔ gz_tt r n = 1 := by
  rw [(gz_tt_iff r n).2]
  have ng := gd_tl_neg (gd_gm g r n) n
  constructor
  · intro z
    refine Classical.byContradiction fun c => ?_
    have := ng.mpr (fun j hj e => c ⟨j, hj, by rw [← gd_gm_3 g r n j hj]; exact e⟩)
    omega
  · rintro ⟨j, hj, e⟩
    refine Classical.byContradiction fun c => ?_
    exact ng.mp (by omega) j hj (by rw [gd_gm_3 g r n j hj]; exact e)
theorem sp_X9_readMark (t : Int → Int) (L p : Int) (g m : gw_Mem) (hJ : gd_JP g) (hT : gz_tc t L m) (hp : m 46 2 = p) (h : 0 ≤ p ∧ p ≤ L) (r : Int → Int) (n : Nat) (hn : n < 8) (hC : ∀ k : Nat, k < n → gz_Cw r k) (hM : gc_M (gd_wm g r n) m) : gw_SpecI M_X9_readMark 14 [gR 46, gR 48] m (fun v m' => ((gz_mc t L r n p).1 = 0 → v = 0) ∧ ((gz_mc t L r n p).1 = 1 → v = 1 ∧ gc_M (gd_comes (gd_wm g r n) (gz_mc t L r n p).2.2.1 (gz_mc t L r n p).2.2.2.1 (gz_mc t L r n p).2.2.2.2) m') ∧ (∀ o : Nat, o ≠ 46 → ¬ (48 ≤ o ∧ o < 61) → m' o = m o) ∧ m' 46 1 = m 46 1 ∧ m' 46 2 = (gz_mc t L r n p).2.1) := by
  refine gw_intro pl_X9_readMark rfl (fun Γ => ?_)
  obtain ⟨c, hc⟩ : ∃ c, c = gz_mc t L r n p := ⟨_, rfl⟩
  rw [← hc]
  unfold gz_mc at hc
  have hL := hT.2.1
  have JG := gd_wm_JP hJ r n (by omega) hC
  have b48 : gw_isMarks 48 := by unfold gw_isMarks; omega
  have a1 := gz_ne_in t h
  have a2 := gz_kd_in (gz_by t L (gz_ne t L p)) 115 108 119 116
  have tk := fun k p hk => gd_wm_tk g r n (by omega) hC k p hk
  have wm8 := fun k hk => gd_wm_8 g r n k hk
  generalize gd_wm g r n = G at *
  have bad : ∀ u : gw_Mem, c.1 = 0 → gz_h m u → u 46 2 = c.2.1 → ∃ v, (some (gI 0) : Option gw_SV) = some (gI v) ∧ (c.1 = 0 → v = 0) ∧ (c.1 = 1 → v = 1 ∧ gc_M (gd_comes G c.2.2.1 c.2.2.2.1 c.2.2.2.2) u) ∧ (∀ o : Nat, o ≠ 46 → ¬ (48 ≤ o ∧ o < 61) → u o = m o) ∧ u 46 1 = m 46 1 ∧ u 46 2 = c.2.1 := by
    intro u h0 hu hu2
    exact ⟨0, rfl, fun _ => rfl, fun z => by omega, fun o o1 _ => hu.1 o o1, hu.2, hu2⟩
  apply r_X9_readMark_0 48 b48
  refine gw_CI.of (sp_X9_signNumber 2000 (Or.inl rfl) t L p m hT hp h) rfl (fun v1 m2 _ _ hv => ?_)
  obtain ⟨k1, k2, h2, h3⟩ := hv
  rw [show gz_l4 2000 = (115, 108, 119, 116) from rfl] at k1 k2
  dsimp only at k1 k2
  by_cases c1 : gz_kd (gz_by t L (gz_ne t L p)) 115 108 119 116 < 0
  · rw [if_pos c1] at hc
    have e := k1 c1
    subst e
    exact ⟨fun z => absurd z (by omega), fun _ => bad m2 (by rw [hc]) h2 (by rw [hc]; exact h3)⟩
  rw [if_neg c1] at hc
  have e := k2 c1
  subst e
  have b1 : gz_by t L (gz_ne t L p) ≠ 0 := by
    rcases a2 with a2 | a2
    · omega
    · exact a2.2.2
  have b2 := gz_by_lt b1
  rw [h3]
  generalize gz_kd (gz_by t L (gz_ne t L p)) 115 108 119 116 = KD at *
  generalize gz_ne t L p = P1 at *
  have hk : 0 ≤ KD ∧ KD ≤ 3 := by omega
  refine ⟨fun _ => ?_, fun z => absurd (by omega) z⟩
  have hp1 : 0 ≤ P1 + 1 ∧ P1 + 1 ≤ L := by omega
  rw [gw_w_id (x := P1 + 1) (by omega)]
  have u2 := gz_h_u2 m2 (P1 + 1)
  generalize gw_up m2 46 2 (P1 + 1) = m3 at *
  have h13 := gz_h_tr h2 u2.1
  refine gw_CI.of (sp_X9_readNumber t L (P1 + 1) 0 99 (by omega) (by omega) m3 (gz_h_tc h13 hT) u2.2.1 hp1) rfl (fun v4 m5 _ _ hv => ?_)
  obtain ⟨n1, n2, n3, n4, n5⟩ := hv
  have a3 := gz_nu_in t (L := L) (lo := 0) (hi := 99) (p := P1 + 1) hp1
  have h15 := gz_h_tr h13 n3
  generalize gz_nu t L 0 99 (P1 + 1) = NU at *
  by_cases c2 : NU.1 = 0
  · rw [if_pos c2] at hc
    have e := n2 c2
    subst e
    exact ⟨fun z => absurd z (by omega), fun _ => bad m5 (by rw [hc]) h15 (by rw [hc]; exact n4)⟩
  rw [if_neg c2] at hc
  have e := n1 (by omega)
  subst e
  refine ⟨fun _ => ?_, fun z => absurd (by omega) z⟩
  have M5 : gc_M G m5 := gc_M_h hM (fun o o1 o2 => h15.1 o (by omega))
  have sz5 := gc_M_sz M5 hk
  have b8 := wm8 KD hk
  refine gw_CI.eq (sp_X3_isTaken 48 b48 KD NU.2.2 m5 hk (by rw [sz5]; omega)) rfl ?_
  have tkd := tk KD NU.2.2 hk
  have mk5 := gc_M_mk M5 (p := NU.2.2) hk b8.1
  rw [show 48 + 1 = 49 from rfl, sz5]
  by_cases c3 : gz_tk r KD NU.2.2 n = 1
  · rw [if_pos c3] at hc
    have e0 : gw_tf (gc_mk m5 48 KD NU.2.2 (G 118 KD).toNat = true) = 1 := by unfold gw_tf; rw [if_pos (mk5.mpr (tkd.mpr c3))]
    rw [e0]
    refine ⟨fun z => absurd z (by omega), fun _ => ?_⟩
    have q := gz_h_u2 m5 (m5 46 3)
    exact bad _ (by rw [hc]) (gz_h_tr h15 q.1) (by rw [q.2.1, hc]; exact n5)
  rw [if_neg c3] at hc
  have nk : ¬ gc_mk m5 48 KD NU.2.2 (G 118 KD).toNat = true := fun z => c3 (tkd.mp (mk5.mp z))
  have e0 : gw_tf (gc_mk m5 48 KD NU.2.2 (G 118 KD).toNat = true) = 0 := by unfold gw_tf; rw [if_neg nk]
  rw [e0]
  refine ⟨fun _ => ?_, fun z => absurd rfl z⟩
  refine gw_CI.of (sp_X9_passes t L NU.2.1 58 (by omega) (by omega) m5 (gz_h_tc h15 hT) n4 a3.1) rfl (fun v10 m11 _ _ hv => ?_)
  obtain ⟨q1, q2, q3⟩ := hv
  have h111 := gz_h_tr h15 q2
  have a5 := gz_ne_in t (L := L) (p := NU.2.1) a3.1
  generalize gz_ne t L NU.2.1 = Q at *
  by_cases c4 : gz_by t L Q = 58
  · rw [if_neg (fun z => z c4)] at hc
    rw [if_pos c4] at q1 q3
    subst q1
    refine ⟨fun z => absurd z (by omega), fun _ => ⟨gw_inm hk.1 (by omega), gw_inm hk.1 (by omega), ?_⟩⟩
    have elo : (gw_sv 0).getD KD.toNat 0 = gd_lo KD := by
      have h4 : KD = 0 ∨ KD = 1 ∨ KD = 2 ∨ KD = 3 := by omega
      rcases h4 with rfl | rfl | rfl | rfl <;> rfl
    have ehi : (gw_sv 1).getD KD.toNat 0 = gd_hi KD := by
      have h4 : KD = 0 ∨ KD = 1 ∨ KD = 2 ∨ KD = 3 := by omega
      rcases h4 with rfl | rfl | rfl | rfl <;> rfl
    rw [elo, ehi]
    have lo0 : 1 ≤ gd_lo KD ∧ gd_hi KD ≤ 50 := by unfold gd_lo gd_hi; constructor <;> split <;> omega
    have b3 := gz_by_lt (t := t) (L := L) (p := Q) (by omega)
    have hq1 : 0 ≤ Q + 1 ∧ Q + 1 ≤ L := by omega
    refine gw_CI.of (sp_X9_readNumber t L (Q + 1) (gd_lo KD) (gd_hi KD) (by omega) (by omega) m11 (gz_h_tc h111 hT) q3 hq1) rfl (fun v13 m14 _ _ hv => ?_)
    obtain ⟨o1, o2, o3, o4, o5⟩ := hv
    have a6 := gz_nu_in t (L := L) (lo := gd_lo KD) (hi := gd_hi KD) (p := Q + 1) hq1
    have h114 := gz_h_tr h111 o3
    generalize gz_nu t L (gd_lo KD) (gd_hi KD) (Q + 1) = N2 at *
    by_cases c5 : N2.1 = 0
    · have e := o2 c5
      subst e
      exact ⟨fun _ => bad m14 (by rw [hc]; exact c5) h114 (by rw [hc]; exact o4), fun z => absurd (by omega) z⟩
    · have e := o1 (by omega)
      subst e
      refine ⟨fun z => absurd z (by omega), fun _ => ?_⟩
      have M14 : gc_M G m14 := gc_M_h hM (fun o o1 o2 => h114.1 o (by omega))
      have sz14 := gc_M_sz M14 hk
      have mk14 := gc_M_mk M14 (p := NU.2.2) hk b8.1
      have nk14 : ¬ gc_mk m14 48 KD NU.2.2 (G 118 KD).toNat = true := fun z => c3 (tkd.mp (mk14.mp z))
      refine gw_CI.eq (sp_X3_add 48 b48 KD NU.2.2 N2.2.2 m14 hk (by rw [sz14]; omega)) rfl ?_
      rw [show 48 + 1 = 49 from rfl, sz14, if_neg nk14, if_neg (by omega), if_neg nk14, if_neg (by omega)]
      refine ⟨1, rfl, fun z => by rw [hc] at z; exact absurd z c5, fun _ => ⟨rfl, ?_⟩, fun o o1 o2 => ?_, ?_, ?_⟩
      · rw [hc]
        exact gc_M_comes (G := G) JG M14 hk (show G 118 KD < 8 by omega)
      · rw [gc_add_ne _ _ _ _ hk o2]
        exact h114.1 o o1
      · rw [gc_add_ne _ _ _ _ hk (by omega)]
        exact h114.2
      · rw [gc_add_ne _ _ _ _ hk (by omega), hc]
        exact o4
  · rw [if_pos c4] at hc
    rw [if_neg c4] at q1 q3
    subst q1
    exact ⟨fun _ => bad m11 (by rw [hc]) h111 (by rw [hc]; show m11 46 2 = Q; omega), fun z => absurd rfl z⟩
theorem sp_X9_readPerson (t : Int → Int) (L p : Int) (g m : gw_Mem) (hJ : gd_JP g) (hT : gz_tc t L m) (hp : m 46 2 = p) (h : 0 ≤ p ∧ p ≤ L) (r : Int → Int) (n : Nat) (hn : n < 10) (hC : ∀ k : Nat, k < n → gz_Cg r k) (hN : gc_N (gd_gm g r n) m) : gw_SpecI M_X9_readPerson 14 [gR 46, gR 61] m (fun v m' => ((gz_pc t L r n p).1 = 0 → v = 0) ∧ ((gz_pc t L r n p).1 = 1 → v = 1 ∧ gc_N (gd_joins (gd_gm g r n) (gz_pc t L r n p).2.2.1 (gz_pc t L r n p).2.2.2.1 (gz_pc t L r n p).2.2.2.2) m') ∧ (∀ o : Nat, o ≠ 46 → ¬ (61 ≤ o ∧ o < 65) → m' o = m o) ∧ m' 46 1 = m 46 1 ∧ m' 46 2 = (gz_pc t L r n p).2.1) := by
  refine gw_intro pl_X9_readPerson rfl (fun Γ => ?_)
  obtain ⟨c, hc⟩ : ∃ c, c = gz_pc t L r n p := ⟨_, rfl⟩
  rw [← hc]
  unfold gz_pc at hc
  have hL := hT.2.1
  have JG := gd_gm_JP hJ r n (by omega) hC
  have b61 : gw_isPeople 61 := by unfold gw_isPeople; omega
  have a1 := gz_ne_in t h
  have a2 := gz_kd_in (gz_by t L (gz_ne t L p)) 112 108 111 116
  have e6 : gd_gm g r n 117 6 = n := by rw [gd_gm_117, if_pos rfl]
  have tt := gd_gm_tt g r n
  generalize gd_gm g r n = G at *
  have en : (G 117 6).toNat = n := by omega
  have tlN := fun (u : gw_Mem) (hu : gc_N G u) => gc_N_tl JG hu
  have bad : ∀ u : gw_Mem, c.1 = 0 → gz_h m u → u 46 2 = c.2.1 → ∃ v, (some (gI 0) : Option gw_SV) = some (gI v) ∧ (c.1 = 0 → v = 0) ∧ (c.1 = 1 → v = 1 ∧ gc_N (gd_joins G c.2.2.1 c.2.2.2.1 c.2.2.2.2) u) ∧ (∀ o : Nat, o ≠ 46 → ¬ (61 ≤ o ∧ o < 65) → u o = m o) ∧ u 46 1 = m 46 1 ∧ u 46 2 = c.2.1 := by
    intro u h0 hu hu2
    exact ⟨0, rfl, fun _ => rfl, fun z => by omega, fun o o1 _ => hu.1 o o1, hu.2, hu2⟩
  apply r_X9_readPerson_0 61 b61
  refine gw_CI.of (sp_X9_signNumber 2001 (Or.inr rfl) t L p m hT hp h) rfl (fun v1 m2 _ _ hv => ?_)
  obtain ⟨k1, k2, h2, h3⟩ := hv
  rw [show gz_l4 2001 = (112, 108, 111, 116) from rfl] at k1 k2
  dsimp only at k1 k2
  by_cases c1 : gz_kd (gz_by t L (gz_ne t L p)) 112 108 111 116 < 0
  · rw [if_pos c1] at hc
    have e := k1 c1
    subst e
    exact ⟨fun _ => bad m2 (by rw [hc]) h2 (by rw [hc]; exact h3), fun z => absurd (by omega) z⟩
  rw [if_neg c1] at hc
  have e := k2 c1
  subst e
  have b1 : gz_by t L (gz_ne t L p) ≠ 0 := by
    rcases a2 with a2 | a2
    · omega
    · exact a2.2.2
  have b2 := gz_by_lt b1
  generalize gz_kd (gz_by t L (gz_ne t L p)) 112 108 111 116 = KD at *
  generalize gz_ne t L p = P1 at *
  have hk : 0 ≤ KD ∧ KD ≤ 3 := by omega
  have N2' : gc_N G m2 := gc_N_h hN (fun o o1 o2 => h2.1 o (by omega))
  have hp1 : 0 ≤ P1 + 1 ∧ P1 + 1 ≤ L := by omega
  -- behind the tail's test
  have go : ¬ (KD = 3 ∧ gz_tt r n = 1) → gw_G M_X9_readPerson 14 (fun r m' => ∃ v, r = some (gI v) ∧ (c.1 = 0 → v = 0) ∧ (c.1 = 1 → v = 1 ∧ gc_N (gd_joins G c.2.2.1 c.2.2.2.1 c.2.2.2.2) m') ∧ (∀ o : Nat, o ≠ 46 → ¬ (61 ≤ o ∧ o < 65) → m' o = m o) ∧ m' 46 1 = m 46 1 ∧ m' 46 2 = c.2.1) Γ 25 [some (gR 46), some (gR 61), some (gI KD), none, none] [] m2 := by
    intro c2
    rw [if_neg c2] at hc
    apply r_X9_readPerson_25 61 b61
    rw [h3, gw_w_id (x := P1 + 1) (by omega)]
    have u2 := gz_h_u2 m2 (P1 + 1)
    generalize gw_up m2 46 2 (P1 + 1) = m3 at *
    have h13 := gz_h_tr h2 u2.1
    refine gw_CI.of (sp_X9_next t L (P1 + 1) m3 (gz_h_tc h13 hT) u2.2.1 hp1) rfl (fun v7 m8 _ _ hv => ?_)
    obtain ⟨x1, x2, x3, x4⟩ := hv
    have h18 := gz_h_tr h13 x2
    have a4 := gz_ne_in t (L := L) (p := P1 + 1) hp1
    have vb : (48 ≤ v7 ∧ v7 ≤ 126 ∧ v7 = gz_by t L (gz_ne t L (P1 + 1))) ∨ ((v7 = -1 ∨ (32 ≤ v7 ∧ v7 < 48)) ∧ ¬ (49 ≤ gz_by t L (gz_ne t L (P1 + 1)) ∧ gz_by t L (gz_ne t L (P1 + 1)) ≤ 52)) := by
      rw [x1]
      unfold gz_by
      by_cases d : L ≤ gz_ne t L (P1 + 1)
      · rw [if_pos d, if_pos d]
        right
        omega
      · rw [if_neg d, if_neg d]
        have := (hT.2.2 (gz_ne t L (P1 + 1)) a4.1.1 (by omega)).2
        omega
    clear x1
    generalize gz_ne t L (P1 + 1) = P2 at *
    rw [gw_w_id (x := v7 - 48) (by omega)]
    refine gw_CI.eq (sp_X11_within (v7 - 48) 1 4 m8) rfl (gw_b_tf (fun d => ?_) (fun d => ?_))
    · rw [if_neg (by omega)] at hc
      exact bad m8 (by rw [hc]) h18 (by rw [hc]; exact x3)
    · have ev : v7 = gz_by t L P2 := by omega
      rw [if_pos (by omega)] at hc
      have b3 := gz_by_lt (t := t) (L := L) (p := P2) (by omega)
      have hp2 : 0 ≤ P2 + 1 ∧ P2 + 1 ≤ L := by omega
      rw [x3, gw_w_id (x := P2 + 1) (by omega)]
      have u8 := gz_h_u2 m8 (P2 + 1)
      generalize gw_up m8 46 2 (P2 + 1) = m9 at *
      have h19 := gz_h_tr h18 u8.1
      refine gw_CI.of (sp_X9_passes t L (P2 + 1) 101 (by omega) (by omega) m9 (gz_h_tc h19 hT) u8.2.1 hp2) rfl (fun v13 m14 _ _ hv => ?_)
      obtain ⟨q1, q2, q3⟩ := hv
      have h114 := gz_h_tr h19 q2
      generalize gz_ne t L (P2 + 1) = P3 at *
      have N14 : gc_N G m14 := gc_N_h hN (fun o o1 o2 => h114.1 o (by omega))
      have sz14 := gc_N_sz N14
      have tl14 := tlN m14 N14
      have be : gw_b v13 := by rw [q1]; split <;> simp [gw_b]
      have ntl : ¬ (KD = 3 ∧ 0 ≤ gc_tl m14 61 (G 117 6).toNat) := fun z => c2 ⟨z.1, tt.mp (by rw [en] at tl14 z; exact tl14.mp z.2)⟩
      refine gw_CI.eq (sp_X5_add 61 b61 KD (v7 - 48) v13 m14 (by rw [sz14]; omega) be) rfl ?_
      rw [sz14, if_neg ntl, if_neg (by omega), if_neg ntl, if_neg (by omega)]
      refine ⟨1, rfl, fun z => by rw [hc] at z; exact absurd z (by show ¬ ((1 : Int) = 0); omega), fun _ => ⟨rfl, ?_⟩, fun o o1 o2 => ?_, ?_, ?_⟩
      · rw [hc]
        dsimp only
        rw [← ev, ← q1]
        exact gc_N_joins N14
      · rw [gc_join_ne _ _ _ _ o2]
        exact h114.1 o o1
      · rw [gc_join_ne _ _ _ _ (by omega)]
        exact h114.2
      · rw [gc_join_ne _ _ _ _ (by omega), hc]
        exact q3
  refine ⟨fun z => absurd z (by omega), fun _ => ⟨fun z3 => ?_, fun z3 => go (fun z => z3 z.1)⟩⟩
  refine gw_CI.eq (sp_X5_tailNumber 61 b61 m2 (by rw [gc_N_sz N2']; omega)) rfl ?_
  have tl2 := tlN m2 N2'
  rw [gc_N_sz N2']
  rw [en] at tl2 ⊢
  refine ⟨fun d => go (fun z => ?_), fun d => ?_⟩
  · have := tl2.mpr (tt.mpr z.2)
    omega
  · have d2 : KD = 3 ∧ gz_tt r n = 1 := ⟨z3, tt.mp (tl2.mp (by omega))⟩
    rw [if_pos d2] at hc
    exact bad m2 (by rw [hc]) h2 (by rw [hc]; exact h3)
