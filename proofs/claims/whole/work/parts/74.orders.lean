/-! orders of groups, by rank -/
def gd_pm (n : Nat) (p : Nat → Int) : Prop := ∀ i : Nat, i < n → (0 ≤ p i ∧ p i < n) ∧ ∀ j : Nat, j < i → p j ≠ p i
theorem gd_pm_inj {n : Nat} {p : Nat → Int} (h : gd_pm n p) {a b : Nat} (ha : a < n) (hb : b < n) (e : a ≠ b) : p a ≠ p b := by
  rcases Nat.lt_or_gt_of_ne e with z | z
  · exact (h b hb).2 a z
  · exact fun q => (h a ha).2 b z q.symm
theorem gd_pig2 : ∀ (n m : Nat) (f : Nat → Int), (∀ i : Nat, i < m → 0 ≤ f i ∧ f i < n) → (∀ a b : Nat, a < m → b < m → a ≠ b → f a ≠ f b) → m ≤ n := by
  intro n
  induction n with
  | zero =>
    intro m f h _
    by_cases z : m = 0
    · omega
    · have := h 0 (by omega)
      omega
  | succ n ih =>
    intro m f h inj
    by_cases c : ∃ i : Nat, i < m ∧ f i = n
    · obtain ⟨i, hi, e⟩ := c
      have := ih (m - 1) (fun j => if j < i then f j else f (j + 1)) (fun j hj => by
        try dsimp only
        split
        · have h1 := h j (by omega)
          have h2 := inj j i (by omega) hi (by omega)
          omega
        · have h1 := h (j + 1) (by omega)
          have h2 := inj (j + 1) i (by omega) hi (by omega)
          omega) (fun a b ha hb hab => by
        try dsimp only
        split <;> split
        · exact inj _ _ (by omega) (by omega) (by omega)
        · exact inj _ _ (by omega) (by omega) (by omega)
        · exact inj _ _ (by omega) (by omega) (by omega)
        · exact inj _ _ (by omega) (by omega) (by omega))
      omega
    · have := ih m f (fun j hj => by
        have h1 := h j hj
        have h2 : f j ≠ n := fun e => c ⟨j, hj, e⟩
        omega) inj
      omega
theorem gd_pm_on {n : Nat} {p : Nat → Int} (h : gd_pm n p) {v : Int} (h0 : 0 ≤ v) (h1 : v < n) : ∃ i : Nat, i < n ∧ p i = v := by
  refine Classical.byContradiction fun c => ?_
  have no : ∀ i : Nat, i < n → p i ≠ v := fun i hi e => c ⟨i, hi, e⟩
  have := gd_pig2 n (n + 1) (fun i => if i < n then p i else v) (fun i hi => by
    try dsimp only
    split
    · exact (h i (by assumption)).1
    · exact ⟨h0, h1⟩) (fun a b ha hb hab => by
    try dsimp only
    split <;> split
    · exact gd_pm_inj h (by assumption) (by assumption) hab
    · exact no a (by assumption)
    · exact fun e => no b (by assumption) e.symm
    · omega)
  omega
def gd_rk (p : Nat → Int) : Nat → Int
  | 0 => 0
  | k + 1 => 6 * gd_rk p k + p k
theorem gd_rk_congr {p q : Nat → Int} {k : Nat} (h : ∀ a : Nat, a < k → p a = q a) : gd_rk p k = gd_rk q k := by
  induction k with
  | zero => rfl
  | succ k ih => rw [gd_rk, gd_rk, ih (fun a ha => h a (by omega)), h k (by omega)]
theorem gd_rk_lt {p q : Nat → Int} {n t : Nat} (hp : ∀ a : Nat, a < n → 0 ≤ p a ∧ p a ≤ 5) (hq : ∀ a : Nat, a < n → 0 ≤ q a ∧ q a ≤ 5) (ht : t < n) (e : ∀ a : Nat, a < t → p a = q a) (h : p t < q t) : gd_rk p n < gd_rk q n := by
  have go : ∀ d : Nat, t + 1 + d ≤ n → gd_rk p (t + 1 + d) < gd_rk q (t + 1 + d) := by
    intro d
    induction d with
    | zero =>
      intro _
      have := gd_rk_congr e
      show 6 * gd_rk p t + p t < 6 * gd_rk q t + q t
      omega
    | succ d ih =>
      intro hd
      have h1 := ih (by omega)
      have h2 := hp (t + 1 + d) (by omega)
      have h3 := hq (t + 1 + d) (by omega)
      show 6 * gd_rk p (t + 1 + d) + p (t + 1 + d) < 6 * gd_rk q (t + 1 + d) + q (t + 1 + d)
      omega
  have := go (n - (t + 1)) (by omega)
  rwa [show t + 1 + (n - (t + 1)) = n by omega] at this
theorem gd_firstd (p q : Nat → Int) (n : Nat) : (∀ a : Nat, a < n → p a = q a) ∨ ∃ t : Nat, t < n ∧ (∀ a : Nat, a < t → p a = q a) ∧ p t ≠ q t := by
  induction n with
  | zero => exact Or.inl (fun a ha => by omega)
  | succ n ih =>
    rcases ih with h | ⟨t, h1, h2⟩
    · by_cases c : p n = q n
      · refine Or.inl (fun a ha => ?_)
        by_cases e : a = n
        · rw [e]; exact c
        · exact h a (by omega)
      · exact Or.inr ⟨n, by omega, h, c⟩
    · exact Or.inr ⟨t, by omega, h2⟩
theorem gd_pm_5 {n : Nat} {p : Nat → Int} (hn : n ≤ 6) (h : gd_pm n p) : ∀ a : Nat, a < n → 0 ≤ p a ∧ p a ≤ 5 := fun a ha => by
  have := (h a ha).1
  omega
theorem gd_rk_of {p q : Nat → Int} {n : Nat} (hn : n ≤ 6) (hp : gd_pm n p) (hq : gd_pm n q) (h : gd_rk p n < gd_rk q n) : ∃ t : Nat, t < n ∧ (∀ a : Nat, a < t → p a = q a) ∧ p t < q t := by
  rcases gd_firstd p q n with z | ⟨t, h1, h2, h3⟩
  · have := gd_rk_congr z
    omega
  · refine ⟨t, h1, h2, ?_⟩
    refine Classical.byContradiction fun c => ?_
    have := gd_rk_lt (gd_pm_5 hn hq) (gd_pm_5 hn hp) h1 (fun a ha => (h2 a ha).symm) (by omega)
    omega
theorem gd_rk_eq {p q : Nat → Int} {n : Nat} (hn : n ≤ 6) (hp : gd_pm n p) (hq : gd_pm n q) (h : gd_rk p n = gd_rk q n) : ∀ a : Nat, a < n → p a = q a := by
  rcases gd_firstd p q n with z | ⟨t, h1, h2, h3⟩
  · exact z
  · exfalso
    rcases Int.lt_or_gt_of_ne h3 with c | c
    · have := gd_rk_lt (gd_pm_5 hn hp) (gd_pm_5 hn hq) h1 h2 c
      omega
    · have := gd_rk_lt (gd_pm_5 hn hq) (gd_pm_5 hn hp) h1 (fun a ha => (h2 a ha).symm) c
      omega
theorem gd_rk_rng {p : Nat → Int} {n : Nat} (hn : n ≤ 6) (hp : ∀ a : Nat, a < n → 0 ≤ p a ∧ p a ≤ 5) : 0 ≤ gd_rk p n ∧ gd_rk p n < 46656 := by
  have go : ∀ k : Nat, k ≤ n → 0 ≤ gd_rk p k ∧ gd_rk p k < 6 ^ k := by
    intro k
    induction k with
    | zero => intro _; exact ⟨Int.le_refl _, by show (0 : Int) < 6 ^ 0; decide⟩
    | succ k ih =>
      intro hk
      have h1 := ih (by omega)
      have h2 := hp k (by omega)
      rw [gd_rk, Int.pow_succ]
      omega
  have h := go n (Nat.le_refl _)
  refine ⟨h.1, ?_⟩
  have h6 : n = 0 ∨ n = 1 ∨ n = 2 ∨ n = 3 ∨ n = 4 ∨ n = 5 ∨ n = 6 := by omega
  rcases h6 with rfl | rfl | rfl | rfl | rfl | rfl | rfl <;> omega
/-- from an element on where two orders part, the one's comes later in the other -/
theorem gd_pm_later {n : Nat} {p q : Nat → Int} (hp : gd_pm n p) (hq : gd_pm n q) {t : Nat} (ht : t < n) (e : ∀ a : Nat, a < t → q a = p a) : ∃ s : Nat, t ≤ s ∧ s < n ∧ q t = p s := by
  have h1 := (hq t ht).1
  obtain ⟨s, hs, es⟩ := gd_pm_on hp h1.1 h1.2
  refine ⟨s, ?_, hs, es.symm⟩
  refine Nat.le_of_not_lt fun c => ?_
  have := e s c
  exact gd_pm_inj hq (a := s) (b := t) hs ht (by omega) (by rw [this, es])
/-- the next order -/
def gd_tau (n k j i : Nat) : Nat := if i < k then i else if i = k then j else if k + n - i = j then k else k + n - i
theorem gd_next {n k j : Nat} (hn : n ≤ 6) {p : Nat → Int} (hp : gd_pm n p) (hkj : k < j) (hjn : j < n) (desc : ∀ a b : Nat, k + 1 ≤ a → a < b → b < n → p b < p a) (hpj : p k < p j) (hpa : ∀ a : Nat, j < a → a < n → p a < p k) :
    gd_pm n (fun i => p (gd_tau n k j i)) ∧ gd_rk p n < gd_rk (fun i => p (gd_tau n k j i)) n ∧ ∀ q : Nat → Int, gd_pm n q → gd_rk p n < gd_rk q n → gd_rk (fun i => p (gd_tau n k j i)) n ≤ gd_rk q n := by
  have tr : ∀ i : Nat, i < n → gd_tau n k j i < n := by
    intro i hi
    unfold gd_tau
    repeat' split
    all_goals omega
  have ti : ∀ a b : Nat, a < n → b < n → a ≠ b → gd_tau n k j a ≠ gd_tau n k j b := by
    intro a b ha hb hab
    unfold gd_tau
    repeat' split
    all_goals omega
  have pm' : gd_pm n (fun i => p (gd_tau n k j i)) := fun i hi => ⟨(hp _ (tr i hi)).1, fun x hx => gd_pm_inj hp (tr x (by omega)) (tr i hi) (ti x i (by omega) hi (by omega))⟩
  have t1 : ∀ i : Nat, i < k → gd_tau n k j i = i := fun i hi => by unfold gd_tau; rw [if_pos hi]
  have t2 : gd_tau n k j k = j := by unfold gd_tau; rw [if_neg (by omega), if_pos rfl]
  have asc : ∀ x y : Nat, k < x → x < y → y < n → p (gd_tau n k j x) < p (gd_tau n k j y) := by
    intro x y h1 h2 h3
    have t3 : ∀ i : Nat, k < i → gd_tau n k j i = if k + n - i = j then k else k + n - i := fun i hi => by unfold gd_tau; rw [if_neg (by omega), if_neg (by omega)]
    rw [t3 x h1, t3 y (by omega)]
    split <;> split
    · omega
    · -- x goes to k, so its place was j; y's lies ahead of j
      have : p j < p (k + n - y) := desc _ _ (by omega) (by omega) (by omega)
      omega
    · exact hpa _ (by omega) (by omega)
    · exact desc _ _ (by omega) (by omega) (by omega)
  refine ⟨pm', ?_, ?_⟩
  · refine gd_rk_lt (t := k) (gd_pm_5 hn hp) (gd_pm_5 hn pm') (by omega) (fun a ha => ?_) ?_
    · (try dsimp only); rw [t1 a ha]
    · (try dsimp only); rw [t2]; exact hpj
  · intro q hq hlt
    refine Classical.byContradiction fun c => ?_
    obtain ⟨u, hu, eu, lu⟩ := gd_rk_of hn hq pm' (by omega)
    obtain ⟨t, ht, et, lt⟩ := gd_rk_of hn hp hq hlt
    try dsimp only at eu lu
    rcases Nat.lt_trichotomy t k with z | z | z
    · rcases Nat.lt_trichotomy u t with y | y | y
      · rw [t1 u (by omega), et u y] at lu; omega
      · subst y
        rw [t1 u z] at lu; omega
      · have := eu t y
        rw [t1 t z] at this; omega
    · subst z
      obtain ⟨s, s1, s2, s3⟩ := gd_pm_later hp hq ht (fun a ha => (et a ha).symm)
      have s4 : s ≠ t := fun e => by rw [e] at s3; omega
      have s5 : s ≤ j := Nat.le_of_not_lt fun e => by have := hpa s e s2; omega
      have s6 : p j ≤ p s := by
        by_cases e : s = j
        · rw [e]; exact Int.le_refl _
        · exact Int.le_of_lt (desc s j (by omega) (by omega) hjn)
      rcases Nat.lt_trichotomy u t with y | y | y
      · rw [t1 u y, et u y] at lu; omega
      · subst y
        rw [t2] at lu; omega
      · obtain ⟨s', q1, q2, q3⟩ := gd_pm_later pm' hq hu eu
        try dsimp only at q3
        by_cases e : s' = u
        · rw [e] at q3; omega
        · have := asc u s' y (by omega) q2
          omega
    · obtain ⟨s, s1, s2, s3⟩ := gd_pm_later hp hq ht (fun a ha => (et a ha).symm)
      by_cases e : s = t
      · rw [e] at s3; omega
      · have := desc t s (by omega) (by omega) s2
        omega
/-- an order that falls all along is the last -/
theorem gd_last {n : Nat} (hn : n ≤ 6) {p : Nat → Int} (hp : gd_pm n p) (desc : ∀ a b : Nat, a < b → b < n → p b < p a) : ∀ q : Nat → Int, gd_pm n q → gd_rk q n ≤ gd_rk p n := by
  intro q hq
  refine Classical.byContradiction fun c => ?_
  obtain ⟨t, ht, et, lt⟩ := gd_rk_of hn hp hq (by omega)
  obtain ⟨s, s1, s2, s3⟩ := gd_pm_later hp hq ht (fun a ha => (et a ha).symm)
  by_cases e : s = t
  · rw [e] at s3; omega
  · have := desc t s (by omega) s2
    omega
/-- an order that rises all along is the first -/
theorem gd_first1 {n : Nat} (hn : n ≤ 6) : gd_pm n (fun i => (i : Int)) ∧ ∀ q : Nat → Int, gd_pm n q → gd_rk (fun i => (i : Int)) n ≤ gd_rk q n := by
  have hp : gd_pm n (fun i => (i : Int)) := fun i hi => ⟨by show 0 ≤ (i : Int) ∧ (i : Int) < n; omega, fun j hj => by show (j : Int) ≠ i; omega⟩
  refine ⟨hp, fun q hq => ?_⟩
  refine Classical.byContradiction fun c => ?_
  obtain ⟨t, ht, et, lt⟩ := gd_rk_of hn hq hp (by omega)
  obtain ⟨s, s1, s2, s3⟩ := gd_pm_later hp hq ht et
  try dsimp only at lt s3
  omega
/-- a run that falls step by step falls all along -/
theorem gd_falls {n k : Nat} {p : Nat → Int} (h : ∀ a : Nat, k ≤ a → a + 1 < n → p (a + 1) < p a) : ∀ a b : Nat, k ≤ a → a < b → b < n → p b < p a := by
  intro a b ha hab hb
  have go : ∀ d : Nat, a + 1 + d < n → p (a + 1 + d) < p a := by
    intro d
    induction d with
    | zero => exact fun z => h a ha z
    | succ d ih =>
      intro z
      have h1 := ih (by omega)
      have h2 := h (a + 1 + d) (by omega) (by omega)
      rw [show a + 1 + (d + 1) = a + 1 + d + 1 by omega]
      omega
  have := go (b - (a + 1)) (by omega)
  rwa [show a + 1 + (b - (a + 1)) = b by omega] at this
/-! what is waited -/
/-- when the bridge is free, and how long all waited, behind the first k by an order -/
def gz_wq (cm nd : Int → Int) (p : Nat → Int) : Nat → Int × Int
  | 0 => (0, 0)
  | k + 1 => (max (gz_wq cm nd p k).1 (cm (p k)) + nd (p k), (gz_wq cm nd p k).2 + (max (gz_wq cm nd p k).1 (cm (p k)) - cm (p k)))
theorem gz_wq_congr {cm nd : Int → Int} {p q : Nat → Int} {k : Nat} (h : ∀ a : Nat, a < k → p a = q a) : gz_wq cm nd p k = gz_wq cm nd q k := by
  induction k with
  | zero => rfl
  | succ k ih => rw [gz_wq, gz_wq, ih (fun a ha => h a (by omega)), h k (by omega)]
def gd_okg (cm nd : Int → Int) (n : Nat) : Prop := ∀ x : Int, 0 ≤ x → x < n → (0 ≤ cm x ∧ cm x ≤ 999) ∧ 1 ≤ nd x ∧ nd x ≤ 99
theorem gz_wq_rng {cm nd : Int → Int} {n : Nat} (hg : gd_okg cm nd n) {p : Nat → Int} (k : Nat) (hp : ∀ a : Nat, a < k → 0 ≤ p a ∧ p a < n) : (0 ≤ (gz_wq cm nd p k).1 ∧ (gz_wq cm nd p k).1 ≤ 1000 + 99 * k) ∧ 0 ≤ (gz_wq cm nd p k).2 ∧ (gz_wq cm nd p k).2 ≤ (1000 + 99 * k) * k := by
  induction k with
  | zero => exact ⟨⟨Int.le_refl _, by show (0 : Int) ≤ 1000 + 99 * 0; omega⟩, Int.le_refl _, by show (0 : Int) ≤ (1000 + 99 * 0) * 0; omega⟩
  | succ k ih =>
    have h := ih (fun a ha => hp a (by omega))
    have hk := hp k (by omega)
    have g := hg (p k) hk.1 hk.2
    rw [gz_wq]
    try dsimp only
    refine ⟨⟨by omega, by omega⟩, by omega, ?_⟩
    have e : (1000 + 99 * ((k + 1 : Nat) : Int)) * ((k + 1 : Nat) : Int) = (1000 + 99 * (k : Int)) * k + 99 * k + (1000 + 99 * ((k + 1 : Nat) : Int)) := by
      rw [show ((k + 1 : Nat) : Int) = (k : Int) + 1 by omega, Int.mul_add, show 1000 + 99 * ((k : Int) + 1) = (1000 + 99 * (k : Int)) + 99 by omega, Int.add_mul]
      omega
    omega
theorem gz_wq_mono {cm nd : Int → Int} {p : Nat → Int} (i d : Nat) : (gz_wq cm nd p i).2 ≤ (gz_wq cm nd p (i + d)).2 := by
  induction d with
  | zero => exact Int.le_refl _
  | succ d ih =>
    rw [show i + (d + 1) = (i + d) + 1 by omega, gz_wq]
    try dsimp only
    omega
/-- the order by which least is waited, the first of like ones -/
def gz_bo (cm nd : Int → Int) (n : Nat) (b : Nat → Int) : Prop := gd_pm n b ∧ ∀ q : Nat → Int, gd_pm n q → (gz_wq cm nd b n).2 < (gz_wq cm nd q n).2 ∨ ((gz_wq cm nd b n).2 = (gz_wq cm nd q n).2 ∧ gd_rk b n ≤ gd_rk q n)
theorem gz_bo_uniq {cm nd : Int → Int} {n : Nat} (hn : n ≤ 6) {b b' : Nat → Int} (h : gz_bo cm nd n b) (h' : gz_bo cm nd n b') : (∀ a : Nat, a < n → b a = b' a) ∧ (gz_wq cm nd b n).2 = (gz_wq cm nd b' n).2 := by
  have h1 := h.2 b' h'.1
  have h2 := h'.2 b h.1
  have e : gd_rk b n = gd_rk b' n := by omega
  exact ⟨gd_rk_eq hn h.1 h'.1 e, by omega⟩
/-- what slots answers -/
def gd_isl (g : gw_Mem) (s l i n k v : Int) : Prop := (¬ ((0 ≤ s ∧ s ≤ 3) ∧ (0 ≤ l ∧ l ≤ 2) ∧ (2 ≤ n ∧ n ≤ 6) ∧ -1 ≤ k ∧ k ≤ n - 1) → v = -1) ∧ (((0 ≤ s ∧ s ≤ 3) ∧ (0 ≤ l ∧ l ≤ 2) ∧ (2 ≤ n ∧ n ≤ 6) ∧ -1 ≤ k ∧ k ≤ n - 1) → (gd_fd g s l i (2 * n) < 0 → v = gd_fd g s l i (2 * n)) ∧ (0 ≤ gd_fd g s l i (2 * n) → (¬ gd_okg (fun x : Int => g 140 (24 * s + i + 2 * x)) (fun x : Int => g 140 (24 * s + i + 2 * x + 1)) n.toNat → v = -2) ∧ (gd_okg (fun x : Int => g 140 (24 * s + i + 2 * x)) (fun x : Int => g 140 (24 * s + i + 2 * x + 1)) n.toNat → ∃ b : Nat → Int, gz_bo (fun x : Int => g 140 (24 * s + i + 2 * x)) (fun x : Int => g 140 (24 * s + i + 2 * x + 1)) n.toNat b ∧ v = if 0 ≤ k then b k.toNat else (gz_wq (fun x : Int => g 140 (24 * s + i + 2 * x)) (fun x : Int => g 140 (24 * s + i + 2 * x + 1)) b n.toNat).2)))
theorem gd_isl_uniq {g : gw_Mem} {s l i n k v v' : Int} (h : gd_isl g s l i n k v) (h' : gd_isl g s l i n k v') : v = v' := by
  by_cases c1 : (0 ≤ s ∧ s ≤ 3) ∧ (0 ≤ l ∧ l ≤ 2) ∧ (2 ≤ n ∧ n ≤ 6) ∧ -1 ≤ k ∧ k ≤ n - 1
  · have a := h.2 c1
    have a' := h'.2 c1
    by_cases c2 : gd_fd g s l i (2 * n) < 0
    · rw [a.1 c2, a'.1 c2]
    · have b := a.2 (by omega)
      have b' := a'.2 (by omega)
      by_cases c3 : gd_okg (fun x : Int => g 140 (24 * s + i + 2 * x)) (fun x : Int => g 140 (24 * s + i + 2 * x + 1)) n.toNat
      · obtain ⟨o, h1, rfl⟩ := b.2 c3
        obtain ⟨o', h1', rfl⟩ := b'.2 c3
        have u := gz_bo_uniq (n := n.toNat) (by omega) h1 h1'
        by_cases hk : 0 ≤ k
        · rw [if_pos hk, if_pos hk]
          exact u.1 k.toNat (by omega)
        · rw [if_neg hk, if_neg hk]
          exact u.2
      · rw [b.1 c3, b'.1 c3]
  · rw [h.1 c1, h'.1 c1]
