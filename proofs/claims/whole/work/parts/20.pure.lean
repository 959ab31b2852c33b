/-! PURE: iterates, permutations of 0 .. N - 1, orbits, their least elements, their numbers -/
def it (g : Nat → Nat) : Nat → Nat → Nat
  | 0, x => x
  | k + 1, x => it g k (g x)
theorem it_succ' (g : Nat → Nat) : ∀ (k x : Nat), it g (k + 1) x = g (it g k x)
  | 0, _ => rfl
  | k + 1, x => it_succ' g k (g x)
theorem it_add (g : Nat → Nat) : ∀ (a b x : Nat), it g (a + b) x = it g a (it g b x)
  | a, 0, _ => rfl
  | a, b + 1, x => it_add g a b (g x)
def PermOn (g : Nat → Nat) (N : Nat) : Prop := (∀ x, x < N → g x < N) ∧ ∀ x y, x < N → y < N → g x = g y → x = y
theorem it_lt {g : Nat → Nat} {N : Nat} (h : ∀ x, x < N → g x < N) : ∀ (k x : Nat), x < N → it g k x < N
  | 0, _, hx => hx
  | k + 1, x, hx => it_lt h k (g x) (h x hx)
theorem it_inj {g : Nat → Nat} {N : Nat} (h : PermOn g N) : ∀ (k x y : Nat), x < N → y < N → it g k x = it g k y → x = y
  | 0, _, _, _, _, e => e
  | k + 1, x, y, hx, hy, e => h.2 x y hx hy (it_inj h k (g x) (g y) (h.1 x hx) (h.1 y hy) e)
theorem pig : ∀ (N : Nat) (f : Nat → Nat), (∀ i, i ≤ N → f i < N) → ∃ i j, i < j ∧ j ≤ N ∧ f i = f j
  | 0, f, h => absurd (h 0 (Nat.le_refl 0)) (Nat.not_lt_zero _)
  | N + 1, f, h => by
    by_cases hq : ∃ i, i ≤ N ∧ f i = f (N + 1)
    · obtain ⟨i, h1, h2⟩ := hq
      exact ⟨i, N + 1, by omega, Nat.le_refl _, h2⟩
    · have hne : ∀ i, i ≤ N → f i ≠ f (N + 1) := fun i hi e => hq ⟨i, hi, e⟩
      obtain ⟨i, j, h1, h2, h3⟩ := pig N (fun i => if f i = N then f (N + 1) else f i) (fun i hi => by
        have h4 := h i (by omega)
        have h5 := h (N + 1) (Nat.le_refl _)
        have h6 := hne i hi
        by_cases e : f i = N
        · rw [if_pos e]; omega
        · rw [if_neg e]; omega)
      refine ⟨i, j, h1, by omega, ?_⟩
      have g1 := hne i (by omega)
      have g2 := hne j (by omega)
      by_cases e1 : f i = N
      · by_cases e2 : f j = N
        · rw [e1, e2]
        · rw [if_pos e1, if_neg e2] at h3
          exact absurd h3.symm g2
      · by_cases e2 : f j = N
        · rw [if_neg e1, if_pos e2] at h3
          exact absurd h3 g1
        · rw [if_neg e1, if_neg e2] at h3
          exact h3
theorem period {g : Nat → Nat} {N : Nat} (h : PermOn g N) {x : Nat} (hx : x < N) : ∃ p, 0 < p ∧ p ≤ N ∧ it g p x = x := by
  obtain ⟨i, j, h1, h2, h3⟩ := pig N (fun k => it g k x) (fun k _ => it_lt h.1 k x hx)
  refine ⟨j - i, by omega, by omega, ?_⟩
  have e : it g j x = it g i (it g (j - i) x) := by rw [← it_add]; congr 1; omega
  have h4 : it g i (it g (j - i) x) = it g i x := e.symm.trans h3.symm
  exact it_inj h i _ _ (it_lt h.1 _ _ hx) hx h4
theorem it_per {g : Nat → Nat} {p x : Nat} (hp : it g p x = x) : ∀ k, it g (k * p) x = x
  | 0 => by rw [Nat.zero_mul]; rfl
  | k + 1 => by rw [Nat.succ_mul, it_add, hp, it_per hp k]
theorem it_mod {g : Nat → Nat} {p x : Nat} (hp : it g p x = x) (k : Nat) : it g k x = it g (k % p) x := by
  have : it g (k % p + (k / p) * p) x = it g (k % p) x := by rw [it_add, it_per hp]
  rw [← this]
  congr 1
  have := Nat.mod_add_div k p
  rw [Nat.mul_comm] at this
  exact this.symm
/-- one orbit -/
def Orb (g : Nat → Nat) (x y : Nat) : Prop := ∃ k, it g k x = y
theorem Orb_refl (g : Nat → Nat) (x : Nat) : Orb g x x := ⟨0, rfl⟩
theorem Orb_step (g : Nat → Nat) (x : Nat) : Orb g x (g x) := ⟨1, rfl⟩
theorem Orb_trans {g : Nat → Nat} {x y z : Nat} (h1 : Orb g x y) (h2 : Orb g y z) : Orb g x z := by
  obtain ⟨a, ha⟩ := h1
  obtain ⟨b, hb⟩ := h2
  exact ⟨b + a, by rw [it_add, ha, hb]⟩
theorem Orb_symm {g : Nat → Nat} {N x y : Nat} (h : PermOn g N) (hx : x < N) (h1 : Orb g x y) : Orb g y x := by
  obtain ⟨k, hk⟩ := h1
  obtain ⟨p, hp0, -, hp⟩ := period h hx
  refine ⟨p * k - k, ?_⟩
  rw [← hk, ← it_add]
  have : p * k - k + k = k * p := by
    have : k ≤ p * k := Nat.le_mul_of_pos_left k hp0
    rw [Nat.mul_comm k p]; omega
  rw [this, it_per hp]
theorem Orb_lt {g : Nat → Nat} {N x y : Nat} (h : PermOn g N) (hx : x < N) (h1 : Orb g x y) : y < N := by
  obtain ⟨k, rfl⟩ := h1
  exact it_lt h.1 k x hx
/-- the least of x and the n behind it -/
def mnA (g : Nat → Nat) : Nat → Nat → Nat
  | 0, x => x
  | n + 1, x => min x (mnA g n (g x))
theorem mnA_le (g : Nat → Nat) : ∀ (n x k : Nat), k ≤ n → mnA g n x ≤ it g k x
  | 0, x, k, h => by
    have : k = 0 := by omega
    subst this; exact Nat.le_refl _
  | n + 1, x, 0, _ => Nat.min_le_left _ _
  | n + 1, x, k + 1, h => Nat.le_trans (Nat.min_le_right _ _) (mnA_le g n (g x) k (by omega))
theorem mnA_at (g : Nat → Nat) : ∀ (n x : Nat), ∃ k, k ≤ n ∧ mnA g n x = it g k x
  | 0, x => ⟨0, Nat.le_refl _, rfl⟩
  | n + 1, x => by
    obtain ⟨k, h1, h2⟩ := mnA_at g n (g x)
    by_cases h : x ≤ mnA g n (g x)
    · exact ⟨0, Nat.zero_le _, Nat.min_eq_left h⟩
    · exact ⟨k + 1, by omega, by
        show min x (mnA g n (g x)) = _
        rw [Nat.min_eq_right (by omega), h2]; rfl⟩
/-- the least of an orbit -/
abbrev mn (g : Nat → Nat) (N x : Nat) : Nat := mnA g N x
theorem mn_orb (g : Nat → Nat) (N x : Nat) : Orb g x (mn g N x) := by
  obtain ⟨k, -, h⟩ := mnA_at g N x
  exact ⟨k, h.symm⟩
theorem mn_le {g : Nat → Nat} {N x y : Nat} (h : PermOn g N) (hx : x < N) (h1 : Orb g x y) : mn g N x ≤ y := by
  obtain ⟨k, rfl⟩ := h1
  obtain ⟨p, hp0, hpN, hp⟩ := period h hx
  rw [it_mod hp k]
  exact mnA_le g N x (k % p) (by have := Nat.mod_lt k hp0; omega)
theorem mn_self (g : Nat → Nat) (N x : Nat) : mn g N x ≤ x := mnA_le g N x 0 (Nat.zero_le _)
theorem mn_eq {g : Nat → Nat} {N x y : Nat} (h : PermOn g N) (hx : x < N) (hy : y < N) : mn g N x = mn g N y ↔ Orb g x y := by
  constructor
  · intro e
    have h1 := mn_orb g N x
    have h2 := mn_orb g N y
    rw [← e] at h2
    exact Orb_trans h1 (Orb_symm h hy h2)
  · intro e
    apply Nat.le_antisymm
    · exact mn_le h hx (Orb_trans e (mn_orb g N y))
    · exact mn_le h hy (Orb_trans (Orb_symm h hx e) (mn_orb g N x))
theorem mn_mn {g : Nat → Nat} {N x : Nat} (h : PermOn g N) (hx : x < N) : mn g N (mn g N x) = mn g N x :=
  ((mn_eq h hx (Orb_lt h hx (mn_orb g N x))).mpr (mn_orb g N x)).symm
theorem mn_lt {g : Nat → Nat} {N x : Nat} (hx : x < N) : mn g N x < N := Nat.lt_of_le_of_lt (mn_self g N x) hx
theorem mn_step {g : Nat → Nat} {N x : Nat} (h : PermOn g N) (hx : x < N) : mn g N (g x) = mn g N x :=
  ((mn_eq h hx (h.1 x hx)).mpr (Orb_step g x)).symm
/-- how many least elements of orbits lie below t -/
def rkO (g : Nat → Nat) (N : Nat) : Nat → Nat
  | 0 => 0
  | t + 1 => rkO g N t + (if mn g N t = t then 1 else 0)
theorem rkO_mono (g : Nat → Nat) (N : Nat) {a b : Nat} (h : a ≤ b) : rkO g N a ≤ rkO g N b := by
  induction b with
  | zero => rw [Nat.le_zero.mp h]; exact Nat.le_refl _
  | succ b ih =>
    by_cases e : a = b + 1
    · rw [e]; exact Nat.le_refl _
    · exact Nat.le_trans (ih (by omega)) (Nat.le_add_right _ _)
theorem rkO_lt {g : Nat → Nat} {N a b : Nat} (h : a < b) (hm : mn g N a = a) : rkO g N a < rkO g N b := by
  have h1 : rkO g N (a + 1) = rkO g N a + 1 := by show rkO g N a + _ = _; rw [if_pos hm]
  have h2 := rkO_mono g N (show a + 1 ≤ b from h)
  omega
theorem rkO_le (g : Nat → Nat) (N : Nat) : ∀ t, rkO g N t ≤ t
  | 0 => Nat.le_refl _
  | t + 1 => by
    have := rkO_le g N t
    show rkO g N t + _ ≤ t + 1
    split <;> omega
/-- the number of an orbit, by least elements; how many there are; how many elements one has -/
def lbO (g : Nat → Nat) (N x : Nat) : Nat := rkO g N (mn g N x)
def ctO (g : Nat → Nat) (N : Nat) : Nat := rkO g N N
theorem lbO_lt {g : Nat → Nat} {N x : Nat} (h : PermOn g N) (hx : x < N) : lbO g N x < ctO g N := rkO_lt (mn_lt hx) (mn_mn h hx)
theorem lbO_eq {g : Nat → Nat} {N x y : Nat} (h : PermOn g N) (hx : x < N) (hy : y < N) : lbO g N x = lbO g N y ↔ Orb g x y := by
  rw [← mn_eq h hx hy]
  constructor
  · intro e
    rcases Nat.lt_trichotomy (mn g N x) (mn g N y) with q | q | q
    · exact absurd e (Nat.ne_of_lt (rkO_lt q (mn_mn h hx)))
    · exact q
    · exact absurd e.symm (Nat.ne_of_lt (rkO_lt q (mn_mn h hy)))
  · intro e
    show rkO g N (mn g N x) = rkO g N (mn g N y)
    rw [e]
theorem lbO_step {g : Nat → Nat} {N x : Nat} (h : PermOn g N) (hx : x < N) : lbO g N (g x) = lbO g N x := by
  show rkO g N (mn g N (g x)) = rkO g N (mn g N x)
  rw [mn_step h hx]
theorem ctO_le (g : Nat → Nat) (N : Nat) : ctO g N ≤ N := rkO_le g N N
theorem rkO_sur {g : Nat → Nat} {N : Nat} : ∀ (t c : Nat), c < rkO g N t → ∃ x, x < t ∧ mn g N x = x ∧ rkO g N x = c
  | 0, c, h => absurd h (Nat.not_lt_zero _)
  | t + 1, c, h => by
    by_cases h1 : c < rkO g N t
    · obtain ⟨x, a, b, e⟩ := rkO_sur t c h1
      exact ⟨x, by omega, b, e⟩
    · have h2 : c < rkO g N t + (if mn g N t = t then 1 else 0) := h
      by_cases hm : mn g N t = t
      · rw [if_pos hm] at h2
        exact ⟨t, by omega, hm, by omega⟩
      · rw [if_neg hm] at h2
        omega
theorem lbO_sur {g : Nat → Nat} {N c : Nat} (hc : c < ctO g N) : ∃ x, x < N ∧ lbO g N x = c ∧ mn g N x = x := by
  obtain ⟨x, a, b, e⟩ := rkO_sur N c hc
  exact ⟨x, a, by show rkO g N (mn g N x) = c; rw [b]; exact e, b⟩
/-- the least period -/
theorem leastP (P : Nat → Prop) : ∀ n, P n → ∃ k, k ≤ n ∧ P k ∧ ∀ j, j < k → ¬ P j
  | 0, h => ⟨0, Nat.le_refl _, h, fun j hj => absurd hj (Nat.not_lt_zero _)⟩
  | n + 1, h => by
    by_cases hq : ∃ m, m ≤ n ∧ P m
    · obtain ⟨m, h1, h2⟩ := hq
      obtain ⟨k, a, b, c⟩ := leastP (fun i => P i) m h2
      exact ⟨k, by omega, b, c⟩
    · exact ⟨n + 1, Nat.le_refl _, h, fun j hj hp => hq ⟨j, by omega, hp⟩⟩
theorem lperiod {g : Nat → Nat} {N x : Nat} (h : PermOn g N) (hx : x < N) : ∃ p, 0 < p ∧ p ≤ N ∧ it g p x = x ∧ ∀ j, 0 < j → j < p → it g j x ≠ x := by
  obtain ⟨p, h1, h2, h3⟩ := period h hx
  obtain ⟨k, a, b, c⟩ := leastP (fun j => 0 < j ∧ it g j x = x) p ⟨h1, h3⟩
  exact ⟨k, b.1, by omega, b.2, fun j h0 hj e => c j hj ⟨h0, e⟩⟩
theorem lper_inj {g : Nat → Nat} {N x p : Nat} (h : PermOn g N) (hx : x < N) (hp : ∀ j, 0 < j → j < p → it g j x ≠ x) : ∀ i j, i < p → j < p → it g i x = it g j x → i = j := by
  have key : ∀ i j, i < j → j < p → it g i x ≠ it g j x := fun i j hij hj e => by
    have e2 : it g j x = it g i (it g (j - i) x) := by rw [← it_add]; congr 1; omega
    exact hp (j - i) (by omega) (by omega) (it_inj h i _ _ (it_lt h.1 _ _ hx) hx (e2.symm.trans e.symm))
  intro i j hi hj e
  rcases Nat.lt_trichotomy i j with q | q | q
  · exact absurd e (key i j q hj)
  · exact q
  · exact absurd e.symm (key j i q hi)
/-- how many of the first n numbers have a property -/
def cnB (P : Nat → Bool) : Nat → Nat
  | 0 => 0
  | n + 1 => cnB P n + (if P n = true then 1 else 0)
theorem cnB_congr {P Q : Nat → Bool} : ∀ {n : Nat}, (∀ i, i < n → P i = Q i) → cnB P n = cnB Q n
  | 0, _ => rfl
  | n + 1, h => by
    show cnB P n + _ = cnB Q n + _
    rw [cnB_congr (fun i hi => h i (by omega)), h n (by omega)]
theorem cnB_le (P : Nat → Bool) : ∀ n, cnB P n ≤ n
  | 0 => Nat.le_refl _
  | n + 1 => by
    have := cnB_le P n
    show cnB P n + _ ≤ n + 1
    split <;> omega
theorem cnB_none {P : Nat → Bool} : ∀ {n : Nat}, (∀ i, i < n → P i = false) → cnB P n = 0
  | 0, _ => rfl
  | n + 1, h => by
    show cnB P n + _ = 0
    rw [cnB_none (fun i hi => h i (by omega)), h n (by omega)]; rfl
/-- one more: a property that holds just where P does, and at a -/
theorem cnB_one {P Q : Nat → Bool} {a : Nat} (hP : P a = false) (hQ : Q a = true) (ho : ∀ i, i ≠ a → Q i = P i) : ∀ {n : Nat}, a < n → cnB Q n = cnB P n + 1
  | 0, h => absurd h (Nat.not_lt_zero _)
  | n + 1, h => by
    show cnB Q n + _ = cnB P n + _ + 1
    by_cases e : a = n
    · subst e
      rw [cnB_congr (P := Q) (Q := P) (fun i hi => ho i (by omega)), hP, hQ]
      rfl
    · rw [cnB_one hP hQ ho (n := n) (by omega), ho n (Ne.symm e)]
      omega
/-- how many elements orbit c has -/
def szO (g : Nat → Nat) (N c : Nat) : Nat := cnB (fun x => decide (lbO g N x = c)) N
/-! a walk round an orbit from its least element on -/
def inO (g : Nat → Nat) (d : Nat) : Nat → Nat → Bool
  | 0, _ => false
  | i + 1, x => inO g d i x || decide (it g i d = x)
theorem inO_iff {g : Nat → Nat} {d : Nat} : ∀ {i x : Nat}, inO g d i x = true ↔ ∃ j, j < i ∧ it g j d = x
  | 0, x => Iff.intro (fun h => Bool.noConfusion h) (fun ⟨j, hj, _⟩ => absurd hj (Nat.not_lt_zero j))
  | i + 1, x => by
    show (inO g d i x || decide (it g i d = x)) = true ↔ _
    rw [Bool.or_eq_true, inO_iff, decide_eq_true_iff]
    constructor
    · rintro (⟨j, h1, h2⟩ | h)
      · exact ⟨j, by omega, h2⟩
      · exact ⟨i, by omega, h⟩
    · rintro ⟨j, h1, h2⟩
      by_cases e : j = i
      · subst e; exact Or.inr h2
      · exact Or.inl ⟨j, by omega, h2⟩
theorem inO_succ {g : Nat → Nat} {d i x : Nat} : inO g d (i + 1) x = true ↔ inO g d i x = true ∨ it g i d = x := by
  show (inO g d i x || decide (it g i d = x)) = true ↔ _
  rw [Bool.or_eq_true, decide_eq_true_iff]
section Walk
variable {g : Nat → Nat} {N d p : Nat} (h : PermOn g N) (hd : d < N) (hp0 : 0 < p) (hpd : it g p d = d) (hpl : ∀ j, 0 < j → j < p → it g j d ≠ d)
theorem wk_new (h : PermOn g N) (hd : d < N) (hpl : ∀ j, 0 < j → j < p → it g j d ≠ d) {i : Nat} (hi : i < p) : ¬ inO g d i (it g i d) = true := by
  intro q
  obtain ⟨j, h1, h2⟩ := inO_iff.mp q
  have := lper_inj h hd hpl j i (by omega) hi h2
  omega
theorem wk_all (h : PermOn g N) (hd : d < N) (hp0 : 0 < p) (hpd : it g p d = d) (hm : mn g N d = d) {x : Nat} : inO g d p x = true ↔ x < N ∧ mn g N x = d := by
  rw [inO_iff]
  constructor
  · rintro ⟨j, h1, rfl⟩
    refine ⟨it_lt h.1 j d hd, ?_⟩
    rw [← hm]
    have : Orb g d (it g j d) := ⟨j, rfl⟩
    rw [hm]
    rw [← (mn_eq h hd (it_lt h.1 j d hd)).mpr this]
    exact hm
  · rintro ⟨hx, e⟩
    have : mn g N d = mn g N x := by rw [hm, e]
    obtain ⟨k, hk⟩ := (mn_eq h hd hx).mp this
    exact ⟨k % p, Nat.mod_lt k hp0, by rw [← it_mod hpd]; exact hk⟩
theorem wk_last (h : PermOn g N) (hd : d < N) (hpd : it g p d = d) (hpl : ∀ j, 0 < j → j < p → it g j d ≠ d) {i : Nat} (hi : i < p) : g (it g i d) = d ↔ i + 1 = p := by
  rw [← it_succ' g i d]
  constructor
  · intro e
    by_cases q : i + 1 < p
    · exact absurd e (hpl (i + 1) (by omega) q)
    · omega
  · intro e
    rw [e]; exact hpd
theorem wk_cnt (h : PermOn g N) (hd : d < N) (hpl : ∀ j, 0 < j → j < p → it g j d ≠ d) : ∀ i, i ≤ p → cnB (inO g d i) N = i
  | 0, _ => cnB_none (fun _ _ => rfl)
  | i + 1, hi => by
    have h1 := wk_cnt h hd hpl i (by omega)
    have hn := wk_new h hd hpl (show i < p by omega)
    rw [cnB_one (P := inO g d i) (Q := inO g d (i + 1)) (a := it g i d) (by simpa using hn) (inO_succ.mpr (Or.inr rfl)) (fun x hx => ?_) (it_lt h.1 i d hd), h1]
    show (inO g d i x || decide (it g i d = x)) = inO g d i x
    rw [decide_eq_false (Ne.symm hx), Bool.or_false]
theorem wk_sz (h : PermOn g N) (hd : d < N) (hp0 : 0 < p) (hpd : it g p d = d) (hpl : ∀ j, 0 < j → j < p → it g j d ≠ d) (hm : mn g N d = d) : szO g N (rkO g N d) = p := by
  rw [← wk_cnt h hd hpl p (Nat.le_refl p)]
  refine cnB_congr (fun x hx => ?_)
  rw [Bool.eq_iff_iff, decide_eq_true_iff, wk_all h hd hp0 hpd hm]
  have e : rkO g N d = lbO g N d := by show rkO g N d = rkO g N (mn g N d); rw [hm]
  rw [e, lbO_eq h hx hd, ← mn_eq h hx hd, hm]
  exact ⟨fun q => ⟨hx, q⟩, fun q => q.2⟩
end Walk
/-- the other dart of an edge -/
def ox (d : Nat) : Nat := if d % 2 = 0 then d + 1 else d - 1
theorem ox_ox (d : Nat) : ox (ox d) = d := by unfold ox; split <;> split <;> omega
theorem ox_ne (d : Nat) : ox d ≠ d := by unfold ox; split <;> omega
theorem ox_lt {d n : Nat} (h : d < 2 * n) : ox d < 2 * n := by unfold ox; split <;> omega
theorem ox_inj {a b : Nat} (h : ox a = ox b) : a = b := by rw [← ox_ox a, h, ox_ox]
theorem nI_ox : ∀ {d : Nat}, d < 32 → nI d ^^^ 1 = nI (ox d) := by
  have : ∀ d, d < 32 → nI d ^^^ 1 = nI (ox d) := by decide +kernel
  exact fun {d} h => this d h
/-- a map: edges, root, the next dart -/
abbrev PMp : Type := Nat × Nat × (Nat → Nat)
abbrev pE (m : PMp) : Nat := m.1
abbrev pN (m : PMp) : Nat := 2 * m.1
abbrev pR (m : PMp) : Nat := m.2.1
abbrev pX (m : PMp) : Nat → Nat := m.2.2
def pF (m : PMp) : Nat → Nat := fun d => m.2.2 (ox d)
def PV (m : PMp) : Prop := m.1 ≤ 16 ∧ PermOn (pX m) (pN m) ∧ (m.2.1 < 2 * m.1 ∨ (m.1 = 0 ∧ m.2.1 = 0))
theorem pF_perm {m : PMp} (h : PermOn (pX m) (pN m)) : PermOn (pF m) (pN m) :=
  ⟨fun x hx => h.1 _ (ox_lt hx), fun x y hx hy e => ox_inj (h.2 _ _ (ox_lt hx) (ox_lt hy) e)⟩
/-- how many vertices, faces -/
def pVn (m : PMp) : Nat := if m.1 = 0 then 1 else ctO (pX m) (pN m)
def pFn (m : PMp) : Nat := if m.1 = 0 then 1 else ctO (pF m) (pN m)
abbrev pVo (m : PMp) (d : Nat) : Nat := lbO (pX m) (pN m) d
abbrev pFo (m : PMp) (d : Nat) : Nat := lbO (pF m) (pN m) d
abbrev pVd (m : PMp) (v : Nat) : Nat := szO (pX m) (pN m) v
abbrev pFd (m : PMp) (v : Nat) : Nat := szO (pF m) (pN m) v
/-! frames, loops -/
def Fr (t : Nat → Nat → Bool) (M M' : ME) : Prop := (∀ k j, t k j = false → M'.1 k j = M.1 k j) ∧ M'.2 = M.2
theorem Fr_refl (t : Nat → Nat → Bool) (M : ME) : Fr t M M := ⟨fun _ _ _ => rfl, rfl⟩
theorem Fr_trans {t : Nat → Nat → Bool} {M M1 M2 : ME} (h1 : Fr t M M1) (h2 : Fr t M1 M2) : Fr t M M2 := ⟨fun k j h => (h2.1 k j h).trans (h1.1 k j h), h2.2.trans h1.2⟩
theorem Fr_mono {t t' : Nat → Nat → Bool} {M M' : ME} (h : Fr t M M') (hm : ∀ k j, t' k j = false → t k j = false) : Fr t' M M' := ⟨fun k j q => h.1 k j (hm k j q), h.2⟩
theorem sI_at (M : ME) (k j : Nat) (v : Int32) (a b : Nat) : (sI M k j v).1 a b = if a = k ∧ b = j then v else M.1 a b := by
  show up2 M.1 k j v a b = _
  unfold up2
  by_cases h1 : a = k
  · subst h1
    rw [if_pos rfl]
    by_cases h2 : b = j
    · simp [h2]
    · simp [h2]
  · simp [h1]
theorem sI_eq (M : ME) (k j : Nat) (v : Int32) : (sI M k j v).1 k j = v := by rw [sI_at, if_pos ⟨rfl, rfl⟩]
theorem sI_ne {M : ME} {k j : Nat} {v : Int32} {a b : Nat} (h : a ≠ k ∨ b ≠ j) : (sI M k j v).1 a b = M.1 a b := by
  rw [sI_at, if_neg (fun q => h.elim (fun z => z q.1) (fun z => z q.2))]
theorem Fr_sI {t : Nat → Nat → Bool} {M M1 : ME} {k j : Nat} {v : Int32} (h : Fr t M M1) (hk : t k j = true) : Fr t M (sI M1 k j v) := by
  refine ⟨fun a b hab => ?_, h.2⟩
  rw [sI_ne]
  · exact h.1 a b hab
  · by_cases e : a = k
    · by_cases e2 : b = j
      · rw [e, e2, hk] at hab; cases hab
      · exact Or.inr e2
    · exact Or.inl e
/-- a counting loop -/
theorem lpN (n : Nat) (P W : Nat → ME → Prop) (hx : ∀ M, P n M → W n M) (hs : ∀ i M, i < n → P i M → (∀ M', P (i + 1) M' → W (i + 1) M') → W i M) : ∀ i M, i ≤ n → P i M → W i M := by
  have key : ∀ k i M, i + k = n → P i M → W i M := by
    intro k
    induction k with
    | zero => intro i M e hP; have : i = n := by omega
              subst this; exact hx M hP
    | succ k ih => intro i M e hP; exact hs i M (by omega) hP (fun M' hP' => ih (i + 1) M' (by omega) hP')
  intro i M hi hP
  exact key (n - i) i M (by omega) hP
theorem nI_ne1 {n : Nat} (h : n < 2 ^ 31) : ¬ nI n = -1 := by
  intro e
  have h1 := congrArg Int32.toInt e
  rw [nI_toInt h] at h1
  have : (-1 : Int32).toInt = -1 := rfl
  rw [this] at h1
  omega
