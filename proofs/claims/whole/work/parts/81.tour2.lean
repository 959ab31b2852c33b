/-! PURE: the walk around -/
def ph (rh sg : Nat → Nat) (x : Nat) : Nat := rh (sg x)
def Seg (H : Nat → Bool) (rh sg nu : Nat → Nat) (r x t : Nat) : Prop := 0 < t ∧ it (ph rh sg) t x = sg x ∧ (∀ j, 0 < j → j ≤ t → H (it (ph rh sg) j x) = true ∧ dl H sg nu r (nu x) < dl H sg nu r (nu (it (ph rh sg) j x)) ∧ (∃ i, i ≤ t ∧ it (ph rh sg) i x = sg (it (ph rh sg) j x)) ∧ ∃ i, 0 < i ∧ i ≤ t ∧ it (ph rh sg) i x = rh (it (ph rh sg) j x)) ∧ ∀ j, j < t → chd H sg nu r (it (ph rh sg) j x) → ∃ i, j < i ∧ i ≤ t ∧ it (ph rh sg) i x = sg (it (ph rh sg) j x)
section TT2
variable {N n Vb s : Nat} {H U : Nat → Bool} {rh sg nu kp : Nat → Nat}
theorem rh_it (T : TT N n Vb H U rh sg nu kp) {y : Nat} (hy : H y = true) : ∀ i, H (it rh i y) = true ∧ nu (it rh i y) = nu y
  | 0 => ⟨hy, rfl⟩
  | i + 1 => by
    have ih := rh_it T hy i
    rw [it_succ']
    have := T.2.2.1 _ ih.1
    exact ⟨this.1, this.2.trans ih.2⟩
def RnP (H : Nat → Bool) (rh sg nu : Nat → Nat) (r b y0 s0 i S : Nat) : Prop := s0 ≤ S ∧ (i = 0 → S = s0) ∧ (0 < i → s0 < S) ∧ it (ph rh sg) S b = it rh i y0 ∧ ∀ j, s0 ≤ j → j < S → H (it (ph rh sg) j b) = true ∧ (j = s0 ∨ dl H sg nu r (nu y0) < dl H sg nu r (nu (it (ph rh sg) j b)) ∨ ∃ i', 0 < i' ∧ i' < i ∧ it (ph rh sg) j b = it rh i' y0) ∧ dl H sg nu r (nu y0) ≤ dl H sg nu r (nu (it (ph rh sg) j b)) ∧ (∃ k, s0 ≤ k ∧ k < S ∧ it (ph rh sg) k b = sg (it (ph rh sg) j b)) ∧ (∃ k, s0 ≤ k ∧ k ≤ S ∧ it (ph rh sg) k b = rh (it (ph rh sg) j b)) ∧ (chd H sg nu r (it (ph rh sg) j b) → ∃ k, j < k ∧ k < S ∧ it (ph rh sg) k b = sg (it (ph rh sg) j b))
theorem rnd (T : TT N n Vb H U rh sg nu kp) (hs : H s = true) {b y0 s0 q : Nat} (hb : it (ph rh sg) s0 b = y0) (hH : H y0 = true) (hsg : ∀ i, i < q → chd H sg nu (nu s) (it rh i y0) ∧ ∃ t, Seg H rh sg nu (nu s) (it rh i y0) t) : ∀ i, i ≤ q → ∃ S, RnP H rh sg nu (nu s) b y0 s0 i S := by
  intro i
  induction i with
  | zero => intro _; exact ⟨s0, Nat.le_refl _, fun _ => rfl, fun h => absurd h (Nat.lt_irrefl _), hb, fun j h1 h2 => by omega⟩
  | succ i ih =>
    intro hi
    obtain ⟨S, h1, h0, h2, h3, h4⟩ := ih (by omega)
    obtain ⟨hc, t, t1, t2, t3, t4⟩ := hsg i (by omega)
    obtain ⟨hy, hv⟩ := rh_it T hH i
    have t6 := T.2.2.2.2.2.1 _ hy
    have at_ : ∀ j', it (ph rh sg) (j' + S) b = it (ph rh sg) j' (it rh i y0) := fun j' => by rw [it_add, h3]
    have hend : it (ph rh sg) (t + 1 + S) b = it rh (i + 1) y0 := by
      rw [at_, it_succ', t2, it_succ']
      show rh (sg (sg _)) = _
      rw [t6.2.1]
    refine ⟨t + 1 + S, by omega, fun z => by omega, fun _ => by omega, hend, fun j j1 j2 => ?_⟩
    by_cases q1 : j < S
    · obtain ⟨a1, a2, a3, ⟨k1, b1, b2, b3⟩, ⟨k2, c1, c2, c3⟩, a4⟩ := h4 j j1 q1
      refine ⟨a1, ?_, a3, ⟨k1, b1, by omega, b3⟩, ⟨k2, c1, by omega, c3⟩, fun hch => ?_⟩
      · rcases a2 with e | e | ⟨i', e1, e2, e3⟩
        · exact Or.inl e
        · exact Or.inr (Or.inl e)
        · exact Or.inr (Or.inr ⟨i', e1, by omega, e3⟩)
      · obtain ⟨k, e1, e2, e3⟩ := a4 hch
        exact ⟨k, e1, by omega, e3⟩
    · obtain ⟨j', rfl⟩ : ∃ j', j = j' + S := ⟨j - S, by omega⟩
      rw [at_]
      by_cases q2 : j' = 0
      · subst q2
        show H (it rh i y0) = true ∧ _
        refine ⟨hy, ?_, by show _ ≤ dl H sg nu (nu s) (nu (it rh i y0)); rw [hv]; exact Nat.le_refl _, ⟨t + S, by omega, by omega, by rw [at_, t2]; rfl⟩, ⟨t + 1 + S, by omega, Nat.le_refl _, by rw [hend, it_succ']; rfl⟩, fun _ => ⟨t + S, by omega, by omega, by rw [at_, t2]; rfl⟩⟩
        by_cases i0 : i = 0
        · left
          rw [h0 i0]; omega
        · exact Or.inr (Or.inr ⟨i, by omega, by omega, rfl⟩)
      · obtain ⟨a1, a2, ⟨k1, b1, b2⟩, ⟨k2, c1, c2, c3⟩⟩ := t3 j' (by omega) (by omega)
        rw [hv] at a2
        refine ⟨a1, Or.inr (Or.inl a2), by omega, ⟨k1 + S, by omega, by omega, by rw [at_]; exact b2⟩, ⟨k2 + S, by omega, by omega, by rw [at_]; exact c3⟩, fun hch => ?_⟩
        by_cases q3 : j' = t
        · rw [q3, t2] at hch
          exact absurd hch (chd_not T hs hy hc)
        · obtain ⟨k, e1, e2, e3⟩ := t4 j' (by omega) hch
          exact ⟨k + S, by omega, by omega, by rw [at_]; exact e3⟩
/-- how many darts round the vertex -/
theorem rh_per (T : TT N n Vb H U rh sg nu kp) {p : Nat} (hp : H p = true) : ∃ q, (0 < q ∧ it rh q p = p) ∧ ∀ j, j < q → ¬ (0 < j ∧ it rh j p = p) := by
  have h1 := T.2.2.1 p hp
  obtain ⟨k, hk⟩ := T.2.2.2.2.1 (rh p) p h1.1 hp h1.2
  exact least_p (P := fun q => 0 < q ∧ it rh q p = p) (k + 1) ⟨by omega, hk⟩
theorem seg_all (T : TT N n Vb H U rh sg nu kp) (hs : H s = true) : ∀ k x, H x = true → chd H sg nu (nu s) x → n + 1 ≤ k + dl H sg nu (nu s) (nu (sg x)) → ∃ t, Seg H rh sg nu (nu s) x t := by
  intro k
  induction k with
  | zero =>
    intro x hx hc hk
    have := dl_n T hs (T.2.2.2.2.2.2.2.2.2.1 _ (T.2.2.2.2.2.1 x hx).1)
    omega
  | succ k ih =>
    intro x hx hc hk
    obtain ⟨t1, t2, t3, t4⟩ := T.2.2.2.2.2.1 x hx
    obtain ⟨r1, r2⟩ := T.2.2.1 _ t1
    obtain ⟨q, ⟨q0, q1⟩, q2⟩ := rh_per T t1
    have hd := chd_dl T hs hx hc
    obtain ⟨S, s1, s0, s2, s3, s4⟩ := rnd T hs (b := x) (y0 := rh (sg x)) (s0 := 1) (q := q - 1) rfl r1 (fun i hi => by
      obtain ⟨y1, y2⟩ := rh_it T r1 i
      have hne : it rh i (rh (sg x)) ≠ sg x := fun e => q2 (i + 1) (by omega) ⟨by omega, e⟩
      have hv : nu (it rh i (rh (sg x))) = nu (sg x) := y2.trans r2
      have hcy := chd_at T hs hx y1 hc hv hne
      refine ⟨hcy, ih _ y1 hcy ?_⟩
      rw [chd_dl T hs y1 hcy, hv]
      omega) (q - 1) (Nat.le_refl _)
    have hS : it (ph rh sg) S x = sg x := by
      rw [s3]
      have : it rh (q - 1 + 1) (sg x) = sg x := by rw [show q - 1 + 1 = q by omega]; exact q1
      exact this
    rw [r2] at s4
    refine ⟨S, by omega, hS, fun j j1 j2 => ?_, fun j j1 hch => ?_⟩
    · by_cases e : j = S
      · subst e
        rw [hS]
        exact ⟨t1, by omega, ⟨0, by omega, t2.symm⟩, ⟨1, by omega, by omega, rfl⟩⟩
      · obtain ⟨a1, a2, a3, ⟨k1, b1, b2, b3⟩, ⟨k2, c1, c2, c3⟩, a4⟩ := s4 j (by omega) (by omega)
        exact ⟨a1, by omega, ⟨k1, by omega, b3⟩, ⟨k2, by omega, c2, c3⟩⟩
    · by_cases e : j = 0
      · subst e
        exact ⟨S, by omega, Nat.le_refl _, hS⟩
      · obtain ⟨a1, a2, a3, -, -, a4⟩ := s4 j (by omega) j1
        obtain ⟨k, e1, e2, e3⟩ := a4 hch
        exact ⟨k, e1, by omega, e3⟩
theorem ph_H (T : TT N n Vb H U rh sg nu kp) {x : Nat} (hx : H x = true) : ∀ j, H (it (ph rh sg) j x) = true
  | 0 => hx
  | j + 1 => by
    rw [it_succ']
    exact (T.2.2.1 _ (T.2.2.2.2.2.1 _ (ph_H T hx j)).1).1
theorem ph_inj (T : TT N n Vb H U rh sg nu kp) {x y : Nat} (hx : H x = true) (hy : H y = true) (e : ph rh sg x = ph rh sg y) : x = y := by
  have h1 := T.2.2.2.2.2.1 x hx
  have h2 := T.2.2.2.2.2.1 y hy
  have := T.2.2.2.1 _ _ h1.1 h2.1 e
  rw [← h1.2.1, ← h2.2.1, this]
theorem ph_it_inj (T : TT N n Vb H U rh sg nu kp) : ∀ k {x y : Nat}, H x = true → H y = true → it (ph rh sg) k x = it (ph rh sg) k y → x = y
  | 0, _, _, _, _, e => e
  | k + 1, x, y, hx, hy, e => by
    have hx1 := ph_H T hx 1
    have hy1 := ph_H T hy 1
    exact ph_inj T hx hy (ph_it_inj T k hx1 hy1 e)
/-- the walk: all darts, each once -/
def Tour (n : Nat) (H : Nat → Bool) (rh sg nu : Nat → Nat) (s : Nat) : Prop := it (ph rh sg) (2 * n) s = s ∧ (∀ i j, i < j → j < 2 * n → it (ph rh sg) i s ≠ it (ph rh sg) j s) ∧ (∀ x, H x = true → ∃ j, j < 2 * n ∧ it (ph rh sg) j s = x) ∧ ∀ j, j < 2 * n → chd H sg nu (nu s) (it (ph rh sg) j s) → ∃ t, j < t ∧ t < 2 * n ∧ it (ph rh sg) t s = sg (it (ph rh sg) j s) ∧ ∀ i, j ≤ i → i < t → chd H sg nu (nu s) (it (ph rh sg) i s) → ∃ k, i < k ∧ k ≤ t ∧ it (ph rh sg) k s = sg (it (ph rh sg) i s)
theorem tour (T : TT N n Vb H U rh sg nu kp) (hs : H s = true) : Tour n H rh sg nu s := by
  obtain ⟨q, ⟨q0, q1⟩, q2⟩ := rh_per T hs
  have sgs : ∀ x, H x = true → chd H sg nu (nu s) x → ∃ t, Seg H rh sg nu (nu s) x t := fun x hx hc => seg_all T hs (n + 1) x hx hc (by omega)
  obtain ⟨P, s1, -, s2, s3, s4⟩ := rnd T hs (b := s) (y0 := s) (s0 := 0) (q := q) rfl hs (fun i hi => by
    obtain ⟨y1, y2⟩ := rh_it T hs i
    have hcy := chd_root T hs y1 y2
    exact ⟨hcy, sgs _ y1 hcy⟩) q (Nat.le_refl _)
  rw [q1] at s3
  have P0 := s2 q0
  have first : ∀ j, 0 < j → j < P → it (ph rh sg) j s ≠ s := fun j j1 j2 e => by
    obtain ⟨-, a2, -⟩ := s4 j (by omega) j2
    rw [e] at a2
    rcases a2 with h | h | ⟨i', h1, h2, h3⟩
    · omega
    · exact absurd h (Nat.lt_irrefl _)
    · exact q2 i' h2 ⟨h1, h3.symm⟩
  have dist : ∀ i j, i < j → j < P → it (ph rh sg) i s ≠ it (ph rh sg) j s := fun i j h1 h2 e => by
    have e2 : it (ph rh sg) j s = it (ph rh sg) i (it (ph rh sg) (j - i) s) := by rw [← it_add]; congr 1; omega
    rw [e2] at e
    exact first (j - i) (by omega) (by omega) (ph_it_inj T i hs (ph_H T hs _) e).symm
  have modP : ∀ k, it (ph rh sg) k s = it (ph rh sg) (k % P) s := fun k => it_mod s3 k
  have cov : ∀ x, H x = true → ∃ j, j < P ∧ it (ph rh sg) j s = x := by
    have clr : ∀ z, (∃ j, j < P ∧ it (ph rh sg) j s = z) → ∃ j, j < P ∧ it (ph rh sg) j s = rh z := fun z ⟨j, h1, h2⟩ => by
      obtain ⟨-, -, -, -, ⟨k, -, k2, k3⟩, -⟩ := s4 j (by omega) h1
      rw [h2] at k3
      exact ⟨k % P, Nat.mod_lt _ P0, by rw [← modP]; exact k3⟩
    have cls : ∀ z, (∃ j, j < P ∧ it (ph rh sg) j s = z) → ∃ j, j < P ∧ it (ph rh sg) j s = sg z := fun z ⟨j, h1, h2⟩ => by
      obtain ⟨-, -, -, ⟨k, -, k2, k3⟩, -, -⟩ := s4 j (by omega) h1
      rw [h2] at k3
      exact ⟨k, k2, k3⟩
    have orb : ∀ k z, (∃ j, j < P ∧ it (ph rh sg) j s = z) → ∃ j, j < P ∧ it (ph rh sg) j s = it rh k z := fun k => by
      induction k with
      | zero => intro z h; exact h
      | succ k ih => intro z h; exact ih _ (clr z h)
    have all : ∀ x, H x = true → (∃ z, H z = true ∧ nu z = nu x ∧ ∃ j, j < P ∧ it (ph rh sg) j s = z) → ∃ j, j < P ∧ it (ph rh sg) j s = x := fun x hx ⟨z, h1, h2, h3⟩ => by
      obtain ⟨k, hk⟩ := T.2.2.2.2.1 z x h1 hx h2
      have := orb k z h3
      rw [hk] at this; exact this
    intro x hx
    refine all x hx (T.2.2.2.2.2.2.1 (fun v => ∃ z, H z = true ∧ nu z = v ∧ ∃ j, j < P ∧ it (ph rh sg) j s = z) (fun y hy hq => ?_) s x hs hx ⟨s, hs, rfl, 0, P0, rfl⟩)
    exact ⟨sg y, (T.2.2.2.2.2.1 y hy).1, rfl, cls y (all y hy hq)⟩
  have hPn : P = 2 * n := by
    have h13 := T.2.2.2.2.2.2.2.2.2.2.2.2
    have le1 : P ≤ 2 * n := by
      have := cnB_inj (P := fun _ => true) (Q := H) (a := P) (b := N) (fun j => it (ph rh sg) j s) (fun j _ _ => ⟨T.1 _ (ph_H T hs j), ph_H T hs j⟩) (fun i j hi hj _ _ e => by
        by_cases a : i < j
        · exact absurd e (dist i j a hj)
        · by_cases b : j < i
          · exact absurd e.symm (dist j i b hi)
          · omega)
      rw [cnB_T, h13] at this
      exact this
    have le2 : 2 * n ≤ P := by
      have hex : ∀ x, ∃ j, H x = true → j < P ∧ it (ph rh sg) j s = x := fun x => by
        by_cases hx : H x = true
        · obtain ⟨j, h1, h2⟩ := cov x hx
          exact ⟨j, fun _ => ⟨h1, h2⟩⟩
        · exact ⟨0, fun h => absurd h hx⟩
      have := cnB_inj (P := H) (Q := fun _ => true) (a := N) (b := P) (fun x => (hex x).choose) (fun x _ hx => ⟨((hex x).choose_spec hx).1, rfl⟩) (fun x y _ _ hx hy e => by
        have h1 := ((hex x).choose_spec hx).2
        have h2 := ((hex y).choose_spec hy).2
        have e' : (hex x).choose = (hex y).choose := e
        rw [e'] at h1
        exact h1.symm.trans h2)
      rw [cnB_T, h13] at this
      exact this
    omega
  subst hPn
  refine ⟨s3, dist, cov, fun j hj hc => ?_⟩
  have hxj := ph_H T hs j
  obtain ⟨t, t1, t2, t3, t4⟩ := sgs _ hxj hc
  have at_ : ∀ i, it (ph rh sg) (i + j) s = it (ph rh sg) i (it (ph rh sg) j s) := fun i => it_add _ i j s
  obtain ⟨-, -, -, -, -, a4⟩ := s4 j (by omega) hj
  obtain ⟨k, k1, k2, k3⟩ := a4 hc
  have hper : it (ph rh sg) (2 * n) (it (ph rh sg) j s) = it (ph rh sg) j s := by
    rw [← at_, show 2 * n + j = j + 2 * n by omega, it_add, s3]
  have tn : t < 2 * n := by
    by_cases w : t < 2 * n
    · exact w
    · exfalso
      obtain ⟨-, a2, -⟩ := t3 (2 * n) P0 (by omega)
      rw [hper] at a2
      exact absurd a2 (Nat.lt_irrefl _)
  have htj : it (ph rh sg) (t + j) s = sg (it (ph rh sg) j s) := by rw [at_, t2]
  have tj : t + j = k := by
    by_cases w : t + j < 2 * n
    · by_cases a : t + j < k
      · exact absurd (htj.trans k3.symm) (dist _ _ a k2)
      · by_cases b : k < t + j
        · exact absurd (k3.trans htj.symm) (dist _ _ b w)
        · omega
    · exfalso
      have e : it (ph rh sg) (t + j - 2 * n) s = sg (it (ph rh sg) j s) := by
        rw [← htj]
        have : t + j = t + j - 2 * n + 2 * n := by omega
        rw [this, it_add, s3]
        congr 1
        omega
      exact absurd (e.trans k3.symm) (dist _ _ (by omega) k2)
  refine ⟨t + j, by omega, by omega, htj, fun i i1 i2 hch => ?_⟩
  obtain ⟨i', rfl⟩ : ∃ i', i = i' + j := ⟨i - j, by omega⟩
  rw [at_] at hch
  obtain ⟨k', e1, e2, e3⟩ := t4 i' (by omega) hch
  exact ⟨k' + j, by omega, by omega, by rw [at_, at_]; exact e3⟩
end TT2
