/-! PURE: the tree that a map is taken back to -/
def uI (P : Nat → Bool) (v : Nat) : Nat → Nat
  | 0 => 0
  | k + 1 => if P k = true ∧ cnB P k + 1 = v then k else uI P v k
theorem cnB_s {P : Nat → Bool} {i j : Nat} (hij : i < j) (h : P i = true) : cnB P i + 1 ≤ cnB P j := by
  have mono : ∀ k, cnB P (i + 1) ≤ cnB P (i + 1 + k) := fun k => by
    induction k with
    | zero => exact Nat.le_refl _
    | succ k ih =>
      have : cnB P (i + 1 + (k + 1)) = cnB P (i + 1 + k) + (if P (i + 1 + k) = true then 1 else 0) := rfl
      omega
  have e : cnB P (i + 1) = cnB P i + (if P i = true then 1 else 0) := rfl
  rw [if_pos h] at e
  have := mono (j - (i + 1))
  rw [show i + 1 + (j - (i + 1)) = j by omega] at this
  omega
theorem cnB_u {P : Nat → Bool} {i j : Nat} (hi : P i = true) (hj : P j = true) (e : cnB P i = cnB P j) : i = j := by
  by_cases a : i < j
  · have := cnB_s a hi; omega
  · by_cases b : j < i
    · have := cnB_s b hj; omega
    · omega
theorem uI_at {P : Nat → Bool} {v j : Nat} (hP : P j = true) (hv : cnB P j + 1 = v) : ∀ k, j < k → uI P v k = j
  | 0, h => absurd h (Nat.not_lt_zero _)
  | k + 1, h => by
    show (if P k = true ∧ cnB P k + 1 = v then k else uI P v k) = j
    by_cases q : P k = true ∧ cnB P k + 1 = v
    · rw [if_pos q]; exact cnB_u q.1 hP (by omega)
    · rw [if_neg q]
      by_cases e : j = k
      · rw [e] at hP hv; exact absurd ⟨hP, hv⟩ q
      · exact uI_at hP hv k (by omega)
theorem cn_hit {P : Nat → Bool} : ∀ {k v : Nat}, v < cnB P k → ∃ j, j < k ∧ P j = true ∧ cnB P j = v
  | 0, v, h => absurd h (Nat.not_lt_zero _)
  | k + 1, v, h => by
    by_cases q : v < cnB P k
    · obtain ⟨j, h1, h2, h3⟩ := cn_hit q
      exact ⟨j, by omega, h2, h3⟩
    · have e : cnB P (k + 1) = cnB P k + (if P k = true then 1 else 0) := rfl
      by_cases p : P k = true
      · rw [if_pos p] at e
        exact ⟨k, by omega, p, by omega⟩
      · rw [if_neg p] at e; omega
section BKT
variable {N n Vb s : Nat} {H U : Nat → Bool} {rh sg nu kp : Nat → Nat}
/-- the face was not met before -/
def upJ (rh sg kp : Nat → Nat) (s j : Nat) : Bool := !anB (fun i => decide (kp (it (ph rh sg) i s) = kp (it (ph rh sg) j s))) j
theorem upJ_iff {j : Nat} : upJ rh sg kp s j = true ↔ ∀ i, i < j → kp (it (ph rh sg) i s) ≠ kp (it (ph rh sg) j s) := by
  unfold upJ
  constructor
  · intro h i hi e
    have : anB (fun i => decide (kp (it (ph rh sg) i s) = kp (it (ph rh sg) j s))) j = true := anB_iff.mpr ⟨i, hi, decide_eq_true e⟩
    rw [this] at h; cases h
  · intro h
    cases q : anB (fun i => decide (kp (it (ph rh sg) i s) = kp (it (ph rh sg) j s))) j with
    | false => rfl
    | true =>
      obtain ⟨i, hi, e⟩ := anB_iff.mp q
      exact absurd (of_decide_eq_true e) (h i hi)
theorem tr_eq (R : Tour n H rh sg nu s) {i j : Nat} (hi : i < 2 * n) (hj : j < 2 * n) (e : it (ph rh sg) i s = it (ph rh sg) j s) : i = j := by
  by_cases a : i < j
  · exact absurd e (R.2.1 i j a hj)
  · by_cases b : j < i
    · exact absurd e.symm (R.2.1 j i b hi)
    · omega
theorem up_chd (T : TT N n Vb H U rh sg nu kp) (hs : H s = true) {j : Nat} (hj : j < 2 * n) : upJ rh sg kp s j = true ↔ chd H sg nu (nu s) (it (ph rh sg) j s) := by
  have R := tour T hs
  have hH := ph_H T hs j
  have t6 := T.2.2.2.2.2.1 _ hH
  rw [upJ_iff]
  constructor
  · intro h
    rcases chd_or T hs hH with c | c
    · exact c
    · exfalso
      obtain ⟨i, hi, e⟩ := R.2.2.1 _ t6.1
      obtain ⟨t, t1, t2, t3, -⟩ := R.2.2.2 i hi (by rw [e]; exact c)
      rw [e, t6.2.1] at t3
      have := tr_eq R t2 hj t3
      exact h i (by omega) (by rw [e]; exact t6.2.2.2)
  · intro c i hi e
    rcases T.2.2.2.2.2.2.2.2.1 _ _ (ph_H T hs i) hH e with q | q
    · exact R.2.1 i j hi hj q.symm
    · obtain ⟨t, t1, t2, t3, -⟩ := R.2.2.2 j hj c
      rw [q, (T.2.2.2.2.2.1 _ (ph_H T hs i)).2.1] at t3
      exact R.2.1 i t (by omega) t2 t3.symm
def stJ (rh sg kp : Nat → Nat) (s j : Nat) : Nat := if upJ rh sg kp s j = true then 1 else 0
theorem ups_c (k : Nat) : ups (stJ rh sg kp s) k = cnB (upJ rh sg kp s) k := cnB_congr (fun i _ => by
  unfold stJ
  cases upJ rh sg kp s i <;> rfl)
theorem nu_next (T : TT N n Vb H U rh sg nu kp) (hs : H s = true) (j : Nat) : nu (it (ph rh sg) (j + 1) s) = nu (sg (it (ph rh sg) j s)) := by
  rw [it_succ']
  exact (T.2.2.1 _ (T.2.2.2.2.2.1 _ (ph_H T hs j)).1).2
theorem hgt_dl (T : TT N n Vb H U rh sg nu kp) (hs : H s = true) : ∀ j, j ≤ 2 * n → hgt (stJ rh sg kp s) j = (dl H sg nu (nu s) (nu (it (ph rh sg) j s)) : Int)
  | 0, _ => by
    show (0 : Int) = _
    show (0 : Int) = (dl H sg nu (nu s) (nu s) : Int)
    rw [dl_0]; rfl
  | j + 1, hj => by
    have ih := hgt_dl T hs j (by omega)
    have hH := ph_H T hs j
    have t6 := T.2.2.2.2.2.1 _ hH
    rw [nu_next T hs]
    by_cases q : upJ rh sg kp s j = true
    · have e : hgt (stJ rh sg kp s) (j + 1) = hgt (stJ rh sg kp s) j + 1 := if_pos (if_pos q)
      have := chd_dl T hs hH ((up_chd T hs (by omega)).mp q)
      rw [e, ih, this]; push_cast; rfl
    · have e : hgt (stJ rh sg kp s) (j + 1) = hgt (stJ rh sg kp s) j - 1 := if_neg (by unfold stJ; rw [if_neg q]; decide)
      have c : chd H sg nu (nu s) (sg (it (ph rh sg) j s)) := by
        rcases chd_or T hs hH with c | c
        · exact absurd ((up_chd T hs (by omega)).mpr c) q
        · exact c
      have := chd_dl T hs t6.1 c
      rw [t6.2.1] at this
      rw [e, ih, this]; push_cast; omega
theorem dyck_J (T : TT N n Vb H U rh sg nu kp) (hs : H s = true) : Dyck (stJ rh sg kp s) n := by
  refine ⟨fun i _ => ?_, fun i hi => ?_, ?_⟩
  · unfold stJ
    by_cases q : upJ rh sg kp s i = true
    · rw [if_pos q]; exact Or.inr rfl
    · rw [if_neg q]; exact Or.inl rfl
  · rw [hgt_dl T hs i hi]; omega
  · rw [hgt_dl T hs (2 * n) (Nat.le_refl _), (tour T hs).1, dl_0]; rfl
/-- v is the number of the tree's vertex u -/
def NumR (n : Nat) (H : Nat → Bool) (rh sg nu kp : Nat → Nat) (s v u : Nat) : Prop := (v = 0 ∧ u = nu s) ∨ ∃ j, j < 2 * n ∧ chd H sg nu (nu s) (it (ph rh sg) j s) ∧ nu (sg (it (ph rh sg) j s)) = u ∧ v = cnB (upJ rh sg kp s) j + 1
theorem num_tw (T : TT N n Vb H U rh sg nu kp) (hs : H s = true) : ∀ i, i ≤ 2 * n → (tw (stJ rh sg kp s) i).2.1 = cnB (upJ rh sg kp s) i ∧ NumR n H rh sg nu kp s (tw (stJ rh sg kp s) i).1 (nu (it (ph rh sg) i s)) ∧ ∀ j, j < i → chd H sg nu (nu s) (it (ph rh sg) j s) → NumR n H rh sg nu kp s ((tw (stJ rh sg kp s) i).2.2 (cnB (upJ rh sg kp s) j + 1)) (nu (it (ph rh sg) j s))
  | 0, _ => ⟨rfl, Or.inl ⟨rfl, rfl⟩, fun j hj => absurd hj (Nat.not_lt_zero _)⟩
  | i + 1, hi => by
    obtain ⟨a1, a2, a3⟩ := num_tw T hs i (by omega)
    have hH := ph_H T hs i
    have t6 := T.2.2.2.2.2.1 _ hH
    have R := tour T hs
    have ec : cnB (upJ rh sg kp s) (i + 1) = cnB (upJ rh sg kp s) i + (if upJ rh sg kp s i = true then 1 else 0) := rfl
    rw [nu_next T hs]
    by_cases q : upJ rh sg kp s i = true
    · have e : tw (stJ rh sg kp s) (i + 1) = ((tw (stJ rh sg kp s) i).2.1 + 1, (tw (stJ rh sg kp s) i).2.1 + 1, va_up (tw (stJ rh sg kp s) i).2.2 ((tw (stJ rh sg kp s) i).2.1 + 1) (tw (stJ rh sg kp s) i).1) := if_pos (if_pos q)
      have c := (up_chd T hs (by omega)).mp q
      rw [if_pos q] at ec
      rw [e]
      refine ⟨by rw [ec]; show _ + 1 = _; rw [a1], Or.inr ⟨i, by omega, c, rfl, by show _ + 1 = _; rw [a1]⟩, fun j hj hc => ?_⟩
      show NumR n H rh sg nu kp s (va_up _ _ _ (cnB (upJ rh sg kp s) j + 1)) _
      by_cases ej : j = i
      · subst ej
        rw [show va_up (tw (stJ rh sg kp s) j).2.2 ((tw (stJ rh sg kp s) j).2.1 + 1) (tw (stJ rh sg kp s) j).1 (cnB (upJ rh sg kp s) j + 1) = (tw (stJ rh sg kp s) j).1 from if_pos (by rw [a1])]
        exact a2
      · have := cnB_s (P := upJ rh sg kp s) (show j < i by omega) ((up_chd T hs (by omega)).mpr hc)
        rw [show va_up (tw (stJ rh sg kp s) i).2.2 ((tw (stJ rh sg kp s) i).2.1 + 1) (tw (stJ rh sg kp s) i).1 (cnB (upJ rh sg kp s) j + 1) = (tw (stJ rh sg kp s) i).2.2 (cnB (upJ rh sg kp s) j + 1) from if_neg (by rw [a1]; omega)]
        exact a3 j (by omega) hc
    · have e : tw (stJ rh sg kp s) (i + 1) = ((tw (stJ rh sg kp s) i).2.2 (tw (stJ rh sg kp s) i).1, (tw (stJ rh sg kp s) i).2.1, (tw (stJ rh sg kp s) i).2.2) := if_neg (by unfold stJ; rw [if_neg q]; decide)
      have c : chd H sg nu (nu s) (sg (it (ph rh sg) i s)) := by
        rcases chd_or T hs hH with c | c
        · exact absurd ((up_chd T hs (by omega)).mpr c) q
        · exact c
      rw [if_neg q] at ec
      rw [e]
      refine ⟨by rw [ec]; exact a1, ?_, fun j hj hc => ?_⟩
      · show NumR n H rh sg nu kp s ((tw (stJ rh sg kp s) i).2.2 (tw (stJ rh sg kp s) i).1) _
        have c' := c
        unfold chd at c'
        rw [t6.2.1] at c'
        rcases a2 with ⟨-, z⟩ | ⟨j, j1, j2, j3, j4⟩
        · exact absurd z c'.1
        · have j2' := j2.2
          rw [j3, c'.2] at j2'
          obtain ⟨t, t1, t2, t3, -⟩ := R.2.2.2 j j1 j2
          rw [← j2'] at t3
          have := tr_eq R t2 (show i < 2 * n by omega) t3
          rw [j4]
          have h := a3 j (by omega) j2
          have e2 : sg (it (ph rh sg) i s) = it (ph rh sg) j s := by
            rw [j2', (T.2.2.2.2.2.1 _ (ph_H T hs j)).2.1]
          rw [e2]; exact h
      · show NumR n H rh sg nu kp s ((tw (stJ rh sg kp s) i).2.2 (cnB (upJ rh sg kp s) j + 1)) _
        by_cases ej : j = i
        · rw [ej] at hc
          exact absurd ((up_chd T hs (by omega)).mpr hc) q
        · exact a3 j (by omega) hc
/-- labels of the tree: of what level the vertex that the dart leads to has -/
def lbJ (rh sg kp lev : Nat → Nat) (n s v : Nat) : Int32 := if v = 0 then 0 else nI (lev (sg (it (ph rh sg) (uI (upJ rh sg kp s) v (2 * n)) s))) - nI (lev s)
theorem lbJ_at {lev : Nat → Nat} {j : Nat} (hj : j < 2 * n) (hu : upJ rh sg kp s j = true) : lbJ rh sg kp lev n s (cnB (upJ rh sg kp s) j + 1) = nI (lev (sg (it (ph rh sg) j s))) - nI (lev s) := by
  unfold lbJ
  rw [if_neg (by omega), uI_at hu rfl (2 * n) hj]
theorem i_one {a b : Int32} : a + 1 - b = a - b + 1 := by
  rw [Int32.sub_eq_add_neg, Int32.sub_eq_add_neg, Int32.add_assoc, Int32.add_assoc, Int32.add_comm 1]
theorem lb_TL {lev : Nat → Nat} (T : TT N n Vb H U rh sg nu kp) (hs : H s = true) (hl : ∀ x y, H x = true → H y = true → nu x = nu y → lev x = lev y) (h1 : ∀ x, H x = true → lev (sg x) = lev x ∨ lev (sg x) = lev x + 1 ∨ lev (sg x) + 1 = lev x) : TL (n, stJ rh sg kp s, lbJ rh sg kp lev n s) := by
  intro v v1 v2
  have v2' : v ≤ n := v2
  have hD := dyck_J T hs
  have hc : v - 1 < cnB (upJ rh sg kp s) (2 * n) := by
    rw [← ups_c, Dyck_ups hD]; omega
  obtain ⟨j, j1, j2, j3⟩ := cn_hit hc
  have ev : v = cnB (upJ rh sg kp s) j + 1 := by omega
  have hch := (up_chd T hs j1).mp j2
  have hn := (num_tw T hs (2 * n) (Nat.le_refl _)).2.2 j j1 hch
  rw [← ev] at hn
  have key : ∀ v', NumR n H rh sg nu kp s v' (nu (it (ph rh sg) j s)) → lbJ rh sg kp lev n s v' = nI (lev (it (ph rh sg) j s)) - nI (lev s) := fun v' h => by
    rcases h with ⟨z1, z2⟩ | ⟨j', a1, a2, a3, a4⟩
    · rw [z1]
      unfold lbJ
      rw [if_pos rfl, hl _ _ (ph_H T hs j) hs z2]
      exact (Int32.sub_self _).symm
    · rw [a4, lbJ_at a1 ((up_chd T hs a1).mpr a2), hl _ _ (T.2.2.2.2.2.1 _ (ph_H T hs j')).1 (ph_H T hs j) a3]
  have e1 : tl (n, stJ rh sg kp s, lbJ rh sg kp lev n s) v = nI (lev (sg (it (ph rh sg) j s))) - nI (lev s) := by
    show lbJ rh sg kp lev n s v = _
    rw [ev]; exact lbJ_at j1 j2
  have e2 : tl (n, stJ rh sg kp s, lbJ rh sg kp lev n s) (tP (n, stJ rh sg kp s, lbJ rh sg kp lev n s) v) = nI (lev (it (ph rh sg) j s)) - nI (lev s) := key _ hn
  rw [e1, e2]
  rcases h1 _ (ph_H T hs j) with e | e | e
  · right; left; rw [e]
  · right; right
    rw [e, ← nI_1]; exact i_one
  · left
    rw [← e, ← nI_1, i_one]
    exact (Int32.add_sub_cancel _ _).symm
end BKT
