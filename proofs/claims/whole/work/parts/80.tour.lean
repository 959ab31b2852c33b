/-! PURE: a tree in the plane, walked around -/
def TT (N n Vb : Nat) (H U : Nat → Bool) (rh sg nu kp : Nat → Nat) : Prop :=
  (∀ x, H x = true → x < N) ∧ (∀ u, U u = true → u < Vb) ∧
  (∀ x, H x = true → H (rh x) = true ∧ nu (rh x) = nu x) ∧
  (∀ x y, H x = true → H y = true → rh x = rh y → x = y) ∧
  (∀ x y, H x = true → H y = true → nu x = nu y → Orb rh x y) ∧
  (∀ x, H x = true → H (sg x) = true ∧ sg (sg x) = x ∧ sg x ≠ x ∧ kp (sg x) = kp x) ∧
  (∀ Q : Nat → Prop, (∀ x, H x = true → Q (nu x) → Q (nu (sg x))) → ∀ x y, H x = true → H y = true → Q (nu x) → Q (nu y)) ∧
  (∀ x, H x = true → kp x < n) ∧ (∀ x y, H x = true → H y = true → kp x = kp y → y = x ∨ y = sg x) ∧
  (∀ x, H x = true → U (nu x) = true) ∧ (∀ u, U u = true → ∃ x, H x = true ∧ nu x = u) ∧
  cnB U Vb = n + 1 ∧ cnB H N = 2 * n
section TTS
variable {N n Vb : Nat} {H U : Nat → Bool} {rh sg nu kp : Nat → Nat}
def rt (H : Nat → Bool) (sg nu : Nat → Nat) (r : Nat) : Nat → Nat → Prop
  | 0, v => v = r
  | k + 1, v => rt H sg nu r k v ∨ ∃ x, H x = true ∧ nu (sg x) = v ∧ rt H sg nu r k (nu x)
theorem rt_mono {r k v : Nat} (h : rt H sg nu r k v) : ∀ j, rt H sg nu r (k + j) v
  | 0 => h
  | j + 1 => Or.inl (rt_mono h j)
theorem rt_all (T : TT N n Vb H U rh sg nu kp) {s x : Nat} (hs : H s = true) (hx : H x = true) : ∃ k, rt H sg nu (nu s) k (nu x) := by
  obtain ⟨-, -, -, -, -, -, t7, -⟩ := T
  refine t7 (fun v => ∃ k, rt H sg nu (nu s) k v) (fun y hy hk => ?_) s x hs hx ⟨0, rfl⟩
  obtain ⟨k, hk⟩ := hk
  exact ⟨k + 1, Or.inr ⟨y, hy, rfl, hk⟩⟩
theorem least_p {P : Nat → Prop} : ∀ k, P k → ∃ k, P k ∧ ∀ j, j < k → ¬ P j := by
  intro k
  induction k using Nat.strongRecOn with
  | _ k ih =>
    intro h
    by_cases q : ∃ j, j < k ∧ P j
    · obtain ⟨j, h1, h2⟩ := q
      exact ih j h1 h2
    · exact ⟨k, h, fun j hj hp => q ⟨j, hj, hp⟩⟩
noncomputable def dl (H : Nat → Bool) (sg nu : Nat → Nat) (r v : Nat) : Nat := @dite Nat (∃ k, rt H sg nu r k v ∧ ∀ j, j < k → ¬ rt H sg nu r j v) (Classical.propDecidable _) (fun h => h.choose) (fun _ => 0)
theorem dl_sp {r v : Nat} (h : ∃ k, rt H sg nu r k v) : rt H sg nu r (dl H sg nu r v) v ∧ ∀ j, j < dl H sg nu r v → ¬ rt H sg nu r j v := by
  obtain ⟨k, hk⟩ := h
  have h2 := least_p (P := fun k => rt H sg nu r k v) k hk
  unfold dl
  rw [dif_pos h2]
  exact h2.choose_spec
theorem dl_le {r v k : Nat} (h : rt H sg nu r k v) : dl H sg nu r v ≤ k := by
  have := (dl_sp ⟨k, h⟩).2 k
  by_cases q : k < dl H sg nu r v
  · exact absurd h (this q)
  · omega
theorem dl_0 {r : Nat} : dl H sg nu r r = 0 := Nat.le_zero.mp (dl_le (k := 0) rfl)
section ROOTED
variable {s : Nat}
theorem dl_step (T : TT N n Vb H U rh sg nu kp) (hs : H s = true) {x : Nat} (hx : H x = true) : dl H sg nu (nu s) (nu (sg x)) ≤ dl H sg nu (nu s) (nu x) + 1 :=
  dl_le (Or.inr ⟨x, hx, rfl, (dl_sp (rt_all T hs hx)).1⟩)
theorem dl_par (T : TT N n Vb H U rh sg nu kp) (hs : H s = true) {v : Nat} (hv : U v = true) (hr : v ≠ nu s) : ∃ p, H p = true ∧ nu p = v ∧ dl H sg nu (nu s) (nu (sg p)) + 1 = dl H sg nu (nu s) v := by
  obtain ⟨x, hx, rfl⟩ := T.2.2.2.2.2.2.2.2.2.2.1 v hv
  have hsp := dl_sp (rt_all T hs hx)
  have t6 := T.2.2.2.2.2.1
  cases q : dl H sg nu (nu s) (nu x) with
  | zero =>
    rw [q] at hsp
    exact absurd hsp.1 hr
  | succ k =>
    rw [q] at hsp
    rcases hsp.1 with h | ⟨y, hy, e, h⟩
    · exact absurd h (hsp.2 k (by omega))
    · refine ⟨sg y, (t6 y hy).1, e, ?_⟩
      rw [(t6 y hy).2.1]
      have h1 := dl_le h
      have h2 := dl_step T hs hy
      rw [e, q] at h2
      omega
noncomputable def par (H : Nat → Bool) (sg nu : Nat → Nat) (r v : Nat) : Nat := @dite Nat (∃ p, H p = true ∧ nu p = v ∧ dl H sg nu r (nu (sg p)) + 1 = dl H sg nu r v) (Classical.propDecidable _) (fun h => h.choose) (fun _ => 0)
theorem par_sp (T : TT N n Vb H U rh sg nu kp) (hs : H s = true) {v : Nat} (hv : U v = true) (hr : v ≠ nu s) : H (par H sg nu (nu s) v) = true ∧ nu (par H sg nu (nu s) v) = v ∧ dl H sg nu (nu s) (nu (sg (par H sg nu (nu s) v))) + 1 = dl H sg nu (nu s) v := by
  have h := dl_par T hs hv hr
  unfold par
  rw [dif_pos h]
  exact h.choose_spec
/-- x leads away from the root -/
def chd (H : Nat → Bool) (sg nu : Nat → Nat) (r x : Nat) : Prop := nu (sg x) ≠ r ∧ par H sg nu r (nu (sg x)) = sg x
theorem chd_dl (T : TT N n Vb H U rh sg nu kp) (hs : H s = true) {x : Nat} (hx : H x = true) (hc : chd H sg nu (nu s) x) : dl H sg nu (nu s) (nu (sg x)) = dl H sg nu (nu s) (nu x) + 1 := by
  have t6 := T.2.2.2.2.2.1
  have hp := par_sp T hs (T.2.2.2.2.2.2.2.2.2.1 (sg x) (t6 x hx).1) hc.1
  rw [hc.2, (t6 x hx).2.1] at hp
  omega
theorem chd_not (T : TT N n Vb H U rh sg nu kp) (hs : H s = true) {x : Nat} (hx : H x = true) (hc : chd H sg nu (nu s) x) : ¬ chd H sg nu (nu s) (sg x) := fun h => by
  have t6 := T.2.2.2.2.2.1
  have h1 := chd_dl T hs hx hc
  have h2 := chd_dl T hs (t6 x hx).1 h
  rw [(t6 x hx).2.1] at h2
  omega
theorem cnB_rm {P : Nat → Bool} {a n : Nat} (ha : a < n) (hP : P a = true) : cnB (fun v => P v && decide (v ≠ a)) n + 1 = cnB P n := by
  have h1 : cnB (fun v => decide (v = a)) n = 1 := by
    have : ∀ n, cnB (fun v => decide (v = a)) n = if a < n then 1 else 0 := fun n => by
      induction n with
      | zero => rfl
      | succ n ih =>
        show cnB _ n + (if decide (n = a) = true then 1 else 0) = _
        rw [ih]
        by_cases q : n = a
        · rw [if_neg (by omega), if_pos (decide_eq_true q), if_pos (by omega)]
        · rw [if_neg (show ¬ decide (n = a) = true by rw [decide_eq_false q]; decide)]
          by_cases q2 : a < n
          · rw [if_pos q2, if_pos (by omega)]
          · rw [if_neg q2, if_neg (by omega)]
    rw [this, if_pos ha]
  have := cnB_or (P := fun v => P v && decide (v ≠ a)) (Q := fun v => decide (v = a)) (R := P) (n := n) (fun i hi => ?_) (fun i hi => ?_)
  · rw [this, h1]
  · by_cases q : i = a
    · rw [q, hP]; simp
    · simp [q]
  · rintro ⟨h2, h3⟩
    have := of_decide_eq_true h3
    rw [Bool.and_eq_true] at h2
    exact of_decide_eq_true h2.2 this
theorem cnB_T {n : Nat} : cnB (fun _ => true) n = n := cnB_all (fun _ _ => rfl)
theorem chd_or (T : TT N n Vb H U rh sg nu kp) (hs : H s = true) {x : Nat} (hx : H x = true) : chd H sg nu (nu s) x ∨ chd H sg nu (nu s) (sg x) := by
  have t6 := T.2.2.2.2.2.1
  have t8 := T.2.2.2.2.2.2.2.1
  have t9 := T.2.2.2.2.2.2.2.2.1
  have t10 := T.2.2.2.2.2.2.2.2.2.1
  have t12 := T.2.2.2.2.2.2.2.2.2.2.2.1
  by_cases hit : ∃ v, U v = true ∧ v ≠ nu s ∧ kp (par H sg nu (nu s) v) = kp x
  · obtain ⟨v, h1, h2, h3⟩ := hit
    obtain ⟨p1, p2, p3⟩ := par_sp T hs h1 h2
    rcases t9 x _ hx p1 h3.symm with e | e
    · refine Or.inr ?_
      unfold chd
      rw [(t6 x hx).2.1]
      rw [e] at p2
      exact ⟨by rw [p2]; exact h2, by rw [p2, e]⟩
    · refine Or.inl ?_
      unfold chd
      rw [e] at p2
      exact ⟨by rw [p2]; exact h2, by rw [p2, e]⟩
  · exfalso
    have h := cnB_inj (P := fun v => U v && decide (v ≠ nu s)) (Q := fun f => true && decide (f ≠ kp x)) (a := Vb) (b := n) (fun v => kp (par H sg nu (nu s) v)) (fun v hv hP => ?_) (fun u v hu hv hP hQ e => ?_)
    · have e1 := cnB_rm (P := U) (a := nu s) (n := Vb) (T.2.1 _ (t10 s hs)) (t10 s hs)
      have e2 := cnB_rm (P := fun _ => true) (a := kp x) (n := n) (t8 x hx) rfl
      rw [cnB_T] at e2
      omega
    · rw [Bool.and_eq_true] at hP
      have hv2 := of_decide_eq_true hP.2
      obtain ⟨p1, p2, p3⟩ := par_sp T hs hP.1 hv2
      refine ⟨t8 _ p1, ?_⟩
      rw [Bool.true_and]
      exact decide_eq_true (fun e => hit ⟨v, hP.1, hv2, e⟩)
    · rw [Bool.and_eq_true] at hP hQ
      have hu2 := of_decide_eq_true hP.2
      have hv2 := of_decide_eq_true hQ.2
      obtain ⟨p1, p2, p3⟩ := par_sp T hs hP.1 hu2
      obtain ⟨q1, q2, q3⟩ := par_sp T hs hQ.1 hv2
      rcases t9 _ _ p1 q1 e with e | e
      · rw [e] at q2
        rw [← p2, ← q2]
      · rw [e] at q2 q3
        rw [(t6 _ p1).2.1, p2] at q3
        rw [q2] at p3
        omega
theorem chd_at (T : TT N n Vb H U rh sg nu kp) (hs : H s = true) {x y : Nat} (hx : H x = true) (hy : H y = true) (hc : chd H sg nu (nu s) x) (hv : nu y = nu (sg x)) (hne : y ≠ sg x) : chd H sg nu (nu s) y := by
  rcases chd_or T hs hy with h | h
  · exact h
  · exfalso
    unfold chd at h hc
    rw [(T.2.2.2.2.2.1 y hy).2.1, hv, hc.2] at h
    exact hne h.2.symm
theorem chd_root (T : TT N n Vb H U rh sg nu kp) (hs : H s = true) {y : Nat} (hy : H y = true) (hv : nu y = nu s) : chd H sg nu (nu s) y := by
  rcases chd_or T hs hy with h | h
  · exact h
  · exfalso
    unfold chd at h
    rw [(T.2.2.2.2.2.1 y hy).2.1] at h
    exact h.1 hv
/-- no vertex is farther than n -/
theorem dl_n (T : TT N n Vb H U rh sg nu kp) (hs : H s = true) {v : Nat} (hv : U v = true) : dl H sg nu (nu s) v ≤ n := by
  have key : ∀ k v, U v = true → dl H sg nu (nu s) v = k → ∀ j, j ≤ k → ∃ u, U u = true ∧ dl H sg nu (nu s) u = j := by
    intro k
    induction k with
    | zero => intro v hv e j hj; exact ⟨v, hv, by omega⟩
    | succ k ih =>
      intro v hv e j hj
      by_cases q : j = k + 1
      · exact ⟨v, hv, by omega⟩
      · have hr : v ≠ nu s := fun z => by rw [z, dl_0] at e; omega
        obtain ⟨p1, p2, p3⟩ := par_sp T hs hv hr
        exact ih _ (T.2.2.2.2.2.2.2.2.2.1 _ (T.2.2.2.2.2.1 _ p1).1) (by omega) j (by omega)
  have h := key _ v hv rfl
  have hex : ∀ j, ∃ u, j ≤ dl H sg nu (nu s) v → U u = true ∧ dl H sg nu (nu s) u = j := fun j => by
    by_cases q : j ≤ dl H sg nu (nu s) v
    · obtain ⟨u, hu⟩ := h j q
      exact ⟨u, fun _ => hu⟩
    · exact ⟨0, fun z => absurd z q⟩
  have := cnB_inj (P := fun _ => true) (Q := U) (a := dl H sg nu (nu s) v + 1) (b := Vb) (fun j => (hex j).choose) (fun j hj _ => ?_) (fun i j hi hj _ _ e => ?_)
  · rw [cnB_T, T.2.2.2.2.2.2.2.2.2.2.2.1] at this
    omega
  · have := (hex j).choose_spec (by omega)
    exact ⟨T.2.1 _ this.1, this.1⟩
  · have h1 := (hex i).choose_spec (by omega)
    have h2 := (hex j).choose_spec (by omega)
    have e' : (hex i).choose = (hex j).choose := e
    rw [e'] at h1
    omega
end ROOTED
end TTS
