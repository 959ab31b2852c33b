/-! PURE: the contour of a tree, and where it comes back -/
section DYK
variable {s : Nat → Nat} {n : Nat}
theorem tw_up {i : Nat} (hu : s i = 1) : tw s (i + 1) = ((tw s i).2.1 + 1, (tw s i).2.1 + 1, va_up (tw s i).2.2 ((tw s i).2.1 + 1) (tw s i).1) := if_pos hu
theorem tw_dn {i : Nat} (hu : ¬ s i = 1) : tw s (i + 1) = ((tw s i).2.2 (tw s i).1, (tw s i).2.1, (tw s i).2.2) := if_neg hu
theorem tw_m (h : Dyck s n) {i : Nat} (hi : i ≤ 2 * n) : (tw s i).2.1 = ups s i ∧ (tw s i).1 ≤ ups s i := by
  obtain ⟨dp, h1, h2, -⟩ := tw_inv h i hi
  exact ⟨h1, by rw [← h1]; exact h2⟩
theorem tw_P (h : Dyck s n) {i v : Nat} (hi : i ≤ 2 * n) (hv : v ≤ ups s i) : (tw s (2 * n)).2.2 v = (tw s i).2.2 v := by
  have := (tw_par (s := s) (i := i) (k := 2 * n - i) (v := v) (by rw [(tw_m h hi).1]; exact hv)).1
  rw [show i + (2 * n - i) = 2 * n by omega] at this
  exact this
theorem A_up (h : Dyck s n) {i : Nat} (hi : i < 2 * n) (hu : s i = 1) : (tw s (i + 1)).1 = ups s i + 1 ∧ (tw s (2 * n)).2.2 (ups s i + 1) = (tw s i).1 := by
  have hm := tw_m h (show i ≤ 2 * n by omega)
  have e := tw_up hu
  have eu : ups s (i + 1) = ups s i + 1 := by
    show ups s i + (if decide (s i = 1) = true then 1 else 0) = _
    rw [if_pos (decide_eq_true hu)]
  refine ⟨by rw [e, hm.1], ?_⟩
  rw [tw_P h (show i + 1 ≤ 2 * n by omega) (by rw [eu]; exact Nat.le_refl _), e, hm.1]
  exact if_pos rfl
theorem A_pos (h : Dyck s n) {i : Nat} (hi : i < 2 * n) (hu : ¬ s i = 1) : 1 ≤ (tw s i).1 ∧ (tw s (i + 1)).1 = (tw s (2 * n)).2.2 (tw s i).1 ∧ (tw s (2 * n)).2.2 (tw s i).1 < (tw s i).1 := by
  obtain ⟨dp, h1, h2, h3, h4, h5, h6⟩ := tw_inv h i (by omega)
  have hg := h.2.1 (i + 1) (by omega)
  have eh : hgt s (i + 1) = hgt s i - 1 := if_neg hu
  have hp : 1 ≤ (tw s i).1 := by
    rcases Nat.eq_zero_or_pos (tw s i).1 with q | q
    · rw [q, h4] at h6; omega
    · exact q
  have hm := tw_m h (show i ≤ 2 * n by omega)
  have eP := tw_P h (show i ≤ 2 * n by omega) hm.2
  refine ⟨hp, ?_, ?_⟩
  · rw [tw_dn hu]; exact eP.symm
  · rw [eP]; exact h3 _ hp h2
theorem dp_ex (h : Dyck s n) : ∃ dp : Nat → Nat, dp 0 = 0 ∧ (∀ v, 1 ≤ v → v ≤ n → dp v = dp ((tw s (2 * n)).2.2 v) + 1) ∧ ∀ i, i ≤ 2 * n → (dp (tw s i).1 : Int) = hgt s i := by
  obtain ⟨dp, h1, h2, h3, h4, h5, h6⟩ := tw_inv h (2 * n) (Nat.le_refl _)
  have eU := Dyck_ups h
  rw [h1, eU] at h5
  refine ⟨dp, h4, h5, fun i => ?_⟩
  induction i with
  | zero => intro _; show (dp 0 : Int) = 0; rw [h4]; rfl
  | succ i ih =>
    intro hi
    have ih' := ih (by omega)
    by_cases hu : s i = 1
    · obtain ⟨a1, a2⟩ := A_up h (show i < 2 * n by omega) hu
      have hl := Dyck_lt h (show i < 2 * n by omega) hu
      have := h5 (ups s i + 1) (by omega) (by omega)
      rw [a2] at this
      have eh : hgt s (i + 1) = hgt s i + 1 := if_pos hu
      rw [a1, this, eh, ← ih']; push_cast; rfl
    · obtain ⟨a1, a2, -⟩ := A_pos h (show i < 2 * n by omega) hu
      have hle := (tw_m h (show i ≤ 2 * n by omega)).2
      have := h5 _ a1 (by have := Dyck_le h (show i ≤ 2 * n by omega); omega)
      have eh : hgt s (i + 1) = hgt s i - 1 := if_neg hu
      rw [a2, eh, ← ih', this]; push_cast; omega
theorem hgt_s (s : Nat → Nat) (i : Nat) : hgt s (i + 1) = hgt s i + 1 ∨ hgt s (i + 1) = hgt s i - 1 := by
  by_cases hu : s i = 1
  · exact Or.inl (if_pos hu)
  · exact Or.inr (if_neg hu)
/-- the first time that the height is no more than at i -/
theorem ret0 (h : Dyck s n) {i : Nat} (hi : i < 2 * n) (hu : s i = 1) : ∃ l, i < l ∧ l ≤ 2 * n ∧ hgt s l = hgt s i ∧ ∀ k, i < k → k < l → hgt s i < hgt s k := by
  have e0 : hgt s (2 * n) ≤ hgt s i := by rw [h.2.2]; exact h.2.1 i (by omega)
  obtain ⟨l, ⟨l1, l2, l3⟩, l4⟩ := least_p (P := fun l => i < l ∧ l ≤ 2 * n ∧ hgt s l ≤ hgt s i) (2 * n) ⟨hi, Nat.le_refl _, e0⟩
  have big : ∀ k, i < k → k < l → hgt s i < hgt s k := fun k k1 k2 => by
    by_cases q : hgt s k ≤ hgt s i
    · exact absurd ⟨k1, by omega, q⟩ (l4 k k2)
    · omega
  refine ⟨l, l1, l2, ?_, big⟩
  have eu : hgt s (i + 1) = hgt s i + 1 := if_pos hu
  obtain ⟨k, rfl⟩ : ∃ k, l = k + 1 := ⟨l - 1, by omega⟩
  by_cases q : k = i
  · subst q; omega
  · have := big k (by omega) (by omega)
    rcases hgt_s s k with z | z <;> omega
theorem stk (h : Dyck s n) : ∀ k i, i + k ≤ 2 * n → (∀ l, i ≤ l → l ≤ i + k → hgt s i ≤ hgt s l) → hgt s (i + k) = hgt s i → (tw s (i + k)).1 = (tw s i).1 := by
  intro k
  induction k using Nat.strongRecOn with
  | _ k ih =>
    intro i hk hge heq
    by_cases k0 : k = 0
    · subst k0; rfl
    · have hu : s i = 1 := Classical.byContradiction fun q => by
        have e : hgt s (i + 1) = hgt s i - 1 := if_neg q
        have := hge (i + 1) (by omega) (by omega)
        omega
      obtain ⟨l, l1, l2, l3, l4⟩ := ret0 h (show i < 2 * n by omega) hu
      have hl : l ≤ i + k := by
        by_cases q : l ≤ i + k
        · exact q
        · have := l4 (i + k) (by omega) (by omega)
          omega
      obtain ⟨a1, a2⟩ := A_up h (show i < 2 * n by omega) hu
      have eu : hgt s (i + 1) = hgt s i + 1 := if_pos hu
      obtain ⟨p, rfl⟩ : ∃ p, l = p + 1 := ⟨l - 1, by omega⟩
      have hp : i < p := by
        by_cases q : p = i
        · subst q; omega
        · omega
      have hpg := l4 p hp (by omega)
      have hpd : ¬ s p = 1 := fun q => by
        have e : hgt s (p + 1) = hgt s p + 1 := if_pos q
        omega
      have epd : hgt s (p + 1) = hgt s p - 1 := if_neg hpd
      have h1 := ih (p - (i + 1)) (by omega) (i + 1) (by omega) (fun z z1 z2 => by
        have := l4 z (by omega) (by omega)
        omega) (by rw [show i + 1 + (p - (i + 1)) = p by omega]; omega)
      rw [show i + 1 + (p - (i + 1)) = p by omega, a1] at h1
      obtain ⟨b1, b2, -⟩ := A_pos h (show p < 2 * n by omega) hpd
      rw [h1, a2] at b2
      have h2 := ih (i + k - (p + 1)) (by omega) (p + 1) (by omega) (fun z z1 z2 => by
        have := hge z (by omega) (by omega)
        omega) (by rw [show p + 1 + (i + k - (p + 1)) = i + k by omega]; omega)
      rw [show p + 1 + (i + k - (p + 1)) = i + k by omega, b2] at h2
      exact h2
/-- back at the vertex, by the same edge -/
theorem retJ (h : Dyck s n) {i : Nat} (hi : i < 2 * n) (hu : s i = 1) : ∃ p, i < p ∧ p < 2 * n ∧ hgt s (p + 1) = hgt s i ∧ (∀ k, i < k → k < p + 1 → hgt s i < hgt s k) ∧ (tw s (p + 1)).1 = (tw s i).1 ∧ (tw s p).1 = ups s i + 1 ∧ ¬ s p = 1 := by
  obtain ⟨l, l1, l2, l3, l4⟩ := ret0 h hi hu
  obtain ⟨a1, a2⟩ := A_up h hi hu
  have eu : hgt s (i + 1) = hgt s i + 1 := if_pos hu
  obtain ⟨p, rfl⟩ : ∃ p, l = p + 1 := ⟨l - 1, by omega⟩
  have hp : i < p := by
    by_cases q : p = i
    · subst q; omega
    · omega
  have hpg := l4 p hp (by omega)
  have hpd : ¬ s p = 1 := fun q => by
    have e : hgt s (p + 1) = hgt s p + 1 := if_pos q
    omega
  have epd : hgt s (p + 1) = hgt s p - 1 := if_neg hpd
  have h1 := stk h (p - (i + 1)) (i + 1) (by omega) (fun z z1 z2 => by
    have := l4 z (by omega) (by omega)
    omega) (by rw [show i + 1 + (p - (i + 1)) = p by omega]; omega)
  rw [show i + 1 + (p - (i + 1)) = p by omega, a1] at h1
  obtain ⟨b1, b2, -⟩ := A_pos h (show p < 2 * n by omega) hpd
  rw [h1, a2] at b2
  exact ⟨p, hp, by omega, l3, l4, b2, h1, hpd⟩
/-- left downwards: never again -/
theorem nov (h : Dyck s n) : ∀ c' c, c < c' → c' ≤ 2 * n → ¬ s c = 1 → (tw s c').1 ≠ (tw s c).1 := by
  obtain ⟨dp, d0, d1, d2⟩ := dp_ex h
  intro c'
  induction c' using Nat.strongRecOn with
  | _ c' ih =>
    intro c hc hc' hd e
    obtain ⟨p, rfl⟩ : ∃ p, c' = p + 1 := ⟨c' - 1, by omega⟩
    have hm := tw_m h (show c ≤ 2 * n by omega)
    have hmono := ups_mono s (show c ≤ p by omega)
    by_cases hu : s p = 1
    · have := (A_up h (show p < 2 * n by omega) hu).1
      omega
    · obtain ⟨a1, a2, a3⟩ := A_pos h (show p < 2 * n by omega) hu
      by_cases q : p = c
      · subst q; omega
      · have hmp := tw_m h (show p ≤ 2 * n by omega)
        obtain ⟨i, i1, i2, i3⟩ := cn_hit (P := fun j => decide (s j = 1)) (k := p) (v := (tw s p).1 - 1) (by
          have : ups s p = cnB (fun j => decide (s j = 1)) p := rfl
          omega)
        have hi1 : s i = 1 := of_decide_eq_true i2
        have eu : ups s i + 1 = (tw s p).1 := by
          have : ups s i = cnB (fun j => decide (s j = 1)) i := rfl
          omega
        have hpar := (A_up h (show i < 2 * n by omega) hi1).2
        rw [eu] at hpar
        have eAi : (tw s i).1 = (tw s c).1 := by rw [← hpar, ← a2]; exact e
        by_cases q1 : c < i
        · exact ih i (by omega) c q1 (by omega) hd eAi
        · by_cases q2 : i = c
          · rw [q2] at hi1; exact hd hi1
          · obtain ⟨r, r1, r2, r3, r4, r5, r6, r7⟩ := retJ h (show i < 2 * n by omega) hi1
            have hh : hgt s c = hgt s i := by
              rw [← d2 c (by omega), ← d2 i (by omega), eAi]
            have hr : r + 1 ≤ c := by
              by_cases w : r + 1 ≤ c
              · exact w
              · have := r4 c (by omega) (by omega)
                omega
            exact ih p (by omega) r (by omega) (by omega) r7 (by rw [r6, eu])
/-- the edge that a step goes along -/
def edJ (s : Nat → Nat) (i : Nat) : Nat := if s i = 1 then ups s i else (tw s i).1 - 1
theorem nxc (h : Dyck s n) {c : Nat} (hc : c < 2 * n) : ∃ c', c' < 2 * n ∧ (tw s c').1 = (tw s c).1 ∧ ((c < c' ∧ ∀ k, c < k → k < c' → (tw s k).1 ≠ (tw s c).1) ∨ ((∀ k, c < k → k < 2 * n → (tw s k).1 ≠ (tw s c).1) ∧ ∀ k, k < c' → (tw s k).1 ≠ (tw s c).1)) ∧ edJ s ((c' + 2 * n - 1) % (2 * n)) = edJ s c := by
  obtain ⟨dp, d0, d1, d2⟩ := dp_ex h
  by_cases hu : s c = 1
  · obtain ⟨p, p1, p2, p3, p4, p5, p6, p7⟩ := retJ h hc hu
    have e1 : edJ s c = ups s c := if_pos hu
    have e2 : edJ s p = ups s c := by unfold edJ; rw [if_neg p7, p6]; rfl
    have no : ∀ k, c < k → k < p + 1 → (tw s k).1 ≠ (tw s c).1 := fun k k1 k2 e => by
      have := p4 k k1 k2
      rw [← d2 k (by omega), ← d2 c (by omega), e] at this
      omega
    by_cases q : p + 1 = 2 * n
    · refine ⟨0, by omega, ?_, Or.inr ⟨fun k k1 k2 => no k k1 (by omega), fun k hk => absurd hk (Nat.not_lt_zero _)⟩, ?_⟩
      · rw [← p5, q]
        show 0 = (tw s (2 * n)).1
        have hz := d2 (2 * n) (Nat.le_refl _)
        rw [h.2.2] at hz
        have hm := tw_m h (Nat.le_refl (2 * n))
        have hU := Dyck_ups h
        rcases Nat.eq_zero_or_pos (tw s (2 * n)).1 with z | z
        · exact z.symm
        · have := d1 _ z (by omega)
          omega
      · rw [show (0 + 2 * n - 1) % (2 * n) = p by rw [Nat.mod_eq_of_lt (by omega)]; omega, e1, e2]
    · refine ⟨p + 1, by omega, p5, Or.inl ⟨by omega, no⟩, ?_⟩
      rw [show (p + 1 + 2 * n - 1) % (2 * n) = p by rw [show p + 1 + 2 * n - 1 = p + 2 * n by omega, Nat.add_mod_right, Nat.mod_eq_of_lt (by omega)], e1, e2]
  · obtain ⟨a1, a2, a3⟩ := A_pos h hc hu
    have hm := tw_m h (show c ≤ 2 * n by omega)
    obtain ⟨i, i1, i2, i3⟩ := cn_hit (P := fun j => decide (s j = 1)) (k := c) (v := (tw s c).1 - 1) (by
      have : ups s c = cnB (fun j => decide (s j = 1)) c := rfl
      omega)
    have hi1 : s i = 1 := of_decide_eq_true i2
    have eu : ups s i + 1 = (tw s c).1 := by
      have : ups s i = cnB (fun j => decide (s j = 1)) i := rfl
      omega
    have e1 : edJ s c = (tw s c).1 - 1 := if_neg hu
    have e2 : edJ s i = ups s i := if_pos hi1
    have eA := (A_up h (show i < 2 * n by omega) hi1).1
    refine ⟨i + 1, by omega, by rw [eA, eu], Or.inr ⟨fun k k1 k2 => nov h k c k1 (by omega) hu, fun k hk e => ?_⟩, ?_⟩
    · have h3 := (tw_m h (show k ≤ 2 * n by omega)).2
      have h4 := ups_mono s (show k ≤ i by omega)
      omega
    · rw [show (i + 1 + 2 * n - 1) % (2 * n) = i by rw [show i + 1 + 2 * n - 1 = i + 2 * n by omega, Nat.add_mod_right, Nat.mod_eq_of_lt (by omega)], e1, e2]
      omega
end DYK
