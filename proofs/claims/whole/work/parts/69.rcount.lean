/-! the reference: numbers of maps by edges -/
theorem m2_lt {k a : Nat} (hk : k < 2 ^ 31) (ha : a < 2 ^ 31) : nI k - 2 < nI a ↔ k < a + 2 := by
  by_cases q : 2 ≤ k
  · rw [show nI k - 2 = nI (k - 2) from i_sub q, nI_ltI (by omega) ha]; omega
  · have e : (nI a).toInt = a := nI_toInt ha
    rw [Int32.lt_iff_toInt_lt, e]
    have : k = 0 ∨ k = 1 := by omega
    rcases this with rfl | rfl
    · have : (nI 0 - 2).toInt = -2 := rfl
      omega
    · have : (nI 1 - 2).toInt = -1 := rfl
      omega
theorem i29m (i k : Nat) : 29 * nI i + nI k = nI (29 * i + k) := by rw [show (29 : Int32) * nI i = nI (29 * i) from pk_mul 29 _, nI_add]
section RCO
variable {L : Nat} {xs : Nat → Int32} {d : Nat} {M : ME}
def Tp (M : ME) (p : Nat) : Prop := ∀ i k, i < 15 → k < 29 → 29 * i + k < p → M.2.1 118 (29 * i + k) = tabV i k
theorem at_ev {i k : Nat} (hi : i < 15) (hk : k < 29) : EvL (E0 L xs) d m10_at [.ref 110, .int (nI i), .int (nI k)] M (fun r M' => r = M.2.1 118 (29 * i + k) ∧ M' = M) := by
  refine Ev_of k10_at rfl (Nat.le_of_ble_eq_true rfl) (b10_at_0 (fun h => absurd ((nI_ltI (b := 0) (by omega) (by omega)).mp h) (by omega)) (fun _ => b10_at_4 (fun h => absurd ((nI_ltI (b := 0) (by omega) (by omega)).mp h) (by omega)) (fun _ => b10_at_8 (fun _ => b10_at_18 (29 * i + k) (i29m i k) (by omega) (b10_at_29 ⟨_, rfl, rfl, rfl⟩)) (fun h => absurd (nI_le (a := k) (b := 28) (by omega) (by omega)) h))))
theorem joined_ev {n k : Nat} (hn : n < 15) (hk : k < 29) (h : Tp M (29 * n)) : EvL (E0 L xs) (d + 1) m10_joined [.ref 110, .int (nI n), .int (nI k)] M (fun r M' => r = lN (jI n k n) ∧ M' = M) := by
  refine Ev_of k10_joined rfl (Nat.le_of_ble_eq_true rfl) (b10_joined_0 ?_)
  suffices ho : ∀ (q i : Nat), i + q = n → Wp (E0 L xs) (d + 1) m10_joined 5 [.ref 110, .int (nI n), .int (nI k), .long (lN (jI n k i)), .null, .int (nI i), .null] [] M (fun v' M' => ∃ r, v' = some (.long r) ∧ (r = lN (jI n k n) ∧ M' = M)) from ho n 0 (by omega)
  intro q
  induction q with
  | zero =>
    intro i hi
    have : i = n := by omega
    subst this
    exact b10_joined_5 (fun _ => b10_joined_62 ⟨_, rfl, rfl, rfl⟩) (fun h => absurd (nI_le (Nat.le_refl _) (by omega)) h)
  | succ q ih =>
    intro i hi
    refine b10_joined_5 (fun h => absurd ((nI_leI (a := n) (b := i) (by omega) (by omega)).mp h) (by omega)) (fun _ => b10_joined_11 ?_)
    suffices hi : ∀ (p a : Nat), a + p = k - 1 → Wp (E0 L xs) (d + 1) m10_joined 14 [.ref 110, .int (nI n), .int (nI k), .long (lN (jI n k i + jA n k i a)), .null, .int (nI i), .int (nI a)] [] M (fun v' M' => ∃ r, v' = some (.long r) ∧ (r = lN (jI n k n) ∧ M' = M)) from hi (k - 1) 0 (by omega)
    intro p
    induction p with
    | zero =>
      intro a ha
      refine b10_joined_14 (fun _ => b10_joined_56 ?_) (fun h => absurd ((m2_lt (by omega) (by omega)).mpr (by omega)) h)
      rw [nI_1, show a = k - 1 by omega]
      exact ih (i + 1) (by omega)
    | succ p ihp =>
      intro a ha
      refine b10_joined_14 (fun h => absurd ((m2_lt (by omega) (by omega)).mp h) (by omega)) (fun _ => b10_joined_22 (at_ev (by omega) (by omega)) (fun r M1 hr => ?_))
      obtain ⟨rfl, rfl⟩ := hr
      refine b10_joined_31 (R' := fun r M' => r = M1.2.1 118 (29 * (n - 1 - i) + (k - 2 - a)) ∧ M' = M1) ?_ (fun r M2 hr => ?_)
      · rw [show nI n - 1 = nI (n - 1) from i_sub (show 1 ≤ n by omega), i_sub (show i ≤ n - 1 by omega), show nI k - 2 = nI (k - 2) from i_sub (show 2 ≤ k by omega), i_sub (show a ≤ k - 2 by omega)]
        exact at_ev (by omega) (by omega)
      · obtain ⟨rfl, rfl⟩ := hr
        refine b10_joined_47 ?_
        rw [h i a (by omega) (by omega) (by omega), h (n - 1 - i) (k - 2 - a) (by omega) (by omega) (by omega)]
        unfold tabV
        rw [lN_mul, lN_add, nI_1, Nat.add_assoc]
        exact ihp (a + 1) (by omega)
theorem opened_ev {n k : Nat} (hn : n < 15) (h0 : n ≠ 0) (hk : k < 29) (h : Tp M (29 * n)) : EvL (E0 L xs) (d + 1) m10_opened [.ref 110, .int (nI n), .int (nI k)] M (fun r M' => r = lN (if k = 0 then 0 else opS n k (30 - k)) ∧ M' = M) := by
  refine Ev_of k10_opened rfl (Nat.le_of_ble_eq_true rfl) (b10_opened_0 ?_)
  by_cases qk : k = 0
  · subst qk
    exact b10_opened_7 (fun _ => b10_opened_36 ⟨_, rfl, rfl, rfl⟩) (fun h => absurd (nI_le (a := 0) (b := 0) (by omega) (by omega)) h)
  · rw [if_neg qk, show nI k - 1 = nI (k - 1) from i_sub (show 1 ≤ k by omega)]
    suffices ho : ∀ (q j : Nat), j + q = 30 - k → Wp (E0 L xs) (d + 1) m10_opened 7 [.ref 110, .int (nI n), .int (nI k), .long (lN (opS n k j)), .null, .int (nI (k - 1 + j))] [] M (fun v' M' => ∃ r, v' = some (.long r) ∧ (r = lN (opS n k (30 - k)) ∧ M' = M)) from ho (30 - k) 0 (by omega)
    intro q
    induction q with
    | zero =>
      intro j hj
      refine b10_opened_7 (fun h => absurd ((nI_leI (a := k) (b := 0) (by omega) (by omega)).mp h) (by omega)) (fun _ => b10_opened_11 (fun _ => b10_opened_36 ⟨_, rfl, ?_, rfl⟩) (fun h => absurd (nI_lt (a := 28) (b := k - 1 + j) (by omega) (by omega)) h))
      rw [show j = 30 - k by omega]
    | succ q ih =>
      intro j hj
      refine b10_opened_7 (fun h => absurd ((nI_leI (a := k) (b := 0) (by omega) (by omega)).mp h) (by omega)) (fun _ => b10_opened_11 (fun h => absurd ((nI_ltI (a := 28) (b := k - 1 + j) (by omega) (by omega)).mp h) (by omega)) (fun _ => b10_opened_18 (R' := fun r M' => r = M.2.1 118 (29 * (n - 1) + (k - 1 + j)) ∧ M' = M) ?_ (fun r M1 hr => b10_opened_28 ?_)))
      · rw [show nI n - 1 = nI (n - 1) from i_sub (show 1 ≤ n by omega)]
        exact at_ev (by omega) (by omega)
      · obtain ⟨rfl, rfl⟩ := hr
        rw [h (n - 1) (k - 1 + j) (by omega) (by omega) (by omega), nI_1]
        unfold tabV
        rw [lN_add]
        exact ih (j + 1) (by omega)
def FrT (M M' : ME) : Prop := M'.1 = M.1 ∧ M'.2.2 = M.2.2 ∧ ∀ k, k ≠ 118 → M'.2.1 k = M.2.1 k
theorem laysCounts_ev {n : Nat} (hn : n < 15) : EvV (E0 L xs) (d + 2) m10_laysCounts [.ref 110, .int (nI n)] M (fun M' => FrT M M' ∧ Tp M' (29 * (n + 1))) := by
  refine Ev_of k10_laysCounts rfl (Nat.le_of_ble_eq_true rfl) (b10_laysCounts_0 ?_)
  suffices ho : ∀ (q i : Nat) (M1 : ME), i + q = n + 1 → FrT M M1 → Tp M1 (29 * i) → Wp (E0 L xs) (d + 2) m10_laysCounts 2 [.ref 110, .int (nI n), .int (nI i), .null] [] M1 (fun v' M' => v' = none ∧ (FrT M M' ∧ Tp M' (29 * (n + 1)))) from ho (n + 1) 0 M (by omega) ⟨rfl, rfl, fun _ _ => rfl⟩ (fun i k _ _ h => by omega)
  intro q
  induction q with
  | zero =>
    intro i M1 hi f h
    have : i = n + 1 := by omega
    subst this
    exact b10_laysCounts_2 (fun _ => b10_laysCounts_67 ⟨rfl, f, h⟩) (fun h => absurd (nI_lt (by omega) (by omega)) h)
  | succ q ih =>
    intro i M1 hi f h
    refine b10_laysCounts_2 (fun h => absurd ((nI_ltI (a := n) (b := i) (by omega) (by omega)).mp h) (by omega)) (fun _ => b10_laysCounts_7 ?_)
    suffices hj : ∀ (p k : Nat) (M1 : ME), k + p = 29 → FrT M M1 → Tp M1 (29 * i + k) → Wp (E0 L xs) (d + 2) m10_laysCounts 9 [.ref 110, .int (nI n), .int (nI i), .int (nI k)] [] M1 (fun v' M' => v' = none ∧ (FrT M M' ∧ Tp M' (29 * (n + 1)))) from hj 29 0 M1 (by omega) f h
    intro p
    induction p with
    | zero =>
      intro k M2 hk f2 h2
      have : k = 29 := by omega
      subst this
      refine b10_laysCounts_9 (fun _ => b10_laysCounts_61 ?_) (fun h => absurd (nI_lt (a := 28) (b := 29) (by omega) (by omega)) h)
      rw [nI_1]
      exact ih (i + 1) M2 (by omega) f2 h2
    | succ p ihp =>
      intro k M2 hk f2 h2
      have fin : ∀ v : Int64, v = tabV i k → Wp (E0 L xs) (d + 2) m10_laysCounts 54 [.ref 110, .int (nI n), .int (nI i), .int (nI k)] [.long v, .int (29 * nI i + nI k), .ref 118] M2 (fun v' M' => v' = none ∧ (FrT M M' ∧ Tp M' (29 * (n + 1)))) := fun v hv => by
        refine b10_laysCounts_54 (n1 := 435) rfl (by decide) (29 * i + k) (i29m i k) (by omega) ?_
        rw [nI_1]
        refine ihp (k + 1) _ (by omega) ⟨f2.1, f2.2.1, fun k' hk' => ?_⟩ (fun i' k' hi' hk' hp => ?_)
        · show up2 M2.2.1 118 (29 * i + k) v k' = _
          rw [up2_ne hk']; exact f2.2.2 k' hk'
        · show up2 M2.2.1 118 (29 * i + k) v 118 (29 * i' + k') = _
          rw [up2_eq]
          by_cases e : 29 * i' + k' = 29 * i + k
          · have e1 : i' = i := by omega
            have e2 : k' = k := by omega
            subst e1 e2
            show (if 29 * i' + k' = 29 * i' + k' then v else _) = _
            rw [if_pos rfl, hv]
          · show (if 29 * i' + k' = 29 * i + k then v else _) = _
            rw [if_neg e]; exact h2 i' k' hi' hk' (by omega)
      refine b10_laysCounts_9 (fun h => absurd ((nI_ltI (a := 28) (b := k) (by omega) (by omega)).mp h) (by omega)) (fun _ => b10_laysCounts_15 (fun hz => ?_) (fun hz => ?_))
      · have i0 : i = 0 := by have := (nI_leI (a := i) (b := 0) (by omega) (by omega)).mp hz; omega
        subst i0
        refine b10_laysCounts_45 (fun h => b10_laysCounts_53 (fin 0 ?_)) (fun h => b10_laysCounts_49 (fin 1 ?_))
        · unfold tabV
          rw [tT_0 k (by omega), if_neg (show ¬ k = 0 from fun e => h (by rw [e]; rfl))]; rfl
        · unfold tabV
          rw [tT_0 k (by omega), if_pos (show k = 0 by have := (nI_leI (a := k) (b := 0) (by omega) (by omega)).mp (by rw [h]; exact nI_le (a := 0) (b := 0) (by omega) (by omega)); omega)]; rfl
      · have i0 : i ≠ 0 := fun e => hz (by subst e; exact nI_le (a := 0) (b := 0) (by omega) (by omega))
        have h3 : Tp M2 (29 * i) := fun i' k' a b c => h2 i' k' a b (by omega)
        refine b10_laysCounts_29 (joined_ev (d := d) (by omega) (by omega) h3) (fun r M3 hr => ?_)
        obtain ⟨rfl, rfl⟩ := hr
        refine b10_laysCounts_35 (opened_ev (d := d) (by omega) i0 (by omega) h3) (fun r M4 hr => b10_laysCounts_41 ?_)
        obtain ⟨rfl, rfl⟩ := hr
        refine fin _ ?_
        rw [lN_add, tT_r i (by omega) i0 k (by omega)]; rfl
theorem RefS_t {M' : ME} {st : ST} (h : RefS M st) (f : M'.1 = M.1) : RefS M' st := by
  unfold RefS at *
  rw [f]
  obtain ⟨h1, h2, h3, h4, h5⟩ := h
  refine ⟨h1, h2, h3, fun s hs => ?_, fun s hs => ?_⟩
  · have := h4 s hs
    unfold rT at *; rw [f]; exact this
  · have := h5 s hs
    unfold rM at *; rw [f]; exact this
theorem r_count {st : ST} (hS : RefS M st) (hok : StOK st) {x y : Int32} : EvL (E0 L xs) (d + 3) m10_count [.ref 110, .int x, .int y] M (Rl M st (aCount x y)) := by
  have hi : (0 ≤ x.toInt64 ∧ x.toInt64 ≤ 14) ↔ vp_in x 15 := in_iff rfl
  have hy : ((-1) ≤ y.toInt64 ∧ y.toInt64 ≤ 28) ↔ ¬ y < -1 ∧ y ≤ 28 := by
    rw [Int64.le_iff_toInt_le, Int64.le_iff_toInt_le, Int32.lt_iff_toInt_lt, Int32.le_iff_toInt_le, Int32.toInt_toInt64, show ((-1 : Int64)).toInt = -1 from rfl, show ((28 : Int64)).toInt = 28 from rfl, show ((-1 : Int32)).toInt = -1 from rfl, show ((28 : Int32)).toInt = 28 from rfl]
    omega
  have no : ¬ (vp_in x 15 ∧ ¬ y < -1 ∧ y ≤ 28) → Wp (E0 L xs) (d + 3) m10_count 33 [.ref 110, .int x, .int y, .null, .null, .null] [] (sI M 110 0 0) (fun v' M' => ∃ r, v' = some (.long r) ∧ Rl M st (aCount x y) r M') := fun h => b10_count_33 ⟨_, rfl, by rw [show aCount x y = -1 from cIf_neg h _ _]; exact Rl_sc hok hS (tld M)⟩
  refine Ev_of k10_count rfl (Nat.le_of_ble_eq_true rfl) (b10_count_0 (fun h1 => b10_count_18 (fun h2 => ?_) (fun h => no (fun q => h (hy.mpr q.2)))) (fun h => no (fun q => h (hi.mpr q.1))))
  have hx := hi.mp h1
  have hy2 := hy.mp h2
  rw [show aCount x y = _ from cIf_pos ⟨hx, hy2⟩ _ _]
  obtain ⟨n, hn, rfl, en⟩ := in_j hx (by decide)
  rw [en]
  refine b10_count_37 (laysCounts_ev (d := d) hn) (fun M1 h => ?_)
  obtain ⟨f, t⟩ := h
  have fin : ∀ {r0 : Int64}, Rl M st r0 r0 M1 := fun {r0} => ⟨rfl, RefS_t (tld_S hok hS) f.1, FrR_trans (tSr_R (tld M)) (fun k hk => ⟨by rw [f.1], f.2.2 k (by omega), by rw [f.2.1]⟩)⟩
  refine b10_count_42 (fun h => ?_) (fun h => ?_)
  · rw [if_pos h]
    refine b10_count_54 ?_
    suffices ho : ∀ (q c : Nat), c + q = 29 → Wp (E0 L xs) (d + 3) m10_count 59 [.ref 110, .int (nI n), .int y, .long (lN (smN (tT n) c)), .null, .int (nI c)] [] M1 (fun v' M' => ∃ r, v' = some (.long r) ∧ Rl M st (lN (smN (tT n) 29)) r M') from ho 29 0 (by omega)
    intro q
    induction q with
    | zero =>
      intro c hc
      have : c = 29 := by omega
      subst this
      exact b10_count_59 (fun _ => b10_count_82 ⟨_, rfl, fin⟩) (fun h => absurd (nI_lt (a := 28) (b := 29) (by omega) (by omega)) h)
    | succ q ih =>
      intro c hc
      refine b10_count_59 (fun h => absurd ((nI_ltI (a := 28) (b := c) (by omega) (by omega)).mp h) (by omega)) (fun _ => b10_count_66 (at_ev (d := d + 2) hn (by omega)) (fun r M2 hr => b10_count_74 ?_))
      obtain ⟨rfl, rfl⟩ := hr
      rw [t n c hn (by omega) (by omega), nI_1]
      unfold tabV
      rw [lN_add]
      exact ih (c + 1) (by omega)
  · rw [if_neg h]
    have hy' : vp_in y 29 := by
      obtain ⟨h3, h4⟩ := hy2
      rw [Int32.lt_iff_toInt_lt] at h3
      rw [Int32.le_iff_toInt_le] at h4
      have e1 : (-1 : Int32).toInt = -1 := rfl
      have e2 : (28 : Int32).toInt = 28 := rfl
      have e3 : y.toInt ≠ -1 := fun e => h (Int32.toInt_inj.mp e)
      exact vp_in_iff.mpr ⟨by omega, by omega⟩
    obtain ⟨c, hc, rfl, ec⟩ := in_j hy' (by decide)
    rw [ec]
    refine b10_count_47 (at_ev (d := d + 2) hn hc) (fun r M2 hr => b10_count_53 ⟨_, rfl, ?_⟩)
    obtain ⟨rfl, rfl⟩ := hr
    rw [t n c hn hc (by omega)]
    exact fin
end RCO
