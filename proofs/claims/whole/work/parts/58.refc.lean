/-! the reference: questions about a map -/
section RFC
variable {L : Nat} {xs : Nat → Int32} {d : Nat} {M : ME} {st : ST}
theorem tL_sr {M M' : ME} (f : Fr tL M M') : Fr tSr M M' := Fr_mono f (fun k j q => by
  unfold tL
  split
  all_goals first | (cases q; done) | rfl | skip
  all_goals
    have q' := q
    simp [tSr] at q'
    simp [q'])
theorem t117_sr {M M' : ME} (f : Fr (tR1 117) M M') : Fr tSr M M' := Fr_mono f (fun k j q => tR1_f (fun z => by rw [z] at q; cases q))
/-- a map is laid out -/
def Lay (M : ME) (st : ST) (j : Nat) (M' : ME) : Prop := Fr tSr M M' ∧ rM M' j (sM st j) ∧ Ld (sM st j) M'
theorem rlays (hS : RefS M st) (hok : StOK st) {j : Nat} (hj : j < 4) : EvV (E0 L xs) (d + 2) m10_lays [.ref 110, .int (nI j)] (sI M 110 0 0) (Lay M st j) := by
  have hS1 := tld_S hok hS
  refine EvV_post (lays_ev (d := d) (show j < 5 by omega) (ok_PV hok j hj) (hS1.2.2.2.2 j hj)) (fun M2 h => ?_)
  exact ⟨Fr_trans (tld M) (tL_sr h.1), rM_fr (hS1.2.2.2.2 j hj) h.1 rfl rfl (fun _ _ => rfl), h.2⟩
theorem mx_ext {f g : Nat → Nat} : ∀ {n : Nat}, (∀ i, i < n → f i = g i) → mxN f n = mxN g n
  | 0, _ => rfl
  | n + 1, h => by
    show max (mxN f n) (f n) = max (mxN g n) (g n)
    rw [mx_ext (fun i hi => h i (by omega)), h n (by omega)]
theorem mx_zero {f : Nat → Nat} {n : Nat} : ∀ {k : Nat}, (∀ i, n ≤ i → i < n + k → f i = 0) → mxN f (n + k) = mxN f n
  | 0, _ => rfl
  | k + 1, h => by
    show max (mxN f (n + k)) (f (n + k)) = _
    rw [mx_zero (fun i h1 h2 => h i h1 (by omega)), h (n + k) (by omega) (by omega)]
    exact Nat.max_eq_left (Nat.zero_le _)
theorem mx_lt {f : Nat → Nat} {b : Nat} (hb : 0 < b) : ∀ {n : Nat}, (∀ i, i < n → f i < b) → mxN f n < b
  | 0, _ => hb
  | n + 1, h => by
    have h1 := mx_lt (n := n) hb (fun i hi => h i (by omega))
    have h2 := h n (by omega)
    show max (mxN f n) (f n) < b
    omega
theorem rgreatest_ev {o : Nat} {f : Nat → Nat} (ho : o = 0 ∨ o = 32) (hf : ∀ i, i < 32 → M.1 116 (o + i) = nI (f i)) (hf2 : ∀ i, i < 32 → f i < 33) : EvI (E0 L xs) d m10_greatest [.ref 110, .int (nI o)] M (fun r M' => r = nI (mxN f 32) ∧ M' = M) := by
  refine Ev_of k10_greatest rfl (Nat.le_of_ble_eq_true rfl) (b10_greatest_0 ?_)
  have e32 : nI o + 32 = nI (o + 32) := nI_add o 32
  suffices hloop : ∀ (q i : Nat), i + q = 32 → Wp (E0 L xs) d m10_greatest 4 [.ref 110, .int (nI o), .int (nI (mxN f i)), .int (nI (o + i))] [] M (fun v M' => ∃ r, v = some (.int r) ∧ (r = nI (mxN f 32) ∧ M' = M)) by
    exact hloop 32 0 (by omega)
  intro q
  induction q with
  | zero =>
    intro i hi
    have : i = 32 := by omega
    subst this
    exact b10_greatest_4 (fun _ => b10_greatest_39 ⟨_, rfl, rfl, rfl⟩) (fun h => absurd (by rw [e32]; exact nI_le (Nat.le_refl _) (by omega)) h)
  | succ q ih =>
    intro i hi
    have h1 : mxN f i < 33 := mx_lt (by decide) (fun k hk => hf2 k (by omega))
    have h2 := hf2 i (by omega)
    have e : gI M 116 (o + i) = nI (f i) := hf i (by omega)
    have es : mxN f (i + 1) = max (mxN f i) (f i) := rfl
    refine b10_greatest_4 (fun h => ?_) (fun _ => b10_greatest_12 (o + i) rfl (by omega) (fun h => b10_greatest_31 (b10_greatest_32 ?_)) (fun h => b10_greatest_22 (o + i) rfl (by omega) (b10_greatest_32 ?_)))
    · rw [e32] at h
      exact absurd ((nI_leI (by omega) (by omega)).mp h) (by omega)
    · rw [e] at h
      have := (nI_leI (by omega) (by omega)).mp h
      have h3 := ih (i + 1) (by omega)
      rw [es, Nat.max_eq_left (by omega)] at h3
      rw [nI_1]; exact h3
    · rw [e] at h ⊢
      have := mt (nI_leI (a := f i) (b := mxN f i) (by omega) (by omega)).mpr h
      have h3 := ih (i + 1) (by omega)
      rw [es, Nat.max_eq_right (by omega)] at h3
      rw [nI_1]; exact h3
theorem areFours_ev {j : Nat} {m : PMp} (hj : j < 5) (hm : PV m) (hr : rM M j m) (hl : Ld m M) : EvI (E0 L xs) d m10_areFours [.ref 110, .int (nI j)] M (fun r M' => r = b2i (fr4 m) ∧ M' = M) := by
  have hE : m.1 ≤ 16 := hm.1
  have hF := pFn_le hm
  have hN := MV_N hm
  have e0 : gI M 112 j = nI m.1 := hr.1
  have e8 : gI M 110 8 = nI (pFn m) := hl.2.1
  have z4 : m.1 = 0 → fr4 m = false := fun h0 => by
    refine alB_f ⟨0, pFn_pos hm, decide_eq_false ?_⟩
    have : pFd m 0 = 0 := by show cnB _ (2 * m.1) = 0; rw [h0]; rfl
    omega
  refine Ev_of k10_areFours rfl (Nat.le_of_ble_eq_true rfl) (b10_areFours_0 j rfl hj (fun h => b10_areFours_11 ?_) (fun h => b10_areFours_9 ⟨_, rfl, ?_, rfl⟩))
  · rw [e0] at h
    have hE0 : m.1 ≠ 0 := fun z => h (by rw [z]; rfl)
    have eF : pFn m = ctO (pF m) (pN m) := by unfold pFn; rw [if_neg hE0]
    suffices hloop : ∀ (q i : Nat), i + q = pFn m → (∀ k, k < i → pFd m k = 4) → Wp (E0 L xs) d m10_areFours 13 [.ref 110, .int (nI j), .int (nI i)] [] M (fun v M' => ∃ r, v = some (.int r) ∧ (r = b2i (fr4 m) ∧ M' = M)) by
      exact hloop (pFn m) 0 (by omega) (fun k hk => absurd hk (Nat.not_lt_zero _))
    intro q
    induction q with
    | zero =>
      intro i hi h4
      have : i = pFn m := by omega
      subst this
      refine b10_areFours_13 (fun _ => b10_areFours_42 ⟨_, rfl, ?_, rfl⟩) (fun h => absurd (by rw [e8]; exact nI_le (Nat.le_refl _) (by omega)) h)
      rw [show fr4 m = true from alB_iff.mpr (fun k hk => decide_eq_true (h4 k hk))]; rfl
    | succ q ih =>
      intro i hi h4
      have e : gI M 116 (32 + i) = nI (pFd m i) := by
        have := hl.2.2.2.2.2 i (by omega)
        rw [if_pos (by omega)] at this
        exact this
      have hsz := szO_le (pF m) (pN m) i
      refine b10_areFours_13 (fun h => ?_) (fun _ => b10_areFours_21 (32 + i) (nI_add 32 i) (by omega) (fun h => b10_areFours_36 ?_) (fun h => b10_areFours_34 ⟨_, rfl, ?_, rfl⟩))
      · rw [e8] at h
        exact absurd ((nI_leI (by omega) (by omega)).mp h) (by omega)
      · rw [nI_1]
        refine ih (i + 1) (by omega) (fun k hk => ?_)
        by_cases ek : k = i
        · rw [e] at h
          rw [ek]
          exact (nI_eq (b := 4) (by show szO _ _ _ < _; omega) (by decide)).mp h
        · exact h4 k (by omega)
      · rw [show fr4 m = false from alB_f ⟨i, by omega, decide_eq_false (fun z => h (by rw [e, z]; rfl))⟩]; rfl
  · rw [e0] at h
    rw [z4 ((nI_eq (b := 0) (by omega) (by decide)).mp h)]; rfl
theorem isFit_ev {j : Nat} {m : PMp} (hj : j < 5) (hm : MV m) (hr : rM M j m) (hl : Ld m M) : EvI (E0 L xs) (d + 1) m10_isFit [.ref 110, .int (nI j)] M (fun r M' => r = b2i (fit m) ∧ M' = M) := by
  have hE : m.1 ≤ 16 := hm.1.1
  have hV := pVn_le hm.1
  have hEu : pVn m + pFn m = pE m + 2 := hm.2.2
  have e0 : gI M 112 j = nI m.1 := hr.1
  have e7 : gI M 110 7 = nI (pVn m) := hl.1
  refine Ev_of k10_isFit rfl (Nat.le_of_ble_eq_true rfl) (b10_isFit_0 (areFours_ev hj hm.1 hr hl) (fun r M1 hr1 => ?_))
  obtain ⟨rfl, rfl⟩ := hr1
  have t31 : ∀ {b : Bool}, b = fit m → Wp (E0 L xs) (d + 1) m10_isFit 31 [.ref 110, .int (nI j)] [.int (b2i b)] M1 (fun v M' => ∃ r, v = some (.int r) ∧ (r = b2i (fit m) ∧ M' = M1)) := fun {b} h => b10_isFit_31 (by cases b <;> decide) ⟨_, rfl, by rw [h], rfl⟩
  refine b10_isFit_5 (fun h => b10_isFit_26 (t31 (b := true) ?_)) (fun h => ?_)
  · have : fr4 m = true := Classical.byContradiction fun z => h (by rw [Bool.eq_false_iff.mpr z]; rfl)
    unfold fit; rw [this]; rfl
  · have h4 : fr4 m = false := by
      cases q : fr4 m with
      | false => rfl
      | true => rw [q] at h; exact absurd h (by decide)
    have ef : fit m = (decide (pE m = 1) && decide (pFn m = 1)) := by unfold fit; rw [h4, Bool.false_or]
    refine b10_isFit_8 j rfl hj (fun h2 => b10_isFit_30 (t31 (b := false) ?_)) (fun h2 => b10_isFit_18 (fun h3 => b10_isFit_30 (t31 (b := false) ?_)) (fun h3 => b10_isFit_26 (t31 (b := true) ?_)))
    · rw [e0] at h2
      rw [ef, decide_eq_false (fun z : pE m = 1 => h2 (by rw [show m.1 = 1 from z]; rfl))]; rfl
    · rw [e0] at h2; rw [e7] at h3
      have z1 : pE m = 1 := (nI_eq (b := 1) (show m.1 < _ by omega) (by decide)).mp h2
      rw [ef, decide_eq_false (fun z : pFn m = 1 => h3 (by rw [show pVn m = 2 by omega]; rfl)), Bool.and_false]
    · rw [e0] at h2; rw [e7] at h3
      have z1 : pE m = 1 := (nI_eq (b := 1) (show m.1 < _ by omega) (by decide)).mp h2
      have z2 : pVn m = 2 := (nI_eq (b := 2) (by omega) (by decide)).mp h3
      rw [ef, decide_eq_true z1, decide_eq_true (show pFn m = 1 by omega)]; rfl
theorem isParted_ev {j : Nat} {m : PMp} (hj : j < 5) (hm : MV m) (hr : rM M j m) (hl : Ld m M) : EvI (E0 L xs) (d + 2) m10_isParted [.ref 110, .int (nI j)] M (fun r M' => r = b2i (two m) ∧ Fr (tR1 117) M M') := by
  have hE : m.1 ≤ 16 := hm.1.1
  have hN := MV_N hm.1
  refine Ev_of k10_isParted rfl (Nat.le_of_ble_eq_true rfl) (b10_isParted_0 (laysFar_ev (d := d) (w := 0) hj (by decide) hm.1 hr hl.1 hl.2.2.1) (fun M1 h1 => b10_isParted_6 ?_))
  have e0 : 2 * gI M1 112 j = nI (pN m) := by rw [show gI M1 112 j = nI m.1 from (h1.1.1 112 j (tR1_f (by decide))).trans hr.1]; exact pk_mul 2 _
  have hV := pVn_le hm.1
  have hf : ∀ v, v < pVn m → gI M1 117 v = nI (dst m 0 v) := fun v hv => (h1.2 v (by omega)).trans (dsV_conn hm.1 hm.2.1 (pVn_pos hm.1) hv)
  have hvo : ∀ x, x < pN m → gI M1 114 x = nI (pVo m x) := fun x hx => (h1.1.1 114 x (tR1_f (by decide))).trans (hl.2.2.1 x hx)
  have hrem : ∀ a b : Nat, a < 2 ^ 30 → b < 2 ^ 30 → (nI a + nI b) - (nI a + nI b) / 2 * 2 = nI ((a + b) % 2) := fun a b ha hb => by
    rw [nI_add]; exact pk_rem (d := 2) (by omega) (by decide) (by decide)
  suffices hloop : ∀ (q i : Nat), i + q = pN m → (∀ x, x < i → dst m 0 (pVo m x) % 2 ≠ dst m 0 (pVo m (ox x)) % 2) → Wp (E0 L xs) (d + 2) m10_isParted 8 [.ref 110, .int (nI j), .int (nI i)] [] M1 (fun v M' => ∃ r, v = some (.int r) ∧ (r = b2i (two m) ∧ Fr (tR1 117) M M')) by
    exact hloop (pN m) 0 (by omega) (fun k hk => absurd hk (Nat.not_lt_zero _))
  intro q
  induction q with
  | zero =>
    intro i hi h4
    have : i = pN m := by omega
    subst this
    refine b10_isParted_8 j rfl hj (fun _ => b10_isParted_55 ⟨_, rfl, ?_, h1.1⟩) (fun h => absurd (by rw [e0]; exact nI_le (Nat.le_refl _) (by omega)) h)
    rw [show two m = true from alB_iff.mpr (fun k hk => decide_eq_true (h4 k hk))]; rfl
  | succ q ih =>
    intro i hi h4
    have hi' : i < pN m := by omega
    have hox : ox i < pN m := ox_lt hi'
    have l1 := pVo_lt hm.1 hi'
    have l2 := pVo_lt hm.1 hox
    have d1 := dst_lt hm.1 0 (pVo m i)
    have d2 := dst_lt hm.1 0 (pVo m (ox i))
    have f1 := hf _ (pVo_ltV hm.1 hi')
    have f2 := hf _ (pVo_ltV hm.1 hox)
    refine b10_isParted_8 j rfl hj (fun h => absurd ((nI_leI (a := pN m) (b := i) (by omega) (by omega)).mp (by rw [← e0]; exact h)) (by omega)) (fun _ => b10_isParted_17 i rfl (by omega) (pVo m i) (hvo i hi') l1 (ox i) (nI_ox (by omega)) (by omega) (pVo m (ox i)) (hvo _ hox) l2 (fun h => b10_isParted_49 ?_) (fun h => b10_isParted_47 ⟨_, rfl, ?_, h1.1⟩))
    · rw [f1, f2, hrem _ _ d1 d2] at h
      rw [nI_1]
      refine ih (i + 1) (by omega) (fun x hx => ?_)
      by_cases ex : x = i
      · rw [ex]
        intro z
        exact h (by rw [show (dst m 0 (pVo m i) + dst m 0 (pVo m (ox i))) % 2 = 0 by omega]; rfl)
      · exact h4 x (by omega)
    · rw [f1, f2, hrem _ _ d1 d2] at h
      have := (nI_eq (b := 0) (by omega) (by decide)).mp h
      rw [show two m = false from alB_f ⟨i, by omega, decide_eq_false (fun z => z (by omega))⟩]; rfl
theorem bridges_ev {j : Nat} {m : PMp} (hj : j < 5) (hm : PV m) (hr : rM M j m) (hl : Ld m M) : EvI (E0 L xs) (d + 1) m10_bridges [.ref 110, .int (nI j)] M (fun r M' => r = nI (brg m) ∧ M' = M) := by
  have hE : m.1 ≤ 16 := hm.1
  have e0 : 2 * gI M 112 j = nI (2 * m.1) := by rw [show gI M 112 j = _ from hr.1]; exact pk_mul 2 _
  have hfo : ∀ x, x < pN m → gI M 115 x = nI (pFo m x) := hl.2.2.2.1
  refine Ev_of k10_bridges rfl (Nat.le_of_ble_eq_true rfl) (b10_bridges_0 ?_)
  suffices hloop : ∀ (q e : Nat), e + q = m.1 → Wp (E0 L xs) (d + 1) m10_bridges 4 [.ref 110, .int (nI j), .int (nI (cnB (fun e => decide (pFo m (2 * e) = pFo m (2 * e + 1))) e)), .int (nI (2 * e))] [] M (fun v M' => ∃ r, v = some (.int r) ∧ (r = nI (brg m) ∧ M' = M)) by
    exact hloop m.1 0 (by omega)
  intro q
  induction q with
  | zero =>
    intro e he
    have : e = m.1 := by omega
    subst this
    exact b10_bridges_4 j rfl hj (fun _ => b10_bridges_41 ⟨_, rfl, rfl, rfl⟩) (fun h => absurd (by rw [e0]; exact nI_le (Nat.le_refl _) (by omega)) h)
  | succ q ih =>
    intro e he
    have h1 := hfo (2 * e) (show 2 * e < 2 * m.1 by omega)
    have h2 := hfo (2 * e + 1) (show 2 * e + 1 < 2 * m.1 by omega)
    have l1 := pFo_ltF hm (x := 2 * e) (show 2 * e < 2 * m.1 by omega)
    have l2 := pFo_ltF hm (x := 2 * e + 1) (show 2 * e + 1 < 2 * m.1 by omega)
    have l3 := pFn_le hm
    have ecn : cnB (fun e => decide (pFo m (2 * e) = pFo m (2 * e + 1))) (e + 1) = cnB (fun e => decide (pFo m (2 * e) = pFo m (2 * e + 1))) e + (if decide (pFo m (2 * e) = pFo m (2 * e + 1)) = true then 1 else 0) := rfl
    refine b10_bridges_4 j rfl hj (fun h => ?_) (fun _ => b10_bridges_13 (2 * e) rfl (by omega) (2 * e + 1) (nI_1 _) (by omega) (fun h => b10_bridges_34 ?_) (fun h => b10_bridges_30 (b10_bridges_34 ?_)))
    · rw [e0] at h
      exact absurd ((nI_leI (by omega) (by omega)).mp h) (by omega)
    · rw [h1, h2] at h
      have q : ¬ pFo m (2 * e) = pFo m (2 * e + 1) := fun z => h (by rw [z])
      rw [show nI (2 * e) + 2 = nI (2 * (e + 1)) from nI_add _ 2]
      have := ih (e + 1) (by omega)
      rw [ecn, if_neg (by simpa using q), Nat.add_zero] at this
      exact this
    · rw [h1, h2] at h
      have q : pFo m (2 * e) = pFo m (2 * e + 1) := (nI_eq (by omega) (by omega)).mp h
      rw [show nI (2 * e) + 2 = nI (2 * (e + 1)) from nI_add _ 2, nI_1]
      have := ih (e + 1) (by omega)
      rw [ecn, if_pos (decide_eq_true q)] at this
      exact this
/-- the greatest of 32 places is that of those that count -/
theorem mx_deg {g : Nat → Nat} {N V : Nat} (hN : N ≤ 32) (hV : V = if N = 0 then 1 else ctO g N) : mxN (fun c => if c < ctO g N then szO g N c else 0) 32 = mxN (szO g N) V := by
  have hct := ctO_le g N
  have h1 : mxN (fun c => if c < ctO g N then szO g N c else 0) 32 = mxN (fun c => if c < ctO g N then szO g N c else 0) (ctO g N) := by
    have := mx_zero (f := fun c => if c < ctO g N then szO g N c else 0) (n := ctO g N) (k := 32 - ctO g N) (fun i h1 h2 => if_neg (by omega))
    rw [show ctO g N + (32 - ctO g N) = 32 by omega] at this
    exact this
  rw [h1, mx_ext (g := szO g N) (fun i hi => if_pos hi)]
  by_cases q : N = 0
  · rw [if_pos q] at hV
    subst q
    rw [hV]
    rfl
  · rw [if_neg q] at hV; rw [hV]
theorem r_of (hS : RefS M st) (hok : StOK st) {x w : Int32} : EvI (E0 L xs) (d + 3) m10_of [.ref 110, .int x, .int w] M (Rq M st (aOf st x w)) := by
  refine Ev_of k10_of rfl (Nat.le_of_ble_eq_true rfl) (b10_of_0 (fun h => ?_) (fun h => b10_of_13 ⟨_, rfl, ?_⟩))
  rotate_left
  · rw [show aOf st x w = -1 from cIf_neg h _ _]; exact Rq_sc hok hS (tld M)
  obtain ⟨j, hj, rfl, ej⟩ := in_j h (by decide)
  have ea : aOf st (nI j) w = ofV (sM st j) w := by unfold aOf; rw [cIf_pos h, ej]
  rw [ea]
  have hm := hok.2.2 j hj
  have hN := MV_N hm.1
  refine b10_of_15 (rlays (d := d) hS hok hj) (fun M2 h2 => ?_)
  obtain ⟨f2, hr2, hl2⟩ := h2
  generalize hmm : sM st j = m at *
  have fin : ∀ {r : Int32} {M3 : ME}, Fr tSr M M3 → r = ofV m w → ∃ r', some (Value.int r) = some (.int r') ∧ Rq M st (ofV m w) r' M3 := fun {r M3} f h => ⟨_, rfl, by rw [h]; exact Rq_sc hok hS f⟩
  have hj5 : j < 5 := by omega
  have hb : ∀ i, szO (pX m) (pN m) i < 33 ∧ szO (pF m) (pN m) i < 33 := fun i => ⟨by have := szO_le (pX m) (pN m) i; omega, by have := szO_le (pF m) (pN m) i; omega⟩
  have h0N : (pN m = 0 ↔ m.1 = 0) := by show 2 * m.1 = 0 ↔ m.1 = 0; omega
  refine b10_of_20 (fun h => b10_of_68 j rfl hj5 (fin f2 ?_)) (fun h => b10_of_75 (fin f2 ?_)) (fun h => b10_of_80 (fin f2 ?_)) (fun h => b10_of_85 j rfl hj5 (fin f2 ?_)) (fun h => b10_of_92 (rgreatest_ev (o := 0) (f := fun c => if c < ctO (pX m) (pN m) then pVd m c else 0) (Or.inl rfl) (fun i hi => by rw [Nat.zero_add]; exact hl2.2.2.2.2.1 i hi) (fun i _ => by have := (hb i).1; show (if _ then _ else _) < 33; split <;> omega)) (fun r M3 hr => ?_)) (fun h => b10_of_98 (rgreatest_ev (o := 32) (f := fun c => if c < ctO (pF m) (pN m) then pFd m c else 0) (Or.inr rfl) (fun i hi => hl2.2.2.2.2.2 i hi) (fun i _ => by have := (hb i).2; show (if _ then _ else _) < 33; split <;> omega)) (fun r M3 hr => ?_)) (fun h => b10_of_105 (areFours_ev hj5 hm.1 hr2 hl2) (fun r M3 hr => ?_)) (fun h => b10_of_119 (isParted_ev (d := d) hj5 hm hr2 hl2) (fun r M3 hr => ?_)) (fun h => b10_of_133 (fun h3 => b10_of_147 (b10_of_148 (fin f2 ?_))) (fun h3 => b10_of_139 (bridges_ev (d := d + 1) hj5 hm.1 hr2 hl2) (fun r M3 hr => ?_)))
  · subst h; exact hr2.1
  · subst h; exact hl2.1
  · subst h; exact hl2.2.1
  · subst h; exact hr2.2.1
  · obtain ⟨rfl, rfl⟩ := hr
    refine b10_of_97 (fin f2 ?_)
    subst h
    show _ = nI (mxN (pVd m) (pVn m))
    rw [mx_deg (V := pVn m) hN (by
      unfold pVn
      by_cases q : m.1 = 0
      · rw [if_pos q, if_pos (h0N.mpr q)]
      · rw [if_neg q, if_neg (fun z => q (h0N.mp z))])]
  · obtain ⟨rfl, rfl⟩ := hr
    refine b10_of_104 (fin f2 ?_)
    subst h
    show _ = nI (mxN (pFd m) (pFn m))
    rw [mx_deg (V := pFn m) hN (by
      unfold pFn
      by_cases q : m.1 = 0
      · rw [if_pos q, if_pos (h0N.mpr q)]
      · rw [if_neg q, if_neg (fun z => q (h0N.mp z))])]
  · obtain ⟨rfl, rfl⟩ := hr
    subst h
    have e6 : ofV m 6 = b2i (fr4 m) := rfl
    cases q : fr4 m with
    | true => exact b10_of_110 (fun h => absurd h (by decide)) (fun _ => b10_of_113 (b10_of_118 (fin f2 (by rw [e6, q]; rfl))))
    | false => exact b10_of_110 (fun _ => b10_of_117 (b10_of_118 (fin f2 (by rw [e6, q]; rfl)))) (fun h => absurd rfl h)
  · obtain ⟨rfl, h3⟩ := hr
    subst h
    have f3 := Fr_trans f2 (t117_sr h3)
    have e6 : ofV m 7 = b2i (two m) := rfl
    cases q : two m with
    | true => exact b10_of_124 (fun h => absurd h (by decide)) (fun _ => b10_of_127 (b10_of_132 (fin f3 (by rw [e6, q]; rfl))))
    | false => exact b10_of_124 (fun _ => b10_of_131 (b10_of_132 (fin f3 (by rw [e6, q]; rfl)))) (fun h => absurd rfl h)
  · unfold ofV
    rw [if_neg (sw_ne h 0 rfl (by decide) (by decide)), if_neg (sw_ne h 1 rfl (by decide) (by decide)), if_neg (sw_ne h 2 rfl (by decide) (by decide)), if_neg (sw_ne h 3 rfl (by decide) (by decide)), if_neg (sw_ne h 4 rfl (by decide) (by decide)), if_neg (sw_ne h 5 rfl (by decide) (by decide)), if_neg (sw_ne h 6 rfl (by decide) (by decide)), if_neg (sw_ne h 7 rfl (by decide) (by decide)), if_neg h3]
  · obtain ⟨rfl, rfl⟩ := hr
    refine b10_of_144 (b10_of_148 (fin f2 ?_))
    subst h3; rfl
end RFC
