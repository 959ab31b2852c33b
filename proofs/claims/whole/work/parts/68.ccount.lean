/-! the class: numbers of maps by edges -/
theorem i_dn {k : Nat} (h : 0 < k) : nI k + (-1) = nI (k - 1) := by
  rw [show nI k + (-1) = nI k - 1 from (Int32.sub_eq_add_neg ..).symm]
  exact pk_sub h
def LRow (n : Nat) (M M' : ME) (g : Nat → Nat) : Prop := M'.1 = M.1 ∧ M'.2.2 = M.2.2 ∧ (∀ k, k ≠ 19 + 1 + n → M'.2.1 k = M.2.1 k) ∧ ∀ c, c < 29 → M'.2.1 (19 + 1 + n) c = M.2.1 (19 + 1 + n) c + lN (g c)
theorem LRow_refl (n : Nat) (M : ME) : LRow n M M (fun _ => 0) := ⟨rfl, rfl, fun _ _ => rfl, fun c _ => by rw [show lN 0 = 0 from rfl, Int64.add_zero]⟩
theorem LRow_g {n : Nat} {M M' : ME} {g g' : Nat → Nat} (h : LRow n M M' g) (e : ∀ c, c < 29 → g c = g' c) : LRow n M M' g' := ⟨h.1, h.2.1, h.2.2.1, fun c hc => by rw [← e c hc]; exact h.2.2.2 c hc⟩
theorem LRow_trans {n : Nat} {M M1 M2 : ME} {g g' : Nat → Nat} (h : LRow n M M1 g) (h2 : LRow n M1 M2 g') : LRow n M M2 (fun c => g c + g' c) := ⟨h2.1.trans h.1, h2.2.1.trans h.2.1, fun k hk => (h2.2.2.1 k hk).trans (h.2.2.1 k hk), fun c hc => by rw [h2.2.2.2 c hc, h.2.2.2 c hc, Int64.add_assoc, lN_add]⟩
theorem LRow_add {n j v : Nat} {M M1 : ME} {g : Nat → Nat} (h : LRow n M M1 g) : LRow n M (sL M1 (19 + 1 + n) j (gL M1 (19 + 1 + n) j + lN v)) (fun c => g c + if j = c then v else 0) := by
  refine ⟨h.1, h.2.1, fun k hk => ?_, fun c hc => ?_⟩
  · show up2 M1.2.1 (19 + 1 + n) j _ k = _
    rw [up2_ne hk]; exact h.2.2.1 k hk
  · show up2 M1.2.1 (19 + 1 + n) j _ (19 + 1 + n) c = _
    rw [up2_eq]
    by_cases q : c = j
    · subst q
      show (if c = c then gL M1 (19 + 1 + n) c + lN v else _) = _
      show _ = _ + lN (g c + if c = c then v else 0)
      rw [if_pos rfl, if_pos rfl, show gL M1 (19 + 1 + n) c = _ from h.2.2.2 c hc, Int64.add_assoc, lN_add]
    · show (if c = j then gL M1 (19 + 1 + n) j + lN v else M1.2.1 (19 + 1 + n) c) = _
      show _ = _ + lN (g c + if j = c then v else 0)
      rw [if_neg q, if_neg (show ¬ j = c from fun e => q e.symm)]
      exact h.2.2.2 c hc
section CCO
variable {L : Nat} {xs : Nat → Int32} {d : Nat} {M : ME}
theorem addPairs_ev {i j n : Nat} (hn : n < 15) (hs : i + j + 1 = n) (Ti : ∀ c, c < 29 → M.2.1 (19 + 1 + i) c = lN (tT i c)) (Tj : ∀ c, c < 29 → M.2.1 (19 + 1 + j) c = lN (tT j c)) : EvV (E0 L xs) d m0_addPairs [.ref 18, .int (nI i), .int (nI j), .ref (19 + 1 + n)] M (fun M' => LRow n M M' (pA i j (2 * i + 1))) := by
  refine Ev_of k0_addPairs rfl (Nat.le_of_ble_eq_true rfl) (b0_addPairs_0 ?_)
  suffices ho : ∀ (q a : Nat) (M1 : ME), a + q = 2 * i + 1 → LRow n M M1 (pA i j a) → Wp (E0 L xs) d m0_addPairs 3 [.ref 18, .int (nI i), .int (nI j), .ref (19 + 1 + n), .int (nI a), .null] [] M1 (fun v' M' => v' = none ∧ LRow n M M' (pA i j (2 * i + 1))) from ho (2 * i + 1) 0 M (by omega) (LRow_refl n M)
  intro q
  induction q with
  | zero =>
    intro a M1 ha hr
    have : a = 2 * i + 1 := by omega
    subst this
    exact b0_addPairs_3 (fun _ => b0_addPairs_65 ⟨rfl, hr⟩) (fun h => absurd (by rw [nI_dbl]; exact nI_lt (by omega) (by omega)) h)
  | succ q ih =>
    intro a M1 ha hr
    refine b0_addPairs_3 (fun h => absurd ((nI_ltI (a := 2 * i) (b := a) (by omega) (by omega)).mp (by rw [← nI_dbl]; exact h)) (by omega)) (fun _ => b0_addPairs_11 ?_)
    suffices hi : ∀ (p b : Nat) (M1 : ME), b + p = 2 * j + 1 → LRow n M M1 (fun c => pA i j a c + pB i j a b c) → Wp (E0 L xs) d m0_addPairs 14 [.ref 18, .int (nI i), .int (nI j), .ref (19 + 1 + n), .int (nI a), .int (nI b)] [] M1 (fun v' M' => v' = none ∧ LRow n M M' (pA i j (2 * i + 1))) from hi (2 * j + 1) 0 M1 (by omega) (LRow_g hr (fun c _ => rfl))
    intro p
    induction p with
    | zero =>
      intro b M2 hb hr2
      have : b = 2 * j + 1 := by omega
      subst this
      refine b0_addPairs_14 (fun _ => b0_addPairs_59 ?_) (fun h => absurd (by rw [nI_dbl]; exact nI_lt (by omega) (by omega)) h)
      rw [nI_1]
      exact ih (a + 1) M2 (by omega) (LRow_g hr2 (fun c _ => rfl))
    | succ p ihp =>
      intro b M2 hb hr2
      refine b0_addPairs_14 (fun h => absurd ((nI_ltI (a := 2 * j) (b := b) (by omega) (by omega)).mp (by rw [← nI_dbl]; exact h)) (by omega)) (fun _ => ?_)
      have e : nI a + nI b + 2 = nI (a + b + 2) := by rw [show (2 : Int32) = nI 2 from rfl, nI_add, nI_add]
      refine b0_addPairs_22 (sh6_row hn) (by decide) (a + b + 2) e (by omega) i rfl (by omega) a rfl (by omega) j rfl (by omega) b rfl (by omega) (a + b + 2) e (by omega) ?_
      rw [show gL M2 (19 + 1 + i) a = lN (tT i a) from (congrFun (hr2.2.2.1 (19 + 1 + i) (by omega)) a).trans (Ti a (by omega)), show gL M2 (19 + 1 + j) b = lN (tT j b) from (congrFun (hr2.2.2.1 (19 + 1 + j) (by omega)) b).trans (Tj b (by omega)), lN_mul, nI_1]
      exact ihp (b + 1) _ (by omega) (LRow_g (LRow_add hr2) (fun c _ => Nat.add_assoc ..))
theorem addLonger_ev {n : Nat} (hn : n < 15) (h0 : n ≠ 0) (Ti : ∀ c, c < 29 → M.2.1 (19 + 1 + (n - 1)) c = lN (tT (n - 1) c)) : EvV (E0 L xs) d m0_addLonger [.ref (19 + 1 + (n - 1)), .ref (19 + 1 + n), .int (nI (2 * n))] M (fun M' => LRow n M M' (fun c => if 1 ≤ c ∧ c ≤ 2 * n then lS n (2 * n + 1 - c) else 0)) := by
  refine Ev_of k0_addLonger rfl (Nat.le_of_ble_eq_true rfl) (b0_addLonger_0 ?_)
  suffices ho : ∀ (q r : Nat) (M1 : ME), r + q = 2 * n → LRow n M M1 (fun c => if q + 1 ≤ c ∧ c ≤ 2 * n then lS n (2 * n + 1 - c) else 0) → Wp (E0 L xs) d m0_addLonger 5 [.ref (19 + 1 + (n - 1)), .ref (19 + 1 + n), .int (nI (2 * n)), .long (lN (lS n r)), .null, .int (nI q)] [] M1 (fun v' M' => v' = none ∧ LRow n M M' (fun c => if 1 ≤ c ∧ c ≤ 2 * n then lS n (2 * n + 1 - c) else 0)) from ho (2 * n) 0 M (by omega) (LRow_g (LRow_refl n M) (fun c _ => (if_neg (by omega)).symm))
  intro q
  induction q with
  | zero =>
    intro r M1 hr h
    exact b0_addLonger_5 (fun _ => b0_addLonger_34 ⟨rfl, h⟩) (fun h => absurd (nI_lt (a := 0) (b := 1) (by omega) (by omega)) h)
  | succ q ih =>
    intro r M1 hr h
    refine b0_addLonger_5 (fun h => absurd ((nI_ltI (a := q + 1) (b := 1) (by omega) (by omega)).mp h) (by omega)) (fun _ => ?_)
    refine b0_addLonger_11 (sh6_row (show n - 1 < 15 by omega)) (by decide) q (nI_m1 q) (by omega) (sh6_row hn) (by decide) (q + 1) rfl (by omega) (q + 1) rfl (by omega) ?_
    rw [show gL M1 (19 + 1 + (n - 1)) q = lN (tT (n - 1) q) from (congrFun (h.2.2.1 (19 + 1 + (n - 1)) (by omega)) q).trans (Ti q (by omega)), lN_add, i_dn (by omega), show lS n r + tT (n - 1) q = lS n (r + 1) by show _ = lS n r + tT (n - 1) (2 * n - 1 - r); rw [show 2 * n - 1 - r = q by omega]]
    refine ih (r + 1) _ (by omega) (LRow_g (LRow_add h) (fun c _ => ?_))
    show (if q + 1 + 1 ≤ c ∧ c ≤ 2 * n then lS n (2 * n + 1 - c) else 0) + (if q + 1 = c then lS n (r + 1) else 0) = if q + 1 ≤ c ∧ c ≤ 2 * n then lS n (2 * n + 1 - c) else 0
    by_cases z : q + 1 = c
    · rw [if_neg (by omega), if_pos z, if_pos (by omega), Nat.zero_add, show 2 * n + 1 - c = r + 1 by omega]
    · rw [if_neg z, Nat.add_zero]
      by_cases z2 : q + 1 + 1 ≤ c ∧ c ≤ 2 * n
      · rw [if_pos z2, if_pos (by omega)]
      · rw [if_neg z2, if_neg (by omega)]
/-- only the rows of numbers and their count changed -/
def FrK (M M' : ME) : Prop := (∀ k j, (k ≠ 18 ∨ j ≠ 1) → M'.1 k j = M.1 k j) ∧ M'.2.2 = M.2.2 ∧ ∀ k, (k < 20 ∨ 34 < k) → M'.2.1 k = M.2.1 k
theorem FrK_refl (M : ME) : FrK M M := ⟨fun _ _ _ => rfl, rfl, fun _ _ => rfl⟩
theorem FrK_trans {M M1 M2 : ME} (h : FrK M M1) (h2 : FrK M1 M2) : FrK M M2 := ⟨fun k j q => (h2.1 k j q).trans (h.1 k j q), h2.2.1.trans h.2.1, fun k q => (h2.2.2 k q).trans (h.2.2 k q)⟩
theorem FrK_row {M M' : ME} {n : Nat} {g : Nat → Nat} (hn : n < 15) (h : LRow n M M' g) : FrK M M' := ⟨fun k j _ => by rw [h.1], h.2.1, fun k q => h.2.2.1 k (by omega)⟩
def CtK (M : ME) (k : Nat) : Prop := 1 ≤ k ∧ k ≤ 15 ∧ M.1 18 1 = nI k ∧ (∀ n, n < k → ∀ c, c < 29 → M.2.1 (19 + 1 + n) c = tabV n c) ∧ ∀ n, k ≤ n → n < 15 → ∀ c, c < 29 → M.2.1 (19 + 1 + n) c = 0
theorem makeRowsTo_ev {n : Nat} (hn : n < 15) : ∀ k, CtK M k → EvV (E0 L xs) (d + 1) m0_makeRowsTo [.ref 18, .int (nI n)] M (fun M' => FrK M M' ∧ ∃ k, n < k ∧ CtK M' k) := by
  intro k0 hk0
  refine Ev_of k0_makeRowsTo rfl (Nat.le_of_ble_eq_true rfl) ?_
  suffices ho : ∀ (q k : Nat) (M1 : ME), k + q = 15 → FrK M M1 → CtK M1 k → Wp (E0 L xs) (d + 1) m0_makeRowsTo 0 [.ref 18, .int (nI n), .null] [] M1 (fun v' M' => v' = none ∧ FrK M M' ∧ ∃ k, n < k ∧ CtK M' k) from ho (15 - k0) k0 M (by have := hk0.2.1; omega) (FrK_refl M) hk0
  intro q
  induction q with
  | zero =>
    intro k M1 hq f h
    have e1 : gI M1 18 1 = nI k := h.2.2.1
    refine b0_makeRowsTo_0 (fun _ => b0_makeRowsTo_97 ⟨rfl, f, k, by omega, h⟩) (fun h => absurd (by rw [e1]; exact nI_lt (by omega) (by omega)) h)
  | succ q ih =>
    intro k M1 hq f h
    obtain ⟨g0, g1, g2, g3, g4⟩ := h
    have e1 : gI M1 18 1 = nI k := g2
    refine b0_makeRowsTo_0 (fun h => b0_makeRowsTo_97 ⟨rfl, f, k, (nI_ltI (a := n) (b := k) (by omega) (by omega)).mp (by rw [← e1]; exact h), g0, g1, g2, g3, g4⟩) (fun _ => b0_makeRowsTo_8 (fun h => absurd ((nI_ltI (a := 14) (b := k) (by omega) (by omega)).mp (by rw [← e1]; exact h)) (by omega)) (fun _ => b0_makeRowsTo_17 ?_))
    suffices hi : ∀ (p i : Nat) (M2 : ME), i + p = k → LRow k M1 M2 (pI k i) → Wp (E0 L xs) (d + 1) m0_makeRowsTo 19 [.ref 18, .int (nI n), .int (nI i)] [] M2 (fun v' M' => v' = none ∧ FrK M M' ∧ ∃ k, n < k ∧ CtK M' k) from hi k 0 M1 (by omega) (LRow_g (LRow_refl k M1) (fun c _ => rfl))
    intro p
    induction p with
    | zero =>
      intro i M2 hi hr
      have : i = k := by omega
      subst this
      have e2 : gI M2 18 1 = nI i := by show M2.1 18 1 = _; rw [hr.1]; exact g2
      refine b0_makeRowsTo_19 (fun _ => ?_) (fun h => absurd (by rw [e2]; exact nI_le (Nat.le_refl _) (by omega)) h)
      refine b0_makeRowsTo_55 (R' := fun M' => LRow i M2 M' (fun c => if 1 ≤ c ∧ c ≤ 2 * i then lS i (2 * i + 1 - c) else 0)) (i - 1) (by rw [e2]; exact pk_sub g0) (by omega) i e2 (by omega) ?_ (fun M3 h3 => b0_makeRowsTo_84 ?_)
      · rw [e2, nI_dbl]
        exact addLonger_ev (by omega) (by omega) (fun c hc => (congrFun (hr.2.2.1 (19 + 1 + (i - 1)) (by omega)) c).trans (g3 (i - 1) (by omega) c hc))
      · have h4 := LRow_trans hr h3
        have e3 : gI M3 18 1 = nI i := by show M3.1 18 1 = _; rw [h3.1]; exact e2
        rw [e3, nI_1]
        refine ih (i + 1) _ (by omega) ?_ ⟨by omega, by omega, sI_eq _ _ _ _, fun m hm c hc => ?_, fun m hm hm2 c hc => ?_⟩
        · have f3 := FrK_trans f (FrK_row (by omega) h4)
          exact ⟨fun k j hkj => (sI_ne (by omega)).trans (f3.1 k j hkj), f3.2.1, f3.2.2⟩
        · show M3.2.1 (19 + 1 + m) c = _
          by_cases qm : m = i
          · subst qm
            rw [h4.2.2.2 c hc, g4 m (Nat.le_refl _) (by omega) c hc, Int64.zero_add]
            exact congrArg lN (tT_c (by omega) (by omega) hc)
          · rw [h4.2.2.1 _ (by omega)]; exact g3 m (by omega) c hc
        · show M3.2.1 (19 + 1 + m) c = _
          rw [h4.2.2.1 _ (by omega)]; exact g4 m (by omega) hm2 c hc
    | succ p ihp =>
      intro i M2 hi hr
      have e2 : gI M2 18 1 = nI k := by show M2.1 18 1 = _; rw [hr.1]; exact g2
      refine b0_makeRowsTo_19 (fun h => absurd ((nI_leI (a := k) (b := i) (by omega) (by omega)).mp (by rw [← e2]; exact h)) (by omega)) (fun _ => ?_)
      have ti : ∀ x, x < k → ∀ c, c < 29 → M2.2.1 (19 + 1 + x) c = lN (tT x c) := fun x hx c hc => (congrFun (hr.2.2.1 (19 + 1 + x) (by omega)) c).trans (g3 x hx c hc)
      refine b0_makeRowsTo_27 (R' := fun M' => LRow k M2 M' (pA i (k - 1 - i) (2 * i + 1))) k e2 (by omega) ?_ (fun M3 h3 => b0_makeRowsTo_49 ?_)
      · rw [e2, show nI k - 1 = nI (k - 1) from pk_sub g0, i_sub (by omega)]
        exact addPairs_ev (by omega) (by omega) (ti i (by omega)) (ti (k - 1 - i) (by omega))
      · rw [nI_1]
        exact ihp (i + 1) M3 (by omega) (LRow_g (LRow_trans hr h3) (fun c _ => rfl))
noncomputable def aCount (x y : Int32) : Int64 := cIf (vp_in x 15 ∧ ¬ y < -1 ∧ y ≤ 28) (if y = -1 then lN (smN (tT x.toNatClampNeg) 29) else tabV x.toNatClampNeg y.toNatClampNeg) (-1)
theorem ofOne_ev {n c k : Nat} (hn : n < 15) (hc : c < 29) (hk : CtK M k) : EvL (E0 L xs) (d + 2) m0_ofOne [.ref 18, .int (nI n), .int (nI c)] M (fun r M' => r = tabV n c ∧ FrK M M' ∧ ∃ k, CtK M' k) := by
  refine Ev_of k0_ofOne rfl (Nat.le_of_ble_eq_true rfl) (b0_ofOne_0 (makeRowsTo_ev (d := d) hn k hk) (fun M1 h => b0_ofOne_5 n rfl hn c rfl hc ⟨_, rfl, ?_⟩))
  obtain ⟨f, k1, h1, h2⟩ := h
  exact ⟨h2.2.2.2.1 n h1 c hc, f, k1, h2⟩
theorem ofAll_ev {n k : Nat} (hn : n < 15) (hk : CtK M k) : EvL (E0 L xs) (d + 2) m0_ofAll [.ref 18, .int (nI n)] M (fun r M' => r = lN (smN (tT n) 29) ∧ FrK M M' ∧ ∃ k, CtK M' k) := by
  refine Ev_of k0_ofAll rfl (Nat.le_of_ble_eq_true rfl) (b0_ofAll_0 (makeRowsTo_ev (d := d) hn k hk) (fun M1 h => b0_ofAll_5 ?_))
  obtain ⟨f, k1, h1, h2⟩ := h
  suffices ho : ∀ (q c : Nat), c + q = 2 * n + 1 → Wp (E0 L xs) (d + 2) m0_ofAll 10 [.ref 18, .int (nI n), .long (lN (smN (tT n) c)), .null, .int (nI c)] [] M1 (fun v' M' => ∃ r, v' = some (.long r) ∧ (r = lN (smN (tT n) 29) ∧ FrK M M' ∧ ∃ k, CtK M' k)) from ho (2 * n + 1) 0 (by omega)
  intro q
  induction q with
  | zero =>
    intro c hc
    have : c = 2 * n + 1 := by omega
    subst this
    exact b0_ofAll_10 (fun _ => b0_ofAll_36 ⟨_, rfl, by rw [tT_all n hn], f, k1, h2⟩) (fun h => absurd (by rw [nI_dbl]; exact nI_lt (by omega) (by omega)) h)
  | succ q ih =>
    intro c hc
    refine b0_ofAll_10 (fun h => absurd ((nI_ltI (a := 2 * n) (b := c) (by omega) (by omega)).mp (by rw [← nI_dbl]; exact h)) (by omega)) (fun _ => b0_ofAll_18 n rfl hn c rfl (by omega) ?_)
    rw [show gL M1 (19 + 1 + n) c = lN (tT n c) from h2.2.2.2.1 n h1 c (by omega), lN_add, nI_1]
    exact ih (c + 1) (by omega)
theorem ClsS_k {M' : ME} {st : ST} {k : Nat} (h : ClsS tabV M st) (f : FrK M M') (hk : CtK M' k) : ClsS tabV M' st := by
  have e : ∀ k, k ≠ 18 → M'.1 k = M.1 k := fun k hk => funext fun j => f.1 k j (Or.inl hk)
  obtain ⟨h1, h2, h3, h4, ⟨⟨g1, g2, g3, g4⟩, g5⟩, h6, -⟩ := h
  have ge : ∀ k, RMs k → ∀ x, k ≤ x → x ≤ k + 6 → x ≠ 18 := fun k hk x h1 h2 => by rcases hk with rfl | rfl | rfl | rfl | rfl <;> omega
  refine ⟨by rw [e 1 (by decide)]; exact h1, by rw [e 2 (by decide)]; exact h2, by rw [e 12 (by decide)]; exact h3, fun s hs => ⟨by rw [f.2.1]; exact (h4 s hs).1, cT_eq (h4 s hs).2 (fun k _ hk => e k (by omega))⟩, ⟨⟨?_, ?_, ?_, ?_⟩, fun s hs => ?_⟩, fun l hl => by rw [e (36 + 1 + l) (by omega)]; exact h6 l hl, k, hk⟩
  · rw [f.2.1]; exact g1
  · rw [f.2.1]; exact g2
  · rw [f.2.1]; exact g3
  · rw [f.2.1]; exact g4
  · rw [f.2.1]
    exact cM_eq (g5 s hs) (fun k h1 h2 => e k (ge _ (g1 s hs) k h1 h2))
theorem c_count {st : ST} (hS : ClsS tabV M st) {x y : Int32} : EvL (E0 L xs) (d + 3) m9_count [.ref 1, .int x, .int y] M (Cl tabV M st (aCount x y)) := by
  have no : ¬ (vp_in x 15 ∧ ¬ y < -1 ∧ y ≤ 28) → Wp (E0 L xs) (d + 3) m9_count 21 [.ref 1, .int x, .int y] [] M (fun v' M' => ∃ r, v' = some (.long r) ∧ Cl tabV M st (aCount x y) r M') := fun h => b9_count_21 ⟨_, rfl, by rw [show aCount x y = -1 from cIf_neg h _ _], hS, FrC_refl M⟩
  have fin : ∀ {r r0 : Int64} {M1 : ME}, (r = r0 ∧ FrK M M1 ∧ ∃ k, CtK M1 k) → Cl tabV M st r0 r M1 := fun {r r0 M1} h => ⟨h.1, ClsS_k hS h.2.1 h.2.2.choose_spec, fun k hk => ⟨funext fun j => h.2.1.1 k j (Or.inl (by omega)), h.2.1.2.2 k (Or.inr (by omega))⟩⟩
  have hk := hS.2.2.2.2.2.2
  refine Ev_of k9_count rfl (Nat.le_of_ble_eq_true rfl) (b9_count_0 (fun h => no (fun q => (in_lt (by decide) q.1).1 h)) (fun h1 => b9_count_4 (fun h => no (fun q => ?_)) (fun h2 => b9_count_10 (fun h => no (fun q => q.2.1 h)) (fun h3 => b9_count_15 (fun h4 => ?_) (fun h => no (fun q => h q.2.2))))))
  · have := (in_lt (by decide) q.1).2
    rw [Int32.lt_iff_toInt_lt] at this h
    have e1 : (nI 15).toInt = 15 := rfl
    have e2 : (14 : Int32).toInt = 14 := rfl
    omega
  · have hx : vp_in x 15 := by
      rw [Int32.lt_iff_toInt_lt] at h1 h2
      have e1 : (0 : Int32).toInt = 0 := rfl
      have e2 : (14 : Int32).toInt = 14 := rfl
      exact vp_in_iff.mpr ⟨by omega, by omega⟩
    rw [show aCount x y = _ from cIf_pos ⟨hx, h3, h4⟩ _ _]
    obtain ⟨n, hn, rfl, en⟩ := in_j hx (by decide)
    rw [en]
    obtain ⟨k, hk⟩ := hk
    refine b9_count_25 (fun h => ?_) (fun h => ?_)
    · rw [if_neg h]
      have hy : vp_in y 29 := by
        rw [Int32.lt_iff_toInt_lt] at h3
        rw [Int32.le_iff_toInt_le] at h4
        have e1 : (-1 : Int32).toInt = -1 := rfl
        have e2 : (28 : Int32).toInt = 28 := rfl
        have e3 : y.toInt ≠ -1 := fun e => h (Int32.toInt_inj.mp e)
        exact vp_in_iff.mpr ⟨by omega, by omega⟩
      obtain ⟨c, hc, rfl, ec⟩ := in_j hy (by decide)
      rw [ec]
      exact b9_count_41 (ofOne_ev (d := d) hn hc hk) (fun r M1 hr => b9_count_50 ⟨_, rfl, fin hr⟩)
    · rw [if_pos h]
      exact b9_count_30 (ofAll_ev (d := d) hn hk) (fun r M1 hr => b9_count_38 (b9_count_50 ⟨_, rfl, fin hr⟩))
end CCO
