/-! the class's questions -/
section CQ
variable {L : Nat} {xs : Nat → Int32} {d : Nat} {tab : Nat → Nat → Int64} {M : ME} {st : ST}
theorem in_j {x : Int32} {n : Nat} (h : vp_in x n) (hn : n < 2 ^ 31) : ∃ j, j < n ∧ x = nI j ∧ x.toNatClampNeg = j := by
  obtain ⟨j, hj, rfl⟩ := vp_in_of h hn
  exact ⟨j, hj, rfl, nI_clamp (by omega)⟩
theorem cl_map (hS : ClsS tab M st) {x : Int32} (h : vp_in x 4) : ∃ j, j < 4 ∧ x = nI j ∧ x.toNatClampNeg = j ∧ RMs (M.2.2 4 j) ∧ cM M (M.2.2 4 j) (sM st j) ∧ M.2.2 4 j ≠ 0 := by
  obtain ⟨j, hj, e, e2⟩ := in_j h (by decide)
  have h1 := hS.2.2.2.2.1.1.1 j hj
  exact ⟨j, hj, e, e2, h1, hS.2.2.2.2.1.2 j hj, by have := RMs_lt h1; omega⟩
theorem cl_tree (hS : ClsS tab M st) {x : Int32} (h : vp_in x 3) : ∃ j, j < 3 ∧ x = nI j ∧ x.toNatClampNeg = j ∧ M.2.2 3 j = 64 + 6 * j ∧ TRs (64 + 6 * j) ∧ cT M (64 + 6 * j) (sT st j) := by
  obtain ⟨j, hj, e, e2⟩ := in_j h (by decide)
  have h1 := hS.2.2.2.1 j hj
  refine ⟨j, hj, e, e2, h1.1, ?_, h1.2⟩
  have : j = 0 ∨ j = 1 ∨ j = 2 := by omega
  rcases this with rfl | rfl | rfl
  · exact Or.inl rfl
  · exact Or.inr (Or.inl rfl)
  · exact Or.inr (Or.inr rfl)
/-- a question: its answer, and the picture stays -/
def Cq (tab : Nat → Nat → Int64) (M : ME) (st : ST) (r0 : Int32) : Int32 → ME → Prop := fun r M' => r = r0 ∧ ClsS tab M' st ∧ FrC M M'
theorem Cq_same (hS : ClsS tab M st) {r0 : Int32} : Cq tab M st r0 r0 M := ⟨rfl, hS, FrC_refl M⟩
theorem Cq_sc (hS : ClsS tab M st) {r0 : Int32} {M' : ME} (f : Fr tSc M M') : Cq tab M st r0 r0 M' := ⟨rfl, ClsS_sc hS f, tSc_C f⟩
theorem c_end (hS : ClsS tab M st) (hok : StOK st) {x : Int32} : EvI (E0 L xs) d m9_end [.ref 1, .int x] M (fun r M' => (vp_in x (sTl st + 1) ∧ r = 1 ∧ ClsS tab M' ((x.toNatClampNeg, sTb st), st.2) ∧ FrC M M') ∨ (¬ vp_in x (sTl st + 1) ∧ r = 0 ∧ ClsS tab M' st ∧ FrC M M')) := by
  have e1 : gI M 1 1 = nI (sTl st) := hS.1
  have hl : sTl st ≤ 300 := hok.1
  have e2 : (nI (sTl st)).toInt = sTl st := nI_toInt (by omega)
  refine Ev_of k9_end rfl (Nat.le_of_ble_eq_true rfl) (b9_end_0 (fun h => b9_end_12 ⟨_, rfl, Or.inr ⟨fun q => ?_, rfl, hS, FrC_refl M⟩⟩) (fun h => b9_end_4 (fun h2 => b9_end_14 ⟨_, rfl, Or.inl ⟨?_, rfl, ?_, ?_⟩⟩) (fun h2 => b9_end_12 ⟨_, rfl, Or.inr ⟨fun q => ?_, rfl, hS, FrC_refl M⟩⟩)))
  · have := (vp_in_iff.mp q).1
    rw [Int32.lt_iff_toInt_lt] at h
    have h0 : (0 : Int32).toInt = 0 := rfl
    omega
  · rw [e1, Int32.le_iff_toInt_le, e2] at h2
    rw [Int32.lt_iff_toInt_lt] at h
    have h0 : (0 : Int32).toInt = 0 := rfl
    exact vp_in_iff.mpr ⟨by omega, by omega⟩
  · have hin : vp_in x (sTl st + 1) := by
      rw [e1, Int32.le_iff_toInt_le, e2] at h2
      rw [Int32.lt_iff_toInt_lt] at h
      have h0 : (0 : Int32).toInt = 0 := rfl
      exact vp_in_iff.mpr ⟨by omega, by omega⟩
    obtain ⟨j, hj, rfl, ej⟩ := in_j hin (by omega)
    obtain ⟨h1, h3, h4, h5, ⟨g0, g5⟩, h6, h7⟩ := hS
    refine ⟨by rw [sI_eq, ej], fun i hi => ?_, h4, fun s hs => ⟨(h5 s hs).1, cT_eq (h5 s hs).2 (fun k hk _ => up2_ne (by omega))⟩, ⟨g0, fun s hs => ?_⟩, fun l hl h hh => ?_, ?_⟩
    · have hi' : i < (nI j).toNatClampNeg := hi
      rw [ej] at hi'
      exact h3 i (by omega)
    · refine cM_eq (g5 s hs) (fun k hk _ => up2_ne ?_)
      have := g0.1 s hs
      have hk' : M.2.2 4 s ≤ k := hk
      rcases this with q | q | q | q | q <;> rw [q] at hk' <;> omega
    · exact (sI_ne (Or.inl (by omega))).trans (h6 l hl h hh)
    · obtain ⟨c, c1, c2, c3, c4, c5⟩ := h7
      exact ⟨c, c1, c2, c3, c4, c5⟩
  · exact fun k hk => ⟨up2_ne (by omega), rfl⟩
  · rw [e1, Int32.le_iff_toInt_le, e2] at h2
    have := (vp_in_iff.mp q).2
    omega
def fvF (F : Int32 × Int32 × Int32 × Int32 × Int32) (w : Int32) : Int32 := if w = 0 then F.1 else if w = 1 then F.2.1 else if w = 2 then F.2.2.1 else if w = 3 then F.2.2.2.1 else if w = 4 then F.2.2.2.2 else -1
theorem sw_ne {x : Int32} {a b v : Int} (h : x.toInt < a ∨ b < x.toInt) (w : Int32) (hw : w.toInt = v) (h1 : a ≤ v) (h2 : v ≤ b) : ¬ x = w := fun e => by rw [e, hw] at h; omega
theorem c_fault (hS : ClsS tab M st) {x : Int32} : EvI (E0 L xs) d m9_fault [.ref 1, .int x] M (Cq tab M st (fvF (sF st) x)) := by
  obtain ⟨f0, f1, f2, f3, f4⟩ := hS.2.2.1
  refine Ev_of k9_fault rfl (Nat.le_of_ble_eq_true rfl) (b9_fault_0 (fun h => b9_fault_36 ⟨_, rfl, ?_⟩) (fun h => b9_fault_44 ⟨_, rfl, ?_⟩) (fun h => b9_fault_52 ⟨_, rfl, ?_⟩) (fun h => b9_fault_60 ⟨_, rfl, ?_⟩) (fun h => b9_fault_68 ⟨_, rfl, ?_⟩) (fun h => b9_fault_76 ⟨_, rfl, ?_⟩))
  · subst h; exact ⟨f0, hS, FrC_refl M⟩
  · subst h; exact ⟨f1, hS, FrC_refl M⟩
  · subst h; exact ⟨f2, hS, FrC_refl M⟩
  · subst h; exact ⟨f3, hS, FrC_refl M⟩
  · subst h; exact ⟨f4, hS, FrC_refl M⟩
  · refine ⟨?_, hS, FrC_refl M⟩
    unfold fvF
    rw [if_neg (sw_ne h 0 rfl (by decide) (by decide)), if_neg (sw_ne h 1 rfl (by decide) (by decide)), if_neg (sw_ne h 2 rfl (by decide) (by decide)), if_neg (sw_ne h 3 rfl (by decide) (by decide)), if_neg (sw_ne h 4 rfl (by decide) (by decide))]
def lkV (st : ST) (w : Int32) : Int32 := if w = 0 then nI (sTl st) else if w = 1 then nI (tn (sT st 0)) + nI (tn (sT st 1)) + nI (tn (sT st 2)) else if w = 2 then nI (pE (sM st 0)) + nI (pE (sM st 1)) + nI (pE (sM st 2)) + nI (pE (sM st 3)) else -1
theorem c_look (hS : ClsS tab M st) {x : Int32} : EvI (E0 L xs) d m9_look [.ref 1, .int x] M (Cq tab M st (lkV st x)) := by
  have T : ∀ s, s < 3 → gR M 3 s ≠ 0 ∧ isTR (E0 L xs) (gR M 3 s) ∧ gI M (gR M 3 s) 0 = nI (tn (sT st s)) := fun s hs => by
    obtain ⟨h1, h2⟩ := hS.2.2.2.1 s hs
    have e : gR M 3 s = 64 + 6 * s := h1
    have : s = 0 ∨ s = 1 ∨ s = 2 := by omega
    refine ⟨by rw [e]; omega, ?_, by rw [e]; exact h2.1.1⟩
    rw [e]
    rcases this with rfl | rfl | rfl <;> exact ⟨rfl, rfl, rfl, rfl, rfl, rfl⟩
  have Q : ∀ s, s < 4 → gR M 4 s ≠ 0 ∧ isRM (E0 L xs) (gR M 4 s) ∧ gI M (gR M 4 s) 0 = nI (pE (sM st s)) := fun s hs => by
    have h1 := hS.2.2.2.2.1.1.1 s hs
    exact ⟨by have := RMs_lt h1; show M.2.2 4 s ≠ 0; omega, RMs_is h1, (hS.2.2.2.2.1.2 s hs).1⟩
  refine Ev_of k9_look rfl (Nat.le_of_ble_eq_true rfl) (b9_look_0 (fun h => b9_look_28 ⟨_, rfl, ?_⟩) (fun h => b9_look_33 ?_) (fun h => b9_look_60 ?_) (fun h => b9_look_87 ⟨_, rfl, ?_⟩))
  · subst h; exact ⟨hS.1, hS, FrC_refl M⟩
  · refine b9_look_35 (fun h => absurd h (by decide)) (fun _ => b9_look_40 0 rfl (by decide) (T 0 (by decide)).1 (T 0 (by decide)).2.1 (b9_look_35 (fun h => absurd h (by decide)) (fun _ => b9_look_40 1 rfl (by decide) (T 1 (by decide)).1 (T 1 (by decide)).2.1 (b9_look_35 (fun h => absurd h (by decide)) (fun _ => b9_look_40 2 rfl (by decide) (T 2 (by decide)).1 (T 2 (by decide)).2.1 (b9_look_35 (fun _ => b9_look_58 ⟨_, rfl, ?_⟩) (fun h => absurd (by decide) h)))))))
    subst h
    refine ⟨?_, hS, FrC_refl M⟩
    rw [(T 0 (by decide)).2.2, (T 1 (by decide)).2.2, (T 2 (by decide)).2.2, Int32.zero_add]; rfl
  · refine b9_look_62 (fun h => absurd h (by decide)) (fun _ => b9_look_67 0 rfl (by decide) (Q 0 (by decide)).1 (Q 0 (by decide)).2.1 (b9_look_62 (fun h => absurd h (by decide)) (fun _ => b9_look_67 1 rfl (by decide) (Q 1 (by decide)).1 (Q 1 (by decide)).2.1 (b9_look_62 (fun h => absurd h (by decide)) (fun _ => b9_look_67 2 rfl (by decide) (Q 2 (by decide)).1 (Q 2 (by decide)).2.1 (b9_look_62 (fun h => absurd h (by decide)) (fun _ => b9_look_67 3 rfl (by decide) (Q 3 (by decide)).1 (Q 3 (by decide)).2.1 (b9_look_62 (fun _ => b9_look_85 ⟨_, rfl, ?_⟩) (fun h => absurd (by decide) h)))))))))
    subst h
    refine ⟨?_, hS, FrC_refl M⟩
    rw [(Q 0 (by decide)).2.2, (Q 1 (by decide)).2.2, (Q 2 (by decide)).2.2, (Q 3 (by decide)).2.2, Int32.zero_add]; rfl
  · refine ⟨?_, hS, FrC_refl M⟩
    unfold lkV
    rw [if_neg (sw_ne h 0 rfl (by decide) (by decide)), if_neg (sw_ne h 1 rfl (by decide) (by decide)), if_neg (sw_ne h 2 rfl (by decide) (by decide))]
/-- the greatest of a row -/
theorem greatest_ev {E : EN} {b n k : Nat} {f : Nat → Nat} (hb : shp E b = (1, k)) (hk : k < 2 ^ 31) (hn : n ≤ k) (hf : ∀ i, i < n → M.1 b i = nI (f i)) (hf2 : ∀ i, i < n → f i < 2 ^ 30) : EvI E (d + 1) m9_greatest [.ref b, .int (nI n)] M (fun r M' => r = nI (mxN f n) ∧ M' = M) := by
  have hmx : ∀ i, i ≤ n → mxN f i < 2 ^ 30 := by
    intro i
    induction i with
    | zero => intro _; show 0 < 2 ^ 30; decide
    | succ i ih =>
      intro hi
      have h1 := ih (by omega)
      have h2 := hf2 i (by omega)
      show max (mxN f i) (f i) < 2 ^ 30
      omega
  refine Ev_of k9_greatest rfl (Nat.le_of_ble_eq_true rfl) (b9_greatest_0 ?_)
  suffices hloop : ∀ (q i : Nat), i + q = n → Wp E (d + 1) m9_greatest 4 [.ref b, .int (nI n), .int (nI (mxN f i)), .int (nI i)] [] M (fun v M' => ∃ r, v = some (.int r) ∧ (r = nI (mxN f n) ∧ M' = M)) by
    exact hloop n 0 (by omega)
  intro q
  induction q with
  | zero =>
    intro i hi
    have : i = n := by omega
    subst this
    exact b9_greatest_4 (fun _ => b9_greatest_29 ⟨_, rfl, rfl, rfl⟩) (fun h => absurd (nI_le (Nat.le_refl _) (by omega)) h)
  | succ q ih =>
    intro i hi
    have h1 := hmx i (by omega)
    have h2 := hf2 i (by omega)
    refine b9_greatest_4 (fun h => absurd ((nI_leI (by omega) (by omega)).mp h) (by omega)) (fun _ => b9_greatest_9 hb hk (fun h => absurd ((nI_leI (a := k) (by omega) (by omega)).mp h) (by omega)) (fun _ => b9_greatest_15 hb hk i rfl (by omega) (b9_greatest_22 ?_)))
    rw [show gI M b i = _ from hf i (by omega), nI_1]
    have e : (if nI (mxN f i) < nI (f i) then nI (f i) else nI (mxN f i)) = nI (mxN f (i + 1)) := by
      show _ = nI (max (mxN f i) (f i))
      by_cases h : mxN f i < f i
      · rw [if_pos (nI_lt h (by omega)), Nat.max_eq_right (by omega)]
      · rw [if_neg (nI_nlt (by omega) (by omega)), Nat.max_eq_left (by omega)]
    rw [e]
    exact ih (i + 1) (by omega)
theorem szO_le (g : Nat → Nat) (N c : Nat) : szO g N c ≤ N := cnB_le _ _
theorem hasFourSides_ev {a : Nat} {m : PMp} (ha : RMs a) (hm : PV m) (hc : cM M a m) : EvI (E0 L xs) d m4_hasFourSides [.ref a] M (fun r M' => r = b2i (fr4 m) ∧ M' = M) := by
  have T := RMs_is (L := L) (xs := xs) ha
  have hF := pFn_le hm
  have hN : pN m ≤ 32 := by have := hm.1; show 2 * m.1 ≤ 32; omega
  obtain ⟨-, -, -, c3, -, -, -, -, -, c10⟩ := hc
  refine Ev_of k4_hasFourSides rfl (Nat.le_of_ble_eq_true rfl) (b4_hasFourSides_0 ?_)
  suffices hloop : ∀ (q i : Nat), i + q = pFn m → (∀ j, j < i → pFd m j = 4) → Wp (E0 L xs) d m4_hasFourSides 2 [.ref a, .int (nI i)] [] M (fun v M' => ∃ r, v = some (.int r) ∧ (r = b2i (fr4 m) ∧ M' = M)) by
    exact hloop (pFn m) 0 (by omega) (fun j hj => absurd hj (Nat.not_lt_zero _))
  intro q
  induction q with
  | zero =>
    intro i hi h4
    have : i = pFn m := by omega
    subst this
    refine b4_hasFourSides_2 T (fun _ => b4_hasFourSides_28 ⟨_, rfl, ?_, rfl⟩) (fun h => absurd (by rw [show gI M a 3 = _ from c3]; exact nI_le (Nat.le_refl _) (by omega)) h)
    have : fr4 m = true := alB_iff.mpr (fun j hj => decide_eq_true (h4 j hj))
    rw [this]; rfl
  | succ q ih =>
    intro i hi h4
    have e : gI M (a + 6) i = nI (pFd m i) := c10 i (by omega)
    have hsz := szO_le (pF m) (pN m) i
    refine b4_hasFourSides_2 T (fun h => ?_) (fun _ => b4_hasFourSides_10 T i rfl (by omega) (fun h => b4_hasFourSides_22 ?_) (fun h => b4_hasFourSides_20 ⟨_, rfl, ?_, rfl⟩))
    · rw [show gI M a 3 = _ from c3] at h
      exact absurd ((nI_leI (by omega) (by omega)).mp h) (by omega)
    · rw [nI_1]
      refine ih (i + 1) (by omega) (fun j hj => ?_)
      by_cases ej : j = i
      · rw [e] at h
        rw [ej]
        exact (nI_eq (b := 4) (by show szO _ _ _ < _; omega) (by decide)).mp h
      · exact h4 j (by omega)
    · have : fr4 m = false := alB_f ⟨i, by omega, decide_eq_false (fun z => h (by rw [e, z]; rfl))⟩
      rw [this]; rfl
/-- four sides all, or the one edge between two vertices -/
def fit (m : PMp) : Bool := fr4 m || (decide (pE m = 1) && decide (pFn m = 1))
theorem hasFourOr_ev {a : Nat} {m : PMp} (ha : RMs a) (hm : PV m) (hc : cM M a m) : EvI (E0 L xs) (d + 1) m4_hasFourSidesOrOneEdge [.ref a] M (fun r M' => r = b2i (fit m) ∧ M' = M) := by
  have T := RMs_is (L := L) (xs := xs) ha
  have hF := pFn_le hm
  have hE : m.1 ≤ 16 := hm.1
  refine Ev_of k4_hasFourSidesOrOneEdge rfl (Nat.le_of_ble_eq_true rfl) (b4_hasFourSidesOrOneEdge_0 T (hasFourSides_ev ha hm hc) (fun r M1 hr => ?_))
  obtain ⟨rfl, rfl⟩ := hr
  refine b4_hasFourSidesOrOneEdge_4 (fun h => b4_hasFourSidesOrOneEdge_23 (b4_hasFourSidesOrOneEdge_28 (by decide) ⟨_, rfl, ?_, rfl⟩)) (fun h => b4_hasFourSidesOrOneEdge_7 T (fun h2 => b4_hasFourSidesOrOneEdge_27 (b4_hasFourSidesOrOneEdge_28 (by decide) ⟨_, rfl, ?_, rfl⟩)) (fun h2 => b4_hasFourSidesOrOneEdge_15 T (fun h3 => b4_hasFourSidesOrOneEdge_27 (b4_hasFourSidesOrOneEdge_28 (by decide) ⟨_, rfl, ?_, rfl⟩)) (fun h3 => b4_hasFourSidesOrOneEdge_23 (b4_hasFourSidesOrOneEdge_28 (by decide) ⟨_, rfl, ?_, rfl⟩))))
  · have : fr4 m = true := Classical.byContradiction fun z => h (by rw [Bool.eq_false_iff.mpr z]; rfl)
    unfold fit; rw [this]; rfl
  all_goals
    have h4 : fr4 m = false := by
      cases q : fr4 m with
      | false => rfl
      | true => rw [q] at h; exact absurd h (by decide)
    unfold fit
    rw [h4, Bool.false_or]
  · rw [show gI M1 a 0 = _ from hc.1] at h2
    rw [decide_eq_false (fun z => h2 (by rw [z]; rfl))]; rfl
  · rw [show gI M1 a 3 = _ from hc.2.2.2.1] at h3
    rw [decide_eq_false (fun z : pFn m = 1 => h3 (by rw [z]; rfl)), Bool.and_false]; rfl
  · rw [show gI M1 a 0 = _ from hc.1] at h2
    rw [show gI M1 a 3 = _ from hc.2.2.2.1] at h3
    rw [decide_eq_true ((nI_eq (b := 1) (show m.1 < _ by omega) (by decide)).mp h2), decide_eq_true ((nI_eq (b := 1) (by omega) (by decide)).mp h3)]; rfl
end CQ
