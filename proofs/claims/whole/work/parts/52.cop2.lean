/-! the class: halved and doubled -/
section COP2
variable {L : Nat} {xs : Nat → Int32} {d : Nat} {tab : Nat → Nat → Int64} {M : ME} {st : ST}
theorem nI_dbl (k : Nat) : 2 * nI k = nI (2 * k) := pk_mul 2 _
theorem c_redouble (hS : ClsS tab M st) (hok : StOK st) {x y : Int32} : EvI (E0 L xs) (d + 4) m9_redouble [.ref 1, .int x, .int y] M (Co tab M (oRedouble st x y)) := by
  have same : Co tab M (-1, st) (-1) M := ⟨rfl, hS, FrC_refl M⟩
  have no : ¬ (vp_in x 4 ∧ vp_in y 4 ∧ pE (sM st x.toNatClampNeg) ≤ 8) → Wp (E0 L xs) (d + 4) m9_redouble 28 [.ref 1, .int x, .int y, .null, .null] [] M (fun v' M' => ∃ r, v' = some (.int r) ∧ Co tab M (oRedouble st x y) r M') := fun h => b9_redouble_28 ⟨_, rfl, by rw [show oRedouble st x y = (-1, st) from cIf_neg h _ _]; exact same⟩
  refine Ev_of k9_redouble rfl (Nat.le_of_ble_eq_true rfl) (b9_redouble_0 (fun h => no (fun q => h q.1)) (fun h1 => b9_redouble_7 (fun h => no (fun q => h q.2.1)) (fun h2 => ?_)))
  obtain ⟨j, hj, rfl, ej, hR, hc, hn0⟩ := cl_map hS h1
  obtain ⟨i, hi, rfl, ei⟩ := in_j h2 (by decide)
  have hm := hok.2.2 j hj
  have hE16 : (sM st j).1 ≤ 16 := hm.1.1
  have hN := MV_N hm.1
  have T := RMs_is (L := L) (xs := xs) hR
  obtain ⟨d1, d2, d3⟩ := cl_dr hS
  have TD := RMs_is (L := L) (xs := xs) d1
  have e0 : gI M (gR M 4 j) 0 = nI (pE (sM st j)) := hc.1
  have hap := RMs_apart hR d1 (d2 j hj)
  refine b9_redouble_14 j rfl hj hn0 T (fun h3 => ?_) (fun h => no (fun q => h ?_))
  rotate_left
  · rw [e0]
    rw [ej] at q
    exact nI_le (b := 8) q.2.2 (by decide)
  rw [e0] at h3
  have h8 : pE (sM st j) ≤ 8 := (nI_leI (b := 8) (show (sM st j).1 < _ by omega) (by decide)).mp h3
  rw [show oRedouble st (nI j) (nI i) = keep st i (dbl (sM st j)) by
    unfold oRedouble
    rw [ej, ei]
    exact cIf_pos ⟨h1, h2, h8⟩ _ _]
  have fin : ∀ (M1 : ME), Fr (tCl (M.2.2 1 4)) M M1 → cM0 M1 (M.2.2 1 4) (dbl (sM st j)) → EvI (E0 L xs) (d + 3) m9_finishDraft [.ref 1, .int (nI i)] M1 (Co tab M (keep st i (dbl (sM st j)))) := by
    intro M1 f h0
    have hS1 := ClsS_cl d1 d2 hS f
    refine EvI_post (finishDraft_ev (d := d) hS1 hi (dbl_PV hm.1 h8) (by rw [show M1.2.2 1 4 = M.2.2 1 4 by rw [f.2]]; exact h0)) (fun r M2 hr => ?_)
    exact ⟨hr.1, hr.2.1, FrC_trans (tCl_C d1 f) hr.2.2⟩
  refine b9_redouble_30 j rfl hj hn0 T (fun h4 => ?_) (fun h4 => ?_)
  · rw [e0] at h4
    have hE0 : ¬ pE (sM st j) = 0 := fun z => h4 (by rw [z]; rfl)
    have ed : dbl (sM st j) = (2 * pE (sM st j), 2 * pX (sM st j) (pR (sM st j)), fun y => if y % 2 = 0 then 2 * pX (sM st j) (y / 2) else 2 * ivF (pF (sM st j)) (pN (sM st j)) (y / 2) + 1) := if_neg hE0
    have hr : pR (sM st j) < pN (sM st j) := by
      rcases rt_lt hm.1 with q | q
      · exact q
      · exact absurd q.1 hE0
    have hXr := hm.1.2.1.1 _ hr
    have hF := pF_perm hm.1.2.1
    have eN : pN (sM st j) = 2 * pE (sM st j) := rfl
    have f1 : Fr (tRM (M.2.2 1 4)) M (sI M (M.2.2 1 4) 0 (2 * gI M (gR M 4 j) 0)) := Fr_sI (Fr_refl _ _) (tRM_t (by omega) (by omega))
    have hc1 : cM (sI M (M.2.2 1 4) 0 (2 * gI M (gR M 4 j) 0)) (gR M 4 j) (sM st j) := cM_fr hc f1 (fun k j' q1 q2 => tRM_f (by have q1' : M.2.2 4 j ≤ k := q1; have q2' : k ≤ M.2.2 4 j + 6 := q2; omega))
    refine b9_redouble_57 d3 T TD d3 (pR (sM st j)) hc1.2.1 (by omega) ?_
    rw [show gR M 1 4 = M.2.2 1 4 from rfl, show gI (sI M (M.2.2 1 4) 0 (2 * gI M (gR M 4 j) 0)) (gR M 4 j + 1) (pR (sM st j)) = nI (pX (sM st j) (pR (sM st j))) from hc1.2.2.2.2.1 _ hr]
    have key : ∀ (q k : Nat) (M1 : ME), k + q = pN (sM st j) → Fr (tRM (M.2.2 1 4)) M M1 → M1.1 (M.2.2 1 4) 0 = nI (2 * pE (sM st j)) → M1.1 (M.2.2 1 4) 1 = nI (2 * pX (sM st j) (pR (sM st j))) → (∀ z, z < k → M1.1 (M.2.2 1 4 + 1) (2 * z) = nI (2 * pX (sM st j) z) ∧ M1.1 (M.2.2 1 4 + 1) (2 * pF (sM st j) z + 1) = nI (2 * z + 1)) → Wp (E0 L xs) (d + 4) m9_redouble 89 [.ref 1, .int (nI j), .int (nI i), .ref (gR M 4 j), .int (nI k)] [] M1 (fun v' M' => ∃ r, v' = some (.int r) ∧ Co tab M (keep st i (dbl (sM st j))) r M') := by
      intro q
      induction q with
      | zero =>
        intro k M1 hk f g0 g1 g2
        have hc1 : cM M1 (gR M 4 j) (sM st j) := cM_fr hc f (fun k j' q1 q2 => tRM_f (by have q1' : M.2.2 4 j ≤ k := q1; have q2' : k ≤ M.2.2 4 j + 6 := q2; omega))
        have e0 : 2 * gI M1 (gR M 4 j) 0 = nI (pN (sM st j)) := by rw [show gI M1 (gR M 4 j) 0 = _ from hc1.1]; exact pk_mul 2 _
        have : k = pN (sM st j) := by omega
        subst this
        refine b9_redouble_89 T (fun _ => b9_redouble_150 (fin M1 (tCl_rm f) ?_) (fun r M2 hr => b9_redouble_155 ⟨_, rfl, hr⟩)) (fun h => absurd (by rw [e0]; exact nI_le (Nat.le_refl _) (by omega)) h)
        rw [ed]
        refine ⟨g0, g1, fun y hy => ?_⟩
        have hy' : y < 2 * (2 * pE (sM st j)) := hy
        show _ = nI (if y % 2 = 0 then 2 * pX (sM st j) (y / 2) else 2 * ivF (pF (sM st j)) (pN (sM st j)) (y / 2) + 1)
        by_cases qy : y % 2 = 0
        · rw [if_pos qy]
          exact (congrArg (M1.1 (M.2.2 1 4 + 1)) (show y = 2 * (y / 2) by omega)).trans (g2 (y / 2) (by omega)).1
        · rw [if_neg qy]
          have hlt := (iv_perm hF).1 (y / 2) (by omega)
          have := (g2 _ hlt).2
          rw [iv_r hF (by omega)] at this
          exact (congrArg (M1.1 (M.2.2 1 4 + 1)) (show y = 2 * (y / 2) + 1 by omega)).trans this
      | succ q ih =>
        intro k M1 hk f g0 g1 g2
        have hc1 : cM M1 (gR M 4 j) (sM st j) := cM_fr hc f (fun k j' q1 q2 => tRM_f (by have q1' : M.2.2 4 j ≤ k := q1; have q2' : k ≤ M.2.2 4 j + 6 := q2; omega))
        have e0 : 2 * gI M1 (gR M 4 j) 0 = nI (pN (sM st j)) := by rw [show gI M1 (gR M 4 j) 0 = _ from hc1.1]; exact pk_mul 2 _
        have edr : gR M1 1 4 = M.2.2 1 4 := by show M1.2.2 1 4 = _; rw [f.2]
        have hk' : k < pN (sM st j) := by omega
        have hXk := hm.1.2.1.1 _ hk'
        have hFk := hF.1 _ hk'
        have q1 : gI M1 (gR M 4 j + 1) k = nI (pX (sM st j) k) := hc1.2.2.2.2.1 _ hk'
        have f2 : Fr (tRM (M.2.2 1 4)) M (sI M1 (M.2.2 1 4 + 1) (2 * k) (2 * gI M1 (gR M 4 j + 1) k)) := Fr_sI f (tRM_t (by omega) (by omega))
        have hc2 : cM (sI M1 (M.2.2 1 4 + 1) (2 * k) (2 * gI M1 (gR M 4 j + 1) k)) (gR M 4 j) (sM st j) := cM_fr hc f2 (fun k j' q1 q2 => tRM_f (by have q1' : M.2.2 4 j ≤ k := q1; have q2' : k ≤ M.2.2 4 j + 6 := q2; omega))
        have q2 : gI (sI M1 (M.2.2 1 4 + 1) (2 * k) (2 * gI M1 (gR M 4 j + 1) k)) (gR M 4 j + 2) k = nI (pF (sM st j) k) := hc2.2.2.2.2.2.1 _ hk'
        refine b9_redouble_89 T (fun h => absurd ((nI_leI (a := pN (sM st j)) (b := k) (by omega) (by omega)).mp (by rw [← e0]; exact h)) (by omega)) (fun _ => b9_redouble_98 (by rw [edr]; exact d3) (by rw [edr]; exact TD) T k rfl (by omega) (2 * k) (nI_dbl k) (by omega) (by show M1.2.2 1 4 ≠ 0; rw [show M1.2.2 1 4 = M.2.2 1 4 from edr]; exact d3) k rfl (by omega) (2 * pF (sM st j) k + 1) (by rw [edr, q2, nI_dbl, nI_1]) (by omega) ?_)
        rw [edr, q1, nI_dbl, nI_dbl, nI_1, nI_1]
        refine ih (k + 1) _ (by omega) (Fr_sI (Fr_sI f (tRM_t (by omega) (by omega))) (tRM_t (by omega) (by omega))) ((sI_ne (Or.inl (by omega))).trans ((sI_ne (Or.inl (by omega))).trans g0)) ((sI_ne (Or.inl (by omega))).trans ((sI_ne (Or.inl (by omega))).trans g1)) (fun z hz => ?_)
        by_cases ez : z = k
        · subst ez
          exact ⟨by rw [sI_ne (Or.inr (by omega)), sI_eq], by rw [sI_eq]⟩
        · have hne : 2 * pF (sM st j) z + 1 ≠ 2 * pF (sM st j) k + 1 := fun z' => ez (hF.2 z k (by omega) hk' (by omega))
          exact ⟨by rw [sI_ne (Or.inr (by omega)), sI_ne (Or.inr (by omega))]; exact (g2 z (by omega)).1, by rw [sI_ne (Or.inr hne), sI_ne (Or.inr (by omega))]; exact (g2 z (by omega)).2⟩
    refine key (pN (sM st j)) 0 _ (by omega) (Fr_sI f1 (tRM_t (by omega) (by omega))) ?_ ?_ (fun x hx => absurd hx (Nat.not_lt_zero _))
    · rw [sI_ne (Or.inr (by decide)), sI_eq, e0, nI_dbl]
    · rw [sI_eq, nI_dbl]
  · rw [e0] at h4
    have hE0 : pE (sM st j) = 0 := (nI_eq (b := 0) (show (sM st j).1 < _ by omega) (by decide)).mp h4
    refine b9_redouble_44 d3 TD 0 rfl (by decide) 1 rfl (by decide) (fin _ (tCl_rm (Fr_sI (Fr_sI (Fr_sI (Fr_sI (Fr_refl _ _) (tRM_t (Nat.le_refl _) (Nat.le_add_right _ _))) (tRM_t (Nat.le_refl _) (Nat.le_add_right _ _))) (tRM_t (by show M.2.2 1 4 ≤ M.2.2 1 4 + 1; omega) (by show M.2.2 1 4 + 1 ≤ M.2.2 1 4 + 6; omega))) (tRM_t (by show M.2.2 1 4 ≤ M.2.2 1 4 + 1; omega) (by show M.2.2 1 4 + 1 ≤ M.2.2 1 4 + 6; omega)))) ?_) (fun r M2 hr => b9_redouble_56 ⟨_, rfl, hr⟩)
    have ed : dbl (sM st j) = (1, 0, id) := if_pos hE0
    rw [ed, show gR M 1 4 = M.2.2 1 4 from rfl]
    refine ⟨?_, ?_, fun y hy => ?_⟩
    · rw [sI_ne (Or.inl (by omega)), sI_ne (Or.inl (by omega)), sI_ne (Or.inr (by decide)), sI_eq]; rfl
    · rw [sI_ne (Or.inl (by omega)), sI_ne (Or.inl (by omega)), sI_eq]; rfl
    · have : y = 0 ∨ y = 1 := by have : y < 2 := hy; omega
      rcases this with rfl | rfl
      · rw [sI_ne (Or.inr (by decide)), sI_eq]; rfl
      · rw [sI_eq]; rfl
/-- the even darts' names, as far as the faces below f, and of f the darts below x, are gone through -/
def hmI (m : PMp) (w f x : Nat) (M : ME) : Prop := ∀ z, z < pN m → evB m w z = true → (pFo m z < f ∨ (pFo m z = f ∧ z < x)) → M.1 63 z = nI (hn m w z)
theorem nameHalvedDarts_ev {a w : Nat} {m : PMp} (ha : RMs a) (hm : PV m) (hc : cM M a m) (hd : dRow M m w) : EvV (E0 L xs) (d + 1) m9_nameHalvedDarts [.ref 1, .ref a] M (fun M' => Fr (tR1 63) M M' ∧ ∀ z, z < pN m → evB m w z = true → M'.1 63 z = nI (hn m w z)) := by
  have T := RMs_is (L := L) (xs := xs) ha
  have hN := MV_N hm
  have hF := pFn_le hm
  have ha63 : ∀ k, a ≤ k → k ≤ a + 6 → k ≠ 63 := fun k h1 h2 => by have := RMs_sc ha h1 h2; omega
  refine Ev_of k9_nameHalvedDarts rfl (Nat.le_of_ble_eq_true rfl) (b9_nameHalvedDarts_0 (fill_ev (n := 32) rfl (by decide)) (fun M0 h0 => b9_nameHalvedDarts_8 ?_))
  have CM : ∀ M1, Fr (tR1 63) M M1 → cM M1 a m := fun M1 f => cM_fr hc f (fun k j q1 q2 => tR1_f (ha63 k q1 q2))
  have DR : ∀ M1, Fr (tR1 63) M M1 → dRow M1 m w := fun M1 f v hv => (f.1 55 v (tR1_f (by decide))).trans (hd v hv)
  -- faces
  suffices hout : ∀ (q f : Nat) (M1 : ME), f + q = pFn m → Fr (tR1 63) M M1 → hmI m w f 0 M1 → Wp (E0 L xs) (d + 1) m9_nameHalvedDarts 10 [.ref 1, .ref a, .int (nI f), .null, .null] [] M1 (fun v M' => v = none ∧ (Fr (tR1 63) M M' ∧ ∀ z, z < pN m → evB m w z = true → M'.1 63 z = nI (hn m w z))) by
    exact hout (pFn m) 0 M0 (by omega) h0.1 (fun z _ _ h => by omega)
  intro q
  induction q with
  | zero =>
    intro f M1 hf fr hI
    have e3 : gI M1 a 3 = nI (pFn m) := (CM M1 fr).2.2.2.1
    have : f = pFn m := by omega
    subst this
    refine b9_nameHalvedDarts_10 T (fun _ => b9_nameHalvedDarts_81 ⟨rfl, fr, fun z hz he => hI z hz he (Or.inl (pFo_ltF hm hz))⟩) (fun h => absurd (by rw [e3]; exact nI_le (Nat.le_refl _) (by omega)) h)
  | succ q ih =>
    intro f M1 hf fr hI
    have e3 : gI M1 a 3 = nI (pFn m) := (CM M1 fr).2.2.2.1
    refine b9_nameHalvedDarts_10 T (fun h => absurd ((nI_leI (a := pFn m) (b := f) (by omega) (by omega)).mp (by rw [← e3]; exact h)) (by omega)) (fun _ => b9_nameHalvedDarts_18 ?_)
    -- darts
    suffices hin : ∀ (r x : Nat) (M2 : ME), x + r = pN m → Fr (tR1 63) M M2 → hmI m w f x M2 → Wp (E0 L xs) (d + 1) m9_nameHalvedDarts 25 [.ref 1, .ref a, .int (nI f), .int (nI (2 * f + (if anB (fun y => decide (pFo m y = f) && evB m w y) x = true then 1 else 0))), .int (nI x)] [] M2 (fun v M' => v = none ∧ (Fr (tR1 63) M M' ∧ ∀ z, z < pN m → evB m w z = true → M'.1 63 z = nI (hn m w z))) by
      have := hin (pN m) 0 M1 (by omega) fr hI
      rw [show (if anB (fun y => decide (pFo m y = f) && evB m w y) 0 = true then 1 else 0) = 0 from rfl, Nat.add_zero] at this
      rw [nI_dbl]; exact this
    intro r
    induction r with
    | zero =>
      intro x M2 hx fr2 hI2
      have e0 : 2 * gI M2 a 0 = nI (pN m) := by rw [show gI M2 a 0 = _ from (CM M2 fr2).1]; exact pk_mul 2 _
      have : x = pN m := by omega
      subst this
      refine b9_nameHalvedDarts_25 T (fun _ => b9_nameHalvedDarts_75 ?_) (fun h => absurd (by rw [e0]; exact nI_le (Nat.le_refl _) (by omega)) h)
      rw [nI_1]
      refine ih (f + 1) M2 (by omega) fr2 (fun z hz he h => hI2 z hz he ?_)
      omega
    | succ r ih2 =>
      intro x M2 hx fr2 hI2
      have hx' : x < pN m := by omega
      have e0 : 2 * gI M2 a 0 = nI (pN m) := by rw [show gI M2 a 0 = _ from (CM M2 fr2).1]; exact pk_mul 2 _
      have e4 : gI M2 (a + 4) x = nI (pFo m x) := (CM M2 fr2).2.2.2.2.2.2.2.1 x hx'
      have e5 : gI M2 (a + 3) x = nI (pVo m x) := (CM M2 fr2).2.2.2.2.2.2.1 x hx'
      have lF := pFo_ltF hm hx'
      have e6 : gI M2 55 (pVo m x) = nI (dst m w (pVo m x)) := DR M2 fr2 _ (pVo_ltV hm hx')
      have hl := dst_lt hm w (pVo m x)
      have stepN : (¬ (pFo m x = f ∧ evB m w x = true)) → anB (fun y => decide (pFo m y = f) && evB m w y) (x + 1) = anB (fun y => decide (pFo m y = f) && evB m w y) x := fun hn => by
        show (anB _ x || (decide (pFo m x = f) && evB m w x)) = _
        have : (decide (pFo m x = f) && evB m w x) = false := by
          rw [Bool.eq_false_iff]; intro h; rw [Bool.and_eq_true, decide_eq_true_iff] at h; exact hn h
        rw [this, Bool.or_false]
      have skip : (¬ (pFo m x = f ∧ evB m w x = true)) → Wp (E0 L xs) (d + 1) m9_nameHalvedDarts 69 [.ref 1, .ref a, .int (nI f), .int (nI (2 * f + (if anB (fun y => decide (pFo m y = f) && evB m w y) x = true then 1 else 0))), .int (nI x)] [] M2 (fun v M' => v = none ∧ (Fr (tR1 63) M M' ∧ ∀ z, z < pN m → evB m w z = true → M'.1 63 z = nI (hn m w z))) := by
        intro hn
        refine b9_nameHalvedDarts_69 ?_
        have := ih2 (x + 1) M2 (by omega) fr2 (fun z hz he h => hI2 z hz he (by
          rcases h with h | h
          · exact Or.inl h
          · by_cases ez : z = x
            · exact absurd ⟨by rw [← ez]; exact h.1, by rw [← ez]; exact he⟩ hn
            · exact Or.inr ⟨h.1, by omega⟩))
        rw [stepN hn] at this
        rw [nI_1]; exact this
      refine b9_nameHalvedDarts_25 T (fun h => absurd ((nI_leI (a := pN m) (b := x) (by omega) (by omega)).mp (by rw [← e0]; exact h)) (by omega)) (fun _ => b9_nameHalvedDarts_34 T x rfl (by omega) (fun h => skip (fun z => h (by rw [e4, z.1]))) (fun h => b9_nameHalvedDarts_45 T x rfl (by omega) (pVo m x) e5 (pVo_lt hm hx') (fun h2 => b9_nameHalvedDarts_55 x rfl (by omega) (b9_nameHalvedDarts_69 ?_)) (fun h2 => skip (fun z => h2 ?_))))
      · rw [e4] at h
        have hfo : pFo m x = f := (nI_eq (by omega) (by omega)).mp h
        rw [e6, nI_and1 _ (by omega)] at h2
        have hev : evB m w x = true := decide_eq_true ((nI_eq (b := 0) (by omega) (by decide)).mp h2)
        have ean : anB (fun y => decide (pFo m y = f) && evB m w y) (x + 1) = true := by
          rw [anB_iff]; exact ⟨x, by omega, by rw [Bool.and_eq_true, decide_eq_true_iff]; exact ⟨hfo, hev⟩⟩
        have ehn : 2 * f + (if anB (fun y => decide (pFo m y = f) && evB m w y) x = true then 1 else 0) = hn m w x := by
          unfold hn hb; rw [hfo]
        rw [ehn]
        have := ih2 (x + 1) (sI M2 63 x (nI (hn m w x))) (by omega) (Fr_sI fr2 (by show (63 == 63) = true; rfl)) (fun z hz he h => by
          rw [sI_at]
          by_cases ez : z = x
          · rw [if_pos ⟨rfl, ez⟩, ez]
          · rw [if_neg (fun z' => ez z'.2)]
            exact hI2 z hz he (by omega))
        rw [ean, if_pos rfl] at this
        rw [nI_1, nI_dbl, nI_1]; exact this
      · have q := of_decide_eq_true (show decide (dst m w (pVo m x) % 2 = 0) = true from z.2)
        rw [e6, nI_and1 _ (by omega), q]; rfl
theorem c_halve (hS : ClsS tab M st) (hok : StOK st) {x y : Int32} : EvI (E0 L xs) (d + 4) m9_halve [.ref 1, .int x, .int y] M (Co tab M (oHalve st x y)) := by
  have no : ∀ {M1 : ME}, M1 = M → ¬ (vp_in x 4 ∧ vp_in y 4 ∧ fit (sM st x.toNatClampNeg) = true) → Wp (E0 L xs) (d + 4) m9_halve 26 [.ref 1, .int x, .int y, .null, .null] [] M1 (fun v' M' => ∃ r, v' = some (.int r) ∧ Co tab M (oHalve st x y) r M') := fun e h => b9_halve_26 ⟨_, rfl, by rw [e, show oHalve st x y = (-1, st) from cIf_neg h _ _]; exact ⟨rfl, hS, FrC_refl M⟩⟩
  refine Ev_of k9_halve rfl (Nat.le_of_ble_eq_true rfl) (b9_halve_0 (fun h => no rfl (fun q => h q.1)) (fun h1 => b9_halve_7 (fun h => no rfl (fun q => h q.2.1)) (fun h2 => ?_)))
  obtain ⟨j, hj, rfl, ej, hR, hc, hn0⟩ := cl_map hS h1
  obtain ⟨i, hi, rfl, ei⟩ := in_j h2 (by decide)
  have hm := hok.2.2 j hj
  have hE16 : (sM st j).1 ≤ 16 := hm.1.1
  have hN := MV_N hm.1
  have T := RMs_is (L := L) (xs := xs) hR
  obtain ⟨d1, d2, d3⟩ := cl_dr hS
  have TD := RMs_is (L := L) (xs := xs) d1
  have hap := RMs_apart hR d1 (d2 j hj)
  have hF32 := pFn_le hm.1
  rw [ej] at no
  refine b9_halve_14 j rfl hj hn0 T (hasFourOr_ev (d := d + 2) hR hm.1 hc) (fun r M1 hr => ?_)
  obtain ⟨rfl, rfl⟩ := hr
  refine b9_halve_23 (fun h3 => ?_) (fun h3 => no rfl (fun q => by rw [q.2.2] at h3; exact absurd h3 (by decide)))
  have hfit : fit (sM st j) = true := by
    cases q : fit (sM st j) with
    | true => rfl
    | false => rw [q] at h3; exact absurd rfl h3
  rw [show oHalve st (nI j) (nI i) = keep st i (hlv (sM st j)) by
    unfold oHalve
    rw [ej, ei]
    exact cIf_pos ⟨h1, h2, hfit⟩ _ _]
  generalize hmj : sM st j = m at *
  have hEpos : 0 < pE m := by
    rcases Nat.eq_zero_or_pos (pE m) with z | z
    · exfalso
      have h4 : fr4 m = true := by
        unfold fit at hfit
        rw [decide_eq_false (show ¬ pE m = 1 by omega), Bool.false_and, Bool.or_false] at hfit
        exact hfit
      have := fr4_E hm.1 h4
      have := pFn_pos hm.1
      omega
    · exact z
  have hr : pR m < pN m := by
    rcases rt_lt hm.1 with q | q
    · exact q
    · omega
  have hw : pVo m (pR m) < pVn m := pVo_ltV hm.1 hr
  have e1 : gI M1 (gR M1 4 j) 1 = nI (pR m) := hc.2.1
  have e3 : gI M1 (gR M1 4 j + 3) (pR m) = nI (pVo m (pR m)) := hc.2.2.2.2.2.2.1 _ hr
  refine b9_halve_28 (R' := fun M' => Fr tDs M1 M' ∧ (∀ v, v < 32 → M'.1 55 v = dsV m (pVo m (pR m)) v) ∧ M'.1 54 1 = nI (rcN m (pVo m (pR m)))) j rfl hj hn0 T (pR m) e1 (by omega) (by rw [e3]; exact measure_ev (d := d + 2) hR hw hm.1 hc) (fun M2 h4 => ?_)
  have hc2 : cM M2 (gR M1 4 j) m := cM_fr hc h4.1 (fun k j q1 q2 => tDs_f hR q1 q2)
  have hd2 : dRow M2 m (pVo m (pR m)) := fun v hv => (h4.2.1 v (by have := pVn_le hm.1; omega)).trans (dsV_conn hm.1 hm.2.1 hw hv)
  have f2 : Fr (tCl (M1.2.2 1 4)) M1 M2 := tCl_sc (tDs_sc h4.1)
  refine b9_halve_52 (nameHalvedDarts_ev (d := d + 2) hR hm.1 hc2 hd2) (fun M3 h5 => ?_)
  have f63 : Fr tSc M2 M3 := Fr_mono h5.1 (fun k j q => tR1_f (fun z => by rw [z] at q; cases q))
  have f3 : Fr (tCl (M1.2.2 1 4)) M1 M3 := Fr_trans f2 (tCl_sc f63)
  have hc3 : cM M3 (gR M1 4 j) m := cM_fr hc2 h5.1 (fun k j' q1 q2 => tR1_f (by have := RMs_sc hR q1 q2; omega))
  have hd3 : dRow M3 m (pVo m (pR m)) := fun v hv => (h5.1.1 55 v (tR1_f (by decide))).trans (hd2 v hv)
  have ed : gR M3 1 4 = M1.2.2 1 4 := by show M3.2.2 1 4 = _; rw [f3.2]
  generalize hb0 : M1.2.2 1 4 = b at *
  generalize hw0 : pVo m (pR m) = w at *
  have e0 : gI M3 (gR M1 4 j) 0 / 2 = nI (pE m / 2) := by rw [show gI M3 (gR M1 4 j) 0 = _ from hc3.1]; exact pk_div (d := 2) (show m.1 < _ by omega) (by decide) (by decide)
  -- what is left once the draft stands
  have fin : ∀ (M4 : ME) (x4 : Int32), Fr (tCl b) M1 M4 → cM0 M4 b (hlv m) → Wp (E0 L xs) (d + 4) m9_halve 165 [.ref 1, .int (nI j), .int (nI i), .ref (gR M1 4 j), .int x4] [] M4 (fun v' M' => ∃ r, v' = some (.int r) ∧ Co tab M1 (keep st i (hlv m)) r M') := by
    intro M4 x4 f h0
    have hS1 := ClsS_cl d1 d2 hS f
    refine b9_halve_165 (finishDraft_ev (d := d) hS1 hi (hlv_PV hm hfit) (by rw [show M4.2.2 1 4 = b by rw [f.2]; exact hb0]; exact h0)) (fun r M2 hr => b9_halve_170 ⟨_, rfl, ?_⟩)
    exact ⟨hr.1, hr.2.1, FrC_trans (tCl_C d1 f) hr.2.2⟩
  refine b9_halve_57 (by rw [ed]; exact d3) T (by rw [ed]; exact TD) (by rw [ed]; exact d3) (by rw [ed]; exact d3) (fun h6 => ?_) (fun h6 => ?_)
  · -- more than one edge
    rw [ed, e0] at h6
    have h6' : ¬ nI (pE m / 2) = 0 := by
      have : gI (sI M3 b 0 (nI (pE m / 2))) b 0 = nI (pE m / 2) := sI_eq _ _ _ _
      rw [this] at h6; exact h6
    have hE1 : ¬ pE m = 1 := fun z => h6' (by rw [z]; rfl)
    have h4' : fr4 m = true := by
      unfold fit at hfit
      rw [decide_eq_false hE1, Bool.false_and, Bool.or_false] at hfit
      exact hfit
    have hEF := fr4_E hm.1 h4'
    have hE16' : pE m ≤ 16 := hE16
    have h2' : ∀ x, x < pN m → evB m w x ≠ evB m w (ox x) := fun x hx => fit_two hm h4' hEpos hw hx
    have eE : pE m / 2 = pFn m := by omega
    have evr : evB m w (pR m) = true := by
      have : dst m w w = 0 := by
        have := dsA_st (m := m) (w := w) (v := w) (a := 0) (b := pVn m) (Nat.zero_le _) (show rch m w 0 w = true from decide_eq_true rfl)
        exact Nat.le_antisymm (by show dsA m w (pVn m) w ≤ 0; rw [this]; exact dsA_le m w 0 w) (Nat.zero_le _)
      unfold evB; rw [hw0, this]; rfl
    have elv : hlv m = (pFn m, hn m w (pR m), fun y => hn m w (pX m (hdF m w y (pN m)))) := by
      unfold hlv; rw [if_neg hE1, hw0]
    rw [ed, e0]
    have f4 : Fr (tCl b) M1 (sI M3 b 0 (nI (pE m / 2))) := Fr_trans f3 (tCl_rm (Fr_sI (Fr_refl _ _) (tRM_t (by omega) (by omega))))
    have fw : Fr (tRM b) M3 (sI M3 b 0 (nI (pE m / 2))) := Fr_sI (Fr_refl _ _) (tRM_t (by omega) (by omega))
    have hb63 : 63 < b ∨ b + 6 < 63 := by rcases d1 with q | q | q | q | q <;> rw [q] <;> omega
    have hb55 : 55 < b ∨ b + 6 < 55 := by rcases d1 with q | q | q | q | q <;> rw [q] <;> omega
    have CM : ∀ M4, Fr (tRM b) M3 M4 → cM M4 (gR M1 4 j) m := fun M4 f => cM_fr hc3 f (fun k j' q1 q2 => tRM_f (by have q1' : M1.2.2 4 j ≤ k := q1; have q2' : k ≤ M1.2.2 4 j + 6 := q2; omega))
    have HN : ∀ M4, Fr (tRM b) M3 M4 → ∀ z, z < pN m → evB m w z = true → M4.1 63 z = nI (hn m w z) := fun M4 f z hz he => (f.1 63 z (tRM_f hb63)).trans (h5.2 z hz he)
    have DR : ∀ M4, Fr (tRM b) M3 M4 → dRow M4 m w := fun M4 f v hv => (f.1 55 v (tRM_f hb55)).trans (hd3 v hv)
    refine b9_halve_88 T (pR m) (CM _ fw).2.1 (by omega) ?_
    rw [show gI (sI M3 b 0 (nI (pE m / 2))) 63 (pR m) = _ from HN _ fw _ hr evr]
    refine b9_halve_97 TD ?_
    have key : ∀ (q k : Nat) (M4 : ME), k + q = pN m → Fr (tRM b) M3 M4 → M4.1 b 0 = nI (pFn m) → M4.1 b 1 = nI (hn m w (pR m)) → (∀ z, z < k → evB m w z = true → M4.1 (b + 1) (hn m w z) = nI (hn m w (pX m z))) → Wp (E0 L xs) (d + 4) m9_halve 103 [.ref 1, .int (nI j), .int (nI i), .ref (gR M1 4 j), .int (nI k)] [] M4 (fun v' M' => ∃ r, v' = some (.int r) ∧ Co tab M1 (keep st i (hlv m)) r M') := by
      intro q
      induction q with
      | zero =>
        intro k M4 hk f g0 g1 g2
        have e0 : 2 * gI M4 (gR M1 4 j) 0 = nI (pN m) := by rw [show gI M4 (gR M1 4 j) 0 = _ from (CM M4 f).1]; exact pk_mul 2 _
        have : k = pN m := by omega
        subst this
        refine b9_halve_103 T (fun _ => fin M4 _ (Fr_trans f3 (tCl_rm f)) ?_) (fun h => absurd (by rw [e0]; exact nI_le (Nat.le_refl _) (by omega)) h)
        rw [elv]
        refine ⟨g0, g1, fun y hy => ?_⟩
        obtain ⟨z, h7, h8, h9⟩ := hn_sur hm.1 h4' h2' hEpos (show y < 2 * pFn m from hy)
        have h10 : hdF m w y (pN m) = z := hdF_at h8 h9 h7 (fun z' hz' h11 h12 => hn_inj hm.1 h4' h2' hz' h7 h11 h8 (h12.trans h9.symm))
        show _ = nI (hn m w (pX m (hdF m w y (pN m))))
        rw [h10, ← g2 z h7 h8, h9]
      | succ q ih =>
        intro k M4 hk f g0 g1 g2
        have hk' : k < pN m := by omega
        have hXk := hm.1.2.1.1 _ hk'
        have e0 : 2 * gI M4 (gR M1 4 j) 0 = nI (pN m) := by rw [show gI M4 (gR M1 4 j) 0 = _ from (CM M4 f).1]; exact pk_mul 2 _
        have edr : gR M4 1 4 = b := by show M4.2.2 1 4 = _; rw [f.2]; exact ed
        have e5 : gI M4 (gR M1 4 j + 3) k = nI (pVo m k) := (CM M4 f).2.2.2.2.2.2.1 k hk'
        have e6 : gI M4 55 (pVo m k) = nI (dst m w (pVo m k)) := DR M4 f _ (pVo_ltV hm.1 hk')
        have hl := dst_lt hm.1 w (pVo m k)
        have hFp := pFn_pos hm.1
        have q1 : gI M4 (gR M1 4 j + 1) k = nI (pX m k) := (CM M4 f).2.2.2.2.1 k hk'
        refine b9_halve_103 T (fun h => absurd ((nI_leI (a := pN m) (b := k) (by omega) (by omega)).mp (by rw [← e0]; exact h)) (by omega)) (fun _ => b9_halve_112 (by rw [edr]; exact d3) (by rw [edr]; exact TD) (fun h => ?_) (fun _ => b9_halve_122 T k rfl (by omega) (pVo m k) e5 (pVo_lt hm.1 hk') (fun h => ?_) (fun h => b9_halve_159 ?_)))
        · rw [edr, show gI M4 b 0 = _ from g0] at h
          have := (nI_leI (a := pFn m) (b := 0) (by omega) (by decide)).mp h
          omega
        · rw [e6, nI_and1 _ (by omega)] at h
          have hev : evB m w k = true := decide_eq_true ((nI_eq (b := 0) (by omega) (by decide)).mp h)
          have hl2 := hn_lt (w := w) hm.1 hk'
          refine b9_halve_132 (by rw [edr]; exact d3) (by rw [edr]; exact TD) k rfl (by omega) T k rfl (by omega) (pX m k) q1 (by omega) (hn m w k) (HN M4 f k hk' hev) (by omega) (b9_halve_159 ?_)
          rw [edr, nI_1, show gI M4 63 (pX m k) = _ from HN M4 f _ hXk (by rw [ev_orb hm.1 hk']; exact hev)]
          refine ih (k + 1) _ (by omega) (Fr_sI f (tRM_t (by omega) (by omega))) ((sI_ne (Or.inl (by omega))).trans g0) ((sI_ne (Or.inl (by omega))).trans g1) (fun z hz he => ?_)
          rw [sI_at]
          by_cases ez : z = k
          · rw [ez, if_pos ⟨rfl, rfl⟩]
          · rw [if_neg (fun z' => ez (hn_inj hm.1 h4' h2' (by omega) hk' he hev z'.2))]; exact g2 z (by omega) he
        · rw [nI_1]
          refine ih (k + 1) M4 (by omega) f g0 g1 (fun z hz he => g2 z ?_ he)
          have : z ≠ k := fun z' => h (by
            rw [z'] at he
            have q := of_decide_eq_true (show decide (dst m w (pVo m k) % 2 = 0) = true from he)
            rw [e6, nI_and1 _ (by omega), q]; rfl)
          omega
    refine key (pN m) 0 _ (by omega) (Fr_sI fw (tRM_t (by omega) (by omega))) ?_ (sI_eq _ _ _ _) (fun x hx => absurd hx (Nat.not_lt_zero _))
    rw [sI_ne (Or.inr (by decide)), sI_eq, eE]
  · rw [ed, e0] at h6
    have h6' : nI (pE m / 2) = 0 := by
      have : gI (sI M3 b 0 (nI (pE m / 2))) b 0 = nI (pE m / 2) := sI_eq _ _ _ _
      rw [this] at h6; exact h6
    have hE2 : pE m / 2 = 0 := (nI_eq (b := 0) (show m.1 / 2 < _ by omega) (by decide)).mp h6'
    have hE1 : pE m = 1 := by omega
    have elv : hlv m = (0, 0, id) := by unfold hlv; rw [if_pos hE1]
    rw [ed, e0, hE2]
    refine b9_halve_84 (b9_halve_97 TD ?_)
    have f5 : Fr (tRM b) M3 (sI (sI M3 b 0 (nI 0)) b 1 0) := Fr_sI (Fr_sI (Fr_refl _ _) (tRM_t (by omega) (by omega))) (tRM_t (by omega) (by omega))
    have hcf : cM (sI (sI M3 b 0 (nI 0)) b 1 0) (gR M1 4 j) m := cM_fr hc3 f5 (fun k j' q1 q2 => tRM_f (by have q1' : M1.2.2 4 j ≤ k := q1; have q2' : k ≤ M1.2.2 4 j + 6 := q2; omega))
    have g0 : (sI (sI M3 b 0 (nI 0)) b 1 0).1 b 0 = nI 0 := by rw [sI_ne (Or.inr (by decide)), sI_eq]
    have fin2 := fin (sI (sI M3 b 0 (nI 0)) b 1 0) 0 (Fr_trans f3 (tCl_rm f5)) (by
      rw [elv]
      exact ⟨g0, by rw [sI_eq]; rfl, fun y hy => absurd hy (Nat.not_lt_zero _)⟩)
    have edr : gR (sI (sI M3 b 0 (nI 0)) b 1 0) 1 4 = b := ed
    refine b9_halve_103 T (fun _ => fin2) (fun _ => b9_halve_112 (by rw [edr]; exact d3) (by rw [edr]; exact TD) (fun _ => fin2) (fun h => absurd ?_ h))
    rw [edr, show gI (sI (sI M3 b 0 (nI 0)) b 1 0) b 0 = _ from g0]
    decide
end COP2
