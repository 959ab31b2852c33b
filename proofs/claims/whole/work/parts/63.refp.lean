/-! the reference: doubled, halved, turned -/
section RFP
variable {L : Nat} {xs : Nat → Int32} {d : Nat} {M : ME} {st : ST}
theorem r_redouble (hS : RefS M st) (hok : StOK st) {x y : Int32} : EvI (E0 L xs) (d + 2) m10_redouble [.ref 110, .int x, .int y] M (Ro M (oRedouble st x y)) := by
  have no : ¬ (vp_in x 4 ∧ vp_in y 4 ∧ pE (sM st x.toNatClampNeg) ≤ 8) → Wp (E0 L xs) (d + 2) m10_redouble 32 [.ref 110, .int x, .int y, .null] [] (sI M 110 0 0) (fun v' M' => ∃ r, v' = some (.int r) ∧ Ro M (oRedouble st x y) r M') := fun h => b10_redouble_32 ⟨_, rfl, by rw [show oRedouble st x y = (-1, st) from cIf_neg h _ _]; exact Ro_sc hok hS (tld M)⟩
  refine Ev_of k10_redouble rfl (Nat.le_of_ble_eq_true rfl) (b10_redouble_0 (fun h1 => b10_redouble_13 (fun h2 => ?_) (fun h => no (fun q => h q.2.1))) (fun h => no (fun q => h q.1)))
  obtain ⟨j, hj, rfl, ej⟩ := in_j h1 (by decide)
  obtain ⟨i, hi, rfl, ei⟩ := in_j h2 (by decide)
  have hm := hok.2.2 j hj
  have hj5 : j < 5 := by omega
  have hi5 : i < 5 := by omega
  have hS1 := tld_S hok hS
  have hrj : rM (sI M 110 0 0) j (sM st j) := hS1.2.2.2.2 j hj
  rw [ej] at no
  have eo : pE (sM st j) ≤ 8 → oRedouble st (nI j) (nI i) = keep st i (dbl (sM st j)) := fun h8 => by
    unfold oRedouble
    rw [ej, ei]
    exact cIf_pos ⟨h1, h2, h8⟩ _ _
  have ok2 : ∀ {M' : ME}, Fr (tMp i) M M' → rM M' i (dbl (sM st j)) → RefS M' (setM st i (dbl (sM st j))) := fun f hr => RefS_mp hi hok hS f hr
  have hE16 : (sM st j).1 ≤ 16 := hm.1.1
  have e0 : gI (sI M 110 0 0) 112 j = nI (sM st j).1 := hrj.1
  generalize sM st j = m at *
  have hN := MV_N hm.1
  refine b10_redouble_21 j rfl hj5 (fun h3 => ?_) (fun h => no (fun q => h (by rw [e0]; exact nI_le (b := 8) q.2.2 (by decide))))
  rw [e0] at h3
  have h8 : pE m ≤ 8 := (nI_leI (b := 8) (show m.1 < _ by omega) (by decide)).mp h3
  rw [eo h8]
  refine b10_redouble_34 (copies_ev (d := d) (t := 4) hj5 (by decide) hm.1 hrj) (fun M2 h2' => ?_)
  have f2 : Fr (tMp i) M M2 := tMp_s (Fr_trans (tld M) (tCp_sr h2'.1))
  have e4 : gI M2 112 4 = nI m.1 := h2'.2.1
  have eN : pN m = 2 * pE m := rfl
  refine b10_redouble_40 4 rfl (by decide) (fun h5 => ?_) (fun h5 => ?_)
  · rw [e4] at h5
    have hE0 : ¬ pE m = 0 := fun z => h5 (by rw [show m.1 = 0 from z]; rfl)
    have ed : dbl m = (2 * pE m, 2 * pX m (pR m), fun y => if y % 2 = 0 then 2 * pX m (y / 2) else 2 * ivF (pF m) (pN m) (y / 2) + 1) := if_neg hE0
    have hr : pR m < pN m := by
      rcases rt_lt hm.1 with q | q
      · exact q
      · exact absurd q.1 hE0
    have hXr := hm.1.2.1.1 _ hr
    have hF := pF_perm hm.1.2.1
    have er : gI M2 113 4 = nI (pR m) := h2'.2.2.1
    refine b10_redouble_79 4 rfl (by decide) i rfl hi5 4 rfl (by decide) (32 * 4 + pR m) (by rw [er]; exact i32m 4 _) (by omega) i rfl hi5 ?_
    rw [show gI M2 111 (32 * 4 + pR m) = nI (pX m (pR m)) from h2'.2.2.2 _ hr, nI_dbl, e4, nI_dbl]
    have f0 : Fr (tCp i) M2 (sI (sI M2 112 i (nI (2 * m.1))) 113 i (nI (2 * pX m (pR m)))) := Fr_sI (Fr_sI (Fr_refl _ _) tCp_p.1) tCp_p.2
    suffices hloop : ∀ (q z : Nat) (M3 : ME), z + q = pN m → Fr (tCp i) M2 M3 → M3.1 112 i = nI (2 * pE m) → M3.1 113 i = nI (2 * pX m (pR m)) → (∀ u, u < z → M3.1 111 (32 * i + 2 * u) = nI (2 * pX m u) ∧ M3.1 111 (32 * i + (2 * pF m u + 1)) = nI (2 * u + 1)) → Wp (E0 L xs) (d + 2) m10_redouble 114 [.ref 110, .int (nI j), .int (nI i), .int (nI z)] [] M3 (fun v' M' => ∃ r, v' = some (.int r) ∧ Ro M (keep st i (dbl m)) r M') by
      refine hloop (pN m) 0 _ (by omega) f0 ?_ (sI_eq _ _ _ _) (fun u hu => absurd hu (Nat.not_lt_zero _))
      rw [sI_ne (Or.inl (by decide)), sI_eq]
    intro q
    induction q with
    | zero =>
      intro z M3 hz f3 a1 a2 a3
      have : z = pN m := by omega
      subst this
      have h4 := rM4_cp hN hi h2'.2 f3
      have e2 : 2 * gI M3 112 4 = nI (pN m) := by rw [show gI M3 112 4 = _ from h4.1]; exact pk_mul 2 _
      have f := Fr_trans f2 (tMp_c f3)
      have hrd : rM M3 i (dbl m) := by
        rw [ed]
        refine ⟨a1, a2, fun u hu => ?_⟩
        have hu' : u < 2 * (2 * pE m) := hu
        show _ = nI (if u % 2 = 0 then 2 * pX m (u / 2) else 2 * ivF (pF m) (pN m) (u / 2) + 1)
        by_cases qy : u % 2 = 0
        · rw [if_pos qy]
          exact (congrArg (M3.1 111) (show 32 * i + u = 32 * i + 2 * (u / 2) by omega)).trans (a3 (u / 2) (by omega)).1
        · rw [if_neg qy]
          have hlt := (iv_perm hF).1 (u / 2) (by omega)
          have := (a3 _ hlt).2
          rw [iv_r hF (by omega)] at this
          exact (congrArg (M3.1 111) (show 32 * i + u = 32 * i + (2 * (u / 2) + 1) by omega)).trans this
      exact b10_redouble_114 4 rfl (by decide) (fun _ => b10_redouble_165 i rfl hi5 ⟨_, rfl, hrd.1, ok2 f hrd, tMp_R f⟩) (fun h => absurd (by rw [e2]; exact nI_le (Nat.le_refl _) (by omega)) h)
    | succ q ih =>
      intro z M3 hz f3 a1 a2 a3
      have h4 := rM4_cp hN hi h2'.2 f3
      have hz' : z < pN m := by omega
      have hXz := hm.1.2.1.1 z hz'
      have hFz := hF.1 z hz'
      have hox := ox_lt (n := m.1) hz'
      have hox' : ox z < pN m := hox
      have e2 : 2 * gI M3 112 4 = nI (pN m) := by rw [show gI M3 112 4 = _ from h4.1]; exact pk_mul 2 _
      have q1 : gI M3 111 (32 * 4 + z) = nI (pX m z) := h4.2.2 z hz'
      have f4 : Fr (tCp i) M2 (sI M3 111 (32 * i + 2 * z) (2 * gI M3 111 (32 * 4 + z))) := Fr_sI f3 (tCp_1 (by omega) (by omega))
      have q2 : gI (sI M3 111 (32 * i + 2 * z) (2 * gI M3 111 (32 * 4 + z))) 111 (32 * 4 + ox z) = nI (pF m z) := (rM4_cp hN hi h2'.2 f4).2.2 (ox z) hox
      refine b10_redouble_114 4 rfl (by decide) (fun h => absurd ((nI_leI (a := pN m) (b := z) (by omega) (by omega)).mp (by rw [← e2]; exact h)) (by omega)) (fun _ => b10_redouble_123 (32 * 4 + z) (i32m 4 z) (by omega) (32 * i + 2 * z) (by rw [nI_dbl]; exact i32m i _) (by omega) (32 * 4 + ox z) (by rw [nI_ox (by omega)]; exact i32m 4 _) (by omega) (32 * i + (2 * pF m z + 1)) (by rw [q2, nI_dbl, nI_1]; exact i32m i _) (by omega) ?_)
      rw [nI_1, q1, nI_dbl, nI_dbl, nI_1]
      refine ih (z + 1) _ (by omega) (Fr_sI (Fr_sI f3 (tCp_1 (by omega) (by omega))) (tCp_1 (by omega) (by omega))) ((sI_ne (Or.inl (by decide))).trans ((sI_ne (Or.inl (by decide))).trans a1)) ((sI_ne (Or.inl (by decide))).trans ((sI_ne (Or.inl (by decide))).trans a2)) (fun u hu => ?_)
      by_cases eu : u = z
      · subst eu
        exact ⟨by rw [sI_ne (Or.inr (by omega)), sI_eq], by rw [sI_eq]⟩
      · have hne : 32 * i + (2 * pF m u + 1) ≠ 32 * i + (2 * pF m z + 1) := fun z' => eu (hF.2 u z (by omega) hz' (by omega))
        exact ⟨by rw [sI_ne (Or.inr (by omega)), sI_ne (Or.inr (by omega))]; exact (a3 u (by omega)).1, by rw [sI_ne (Or.inr hne), sI_ne (Or.inr (by omega))]; exact (a3 u (by omega)).2⟩
  · rw [e4] at h5
    have hE0 : pE m = 0 := (nI_eq (b := 0) (show m.1 < _ by omega) (by decide)).mp h5
    have ed : dbl m = (1, 0, id) := if_pos hE0
    have f3 : Fr (tCp i) M2 (sI (sI (sI (sI M2 112 i 1) 113 i 0) 111 (32 * i) 0) 111 (32 * i + 1) 1) := Fr_sI (Fr_sI (Fr_sI (Fr_sI (Fr_refl _ _) tCp_p.1) tCp_p.2) (tCp_1 (by omega) (by omega))) (tCp_1 (by omega) (by omega))
    have f := Fr_trans f2 (tMp_c f3)
    have hrd : rM (sI (sI (sI (sI M2 112 i 1) 113 i 0) 111 (32 * i) 0) 111 (32 * i + 1) 1) i (dbl m) := by
      rw [ed]
      refine ⟨?_, ?_, fun u hu => ?_⟩
      · rw [sI_ne (Or.inl (by decide)), sI_ne (Or.inl (by decide)), sI_ne (Or.inl (by decide)), sI_eq]; rfl
      · rw [sI_ne (Or.inl (by decide)), sI_ne (Or.inl (by decide)), sI_eq]; rfl
      · have : u = 0 ∨ u = 1 := by have : u < 2 := hu; omega
        rcases this with rfl | rfl
        · rw [sI_ne (Or.inr (by omega)), sI_at, if_pos ⟨rfl, rfl⟩]; rfl
        · rw [sI_at, if_pos ⟨rfl, rfl⟩]; rfl
    refine b10_redouble_49 i rfl hi5 i rfl hi5 (32 * i) (i32m i 0) (by omega) (32 * i + 1) (i32m i 1) (by omega) ⟨_, rfl, ?_, ok2 f hrd, tMp_R f⟩
    show (1 : Int32) = nI (pE (dbl m))
    rw [ed]; rfl
theorem fr2 {a : Nat} (ha : a < 2 ^ 30) : nI a - nI a / 2 * 2 = nI (a % 2) := pk_rem (d := 2) (by omega) (by decide) (by decide)
theorem halfOf_ev {m : PMp} {w x : Nat} (hm : PV m) (h2 : ∀ x, x < pN m → evB m w x ≠ evB m w (ox x)) (h4 : fr4 m = true) (hx : x < pN m) (ex : evB m w x = true) (hfo : ∀ z, z < pN m → M.1 115 z = nI (pFo m z)) (hvo : ∀ z, z < pN m → M.1 114 z = nI (pVo m z)) (hd : ∀ v, v < pVn m → M.1 117 v = nI (dst m w v)) : EvI (E0 L xs) (d + 1) m10_halfOf [.ref 110, .int (nI x)] M (fun r M' => r = nI (hn m w x) ∧ M' = M) := by
  have hN := MV_N hm
  have hF := pFn_le hm
  have lx := pFo_ltF hm hx
  have e1 : gI M 115 x = nI (pFo m x) := hfo x hx
  -- how many are ahead
  let P : Nat → Bool := fun y => decide (pFo m y = pFo m x) && evB m w y
  have hcnt : cnB P x = if hb m w x = true then 1 else 0 := by
    by_cases q : hb m w x = true
    · rw [if_pos q]
      have hlt := (hb_F2 hm h4 h2 hx ex).mp q
      have e0 : cnB (fun y => decide (y = F2 m x)) x = 1 := by
        rw [cnB_one (P := fun _ => false) (Q := fun y => decide (y = F2 m x)) (a := F2 m x) rfl (decide_eq_true rfl) (fun i hi => decide_eq_false hi) hlt, cnB_none (fun _ _ => rfl)]
      rw [← e0]
      refine cnB_congr (fun y hy => ?_)
      rw [Bool.eq_iff_iff, Bool.and_eq_true, decide_eq_true_iff, decide_eq_true_iff]
      constructor
      · rintro ⟨h5, h6⟩
        rcases F2_two hm h4 h2 hx (by omega) ex h6 h5 with z | z
        · omega
        · exact z
      · rintro rfl
        exact ⟨F2_fo hm hx, by rw [F2_ev hm h2 hx]; exact ex⟩
    · rw [if_neg q]
      refine cnB_none (fun y hy => Bool.eq_false_iff.mpr (fun z => q (hb_iff.mpr ⟨y, hy, ?_⟩)))
      rw [Bool.and_eq_true, decide_eq_true_iff] at z
      exact z
  refine Ev_of k10_halfOf rfl (Nat.le_of_ble_eq_true rfl) (b10_halfOf_0 ?_)
  suffices hloop : ∀ (q z : Nat), z + q = x → Wp (E0 L xs) (d + 1) m10_halfOf 4 [.ref 110, .int (nI x), .int (nI (cnB P z)), .int (nI z)] [] M (fun v M' => ∃ r, v = some (.int r) ∧ (r = nI (hn m w x) ∧ M' = M)) by
    exact hloop x 0 (by omega)
  intro q
  induction q with
  | zero =>
    intro z hz
    have : z = x := by omega
    subst this
    refine b10_halfOf_4 (fun _ => b10_halfOf_42 z rfl (by omega) ⟨_, rfl, ?_, rfl⟩) (fun h => absurd (nI_le (Nat.le_refl _) (by omega)) h)
    rw [e1, nI_dbl, nI_add, hcnt]; rfl
  | succ q ih =>
    intro z hz
    have hz' : z < pN m := by omega
    have lz := pFo_ltF hm hz'
    have e2 : gI M 115 z = nI (pFo m z) := hfo z hz'
    have e3 : gI M 114 z = nI (pVo m z) := hvo z hz'
    have e4 : gI M 117 (pVo m z) = nI (dst m w (pVo m z)) := hd _ (pVo_ltV hm hz')
    have hl := dst_lt hm w (pVo m z)
    have es : cnB P (z + 1) = cnB P z + (if P z = true then 1 else 0) := rfl
    have next : ∀ n, n = cnB P (z + 1) → Wp (E0 L xs) (d + 1) m10_halfOf 36 [.ref 110, .int (nI x), .int (nI n), .int (nI z)] [] M (fun v M' => ∃ r, v = some (.int r) ∧ (r = nI (hn m w x) ∧ M' = M)) := fun n hn => b10_halfOf_36 (by rw [hn, nI_1]; exact ih (z + 1) (by omega))
    refine b10_halfOf_4 (fun h => absurd ((nI_leI (by omega) (by omega)).mp h) (by omega)) (fun _ => b10_halfOf_9 z rfl (by omega) x rfl (by omega) (fun h => next _ ?_) (fun h => b10_halfOf_24 z rfl (by omega) (pVo m z) e3 (pVo_lt hm hz') (fun h5 => b10_halfOf_32 ?_) (fun h5 => next _ ?_)))
    · rw [e1, e2] at h
      have : P z = false := by show (decide (pFo m z = pFo m x) && _) = false; rw [decide_eq_false (fun y => h (by rw [y]))]; rfl
      rw [es, if_neg (by rw [this]; decide), Nat.add_zero]
    · rw [e1, e2] at h
      rw [e4, fr2 hl] at h5
      have : P z = true := by
        show (decide (pFo m z = pFo m x) && evB m w z) = true
        rw [decide_eq_true ((nI_eq (by omega) (by omega)).mp h), show evB m w z = true from decide_eq_true ((nI_eq (b := 0) (by omega) (by decide)).mp h5)]; rfl
      rw [nI_1]
      exact next _ (by rw [es, if_pos this])
    · rw [e4, fr2 hl] at h5
      have : P z = false := by
        show (decide (pFo m z = pFo m x) && evB m w z) = false
        rw [show evB m w z = false from decide_eq_false (fun y => h5 (by rw [y]; rfl)), Bool.and_false]
      rw [es, if_neg (by rw [this]; decide), Nat.add_zero]
theorem r_halve (hS : RefS M st) (hok : StOK st) {x y : Int32} : EvI (E0 L xs) (d + 3) m10_halve [.ref 110, .int x, .int y] M (Ro M (oHalve st x y)) := by
  have no : ¬ (vp_in x 4 ∧ vp_in y 4) → Wp (E0 L xs) (d + 3) m10_halve 21 [.ref 110, .int x, .int y, .null] [] (sI M 110 0 0) (fun v' M' => ∃ r, v' = some (.int r) ∧ Ro M (oHalve st x y) r M') := fun h => b10_halve_21 ⟨_, rfl, by rw [show oHalve st x y = (-1, st) from cIf_neg (fun q => h ⟨q.1, q.2.1⟩) _ _]; exact Ro_sc hok hS (tld M)⟩
  refine Ev_of k10_halve rfl (Nat.le_of_ble_eq_true rfl) (b10_halve_0 (fun h1 => b10_halve_13 (fun h2 => ?_) (fun h => no (fun q => h q.2))) (fun h => no (fun q => h q.1)))
  obtain ⟨j, hj, rfl, ej⟩ := in_j h1 (by decide)
  obtain ⟨i, hi, rfl, ei⟩ := in_j h2 (by decide)
  have hm := hok.2.2 j hj
  have hj5 : j < 5 := by omega
  have hi5 : i < 5 := by omega
  refine b10_halve_23 (rlays (d := d) hS hok hj) (fun M2 h3 => ?_)
  obtain ⟨f2, hr2, hl2⟩ := h3
  refine b10_halve_28 (isFit_ev (d := d + 1) hj5 hm hr2 hl2) (fun r M3 hr => ?_)
  obtain ⟨rfl, rfl⟩ := hr
  have eo : oHalve st (nI j) (nI i) = cIf (fit (sM st j) = true) (keep st i (hlv (sM st j))) (-1, st) := by
    unfold oHalve
    rw [ej, ei]
    by_cases q : fit (sM st j) = true
    · rw [cIf_pos ⟨h1, h2, q⟩, cIf_pos q]
    · rw [cIf_neg (fun z => q z.2.2), cIf_neg q]
  rw [eo]
  have ok2 : ∀ {M' : ME}, Fr (tMp i) M M' → rM M' i (hlv (sM st j)) → RefS M' (setM st i (hlv (sM st j))) := fun f hr => RefS_mp hi hok hS f hr
  generalize sM st j = m at *
  have hN := MV_N hm.1
  have hE16 : m.1 ≤ 16 := hm.1.1
  refine b10_halve_33 (fun h3 => ?_) (fun h3 => b10_halve_36 ⟨_, rfl, ?_⟩)
  rotate_left
  · rw [cIf_neg (fun q => by rw [q] at h3; exact absurd h3 (by decide))]
    exact Ro_sc hok hS f2
  have hfit : fit m = true := by
    cases q : fit m with
    | true => rfl
    | false => rw [q] at h3; exact absurd rfl h3
  rw [cIf_pos hfit]
  have hEpos : 0 < pE m := by
    rcases Nat.eq_zero_or_pos (pE m) with z | z
    · exfalso
      have h4 : fr4 m = true := by
        unfold fit at hfit
        rw [decide_eq_false (show ¬ pE m = 1 by omega), Bool.false_and, Bool.or_false] at hfit
        exact hfit
      have := fr4_E hm.1 h4
      have := pFn_pos hm.1
      omega
    · exact z
  have hr : pR m < pN m := by
    rcases rt_lt hm.1 with q | q
    · exact q
    · omega
  have hw : pVo m (pR m) < pVn m := pVo_ltV hm.1 hr
  have hV32 := pVn_le hm.1
  refine b10_halve_38 (copies_ev (d := d + 1) (t := 4) hj5 (by decide) hm.1 hr2) (fun M4 h4 => ?_)
  have c115 : ∀ k' j', (k' ≠ 111 ∧ k' ≠ 112 ∧ k' ≠ 113) → M4.1 k' j' = M3.1 k' j' := fun k' j' hk => h4.1.1 k' j' (tCp_f hk)
  have er : gI M4 113 4 = nI (pR m) := h4.2.2.1
  have ev : gI M4 114 (pR m) = nI (pVo m (pR m)) := (c115 114 _ (by decide)).trans (hl2.2.2.1 _ hr)
  have e7 : M4.1 110 7 = nI (pVn m) := (c115 110 7 (by decide)).trans hl2.1
  have hvo4 : ∀ z, z < pN m → M4.1 114 z = nI (pVo m z) := fun z hz => (c115 114 z (by decide)).trans (hl2.2.2.1 z hz)
  generalize hw0 : pVo m (pR m) = w at *
  refine b10_halve_44 (R' := fun M' => Fr (tR1 117) M4 M' ∧ ∀ v, v < 32 → M'.1 117 v = dsV m w v) 4 rfl (by decide) (pR m) er (by omega) (by rw [ev]; exact laysFar_ev (d := d + 1) (by decide) (by omega) hm.1 h4.2 e7 hvo4) (fun M5 h5 => ?_)
  have f5 : Fr tSr M M5 := Fr_trans f2 (Fr_trans (tCp_sr h4.1) (t117_sr h5.1))
  have hr5 : rM M5 4 m := rM_fr h4.2 h5.1 rfl rfl (fun _ _ => rfl)
  have c5 : ∀ k' j', k' ≠ 117 → M5.1 k' j' = M4.1 k' j' := fun k' j' hk => h5.1.1 k' j' (tR1_f hk)
  have hvo5 : ∀ z, z < pN m → M5.1 114 z = nI (pVo m z) := fun z hz => (c5 114 z (by decide)).trans (hvo4 z hz)
  have hfo5 : ∀ z, z < pN m → M5.1 115 z = nI (pFo m z) := fun z hz => (c5 115 z (by decide)).trans ((c115 115 z (by decide)).trans (hl2.2.2.2.1 z hz))
  have hd5 : ∀ v, v < pVn m → M5.1 117 v = nI (dst m w v) := fun v hv => (h5.2 v (by omega)).trans (dsV_conn hm.1 hm.2.1 hw hv)
  have e85 : M5.1 110 8 = nI (pFn m) := (c5 110 8 (by decide)).trans ((c115 110 8 (by decide)).trans hl2.2.1)
  have e112 : gI (sI M5 112 i 0) 112 4 = nI m.1 := (sI_ne (Or.inr (by omega))).trans hr5.1
  refine b10_halve_60 i rfl hi5 i rfl hi5 4 rfl (by decide) (fun h6 => b10_halve_86 i rfl hi5 ?_) (fun h6 => b10_halve_84 ?_)
  · rw [e112] at h6
    have hE1 : ¬ pE m = 1 := fun z => h6 (by rw [show m.1 = 1 from z]; rfl)
    have h4' : fr4 m = true := by
      unfold fit at hfit
      rw [decide_eq_false hE1, Bool.false_and, Bool.or_false] at hfit
      exact hfit
    have hEF := fr4_E hm.1 h4'
    have hE16' : pE m ≤ 16 := hE16
    have h2' : ∀ x, x < pN m → evB m w x ≠ evB m w (ox x) := fun x hx => fit_two hm h4' hEpos hw hx
    have evr : evB m w (pR m) = true := by
      have : dst m w w = 0 := by
        have := dsA_st (m := m) (w := w) (v := w) (a := 0) (b := pVn m) (Nat.zero_le _) (show rch m w 0 w = true from decide_eq_true rfl)
        exact Nat.le_antisymm (by show dsA m w (pVn m) w ≤ 0; rw [this]; exact dsA_le m w 0 w) (Nat.zero_le _)
      unfold evB; rw [hw0, this]; rfl
    have elv : hlv m = (pFn m, hn m w (pR m), fun y => hn m w (pX m (hdF m w y (pN m)))) := by
      unfold hlv; rw [if_neg hE1, hw0]
    have e8 : gI (sI (sI M5 112 i 0) 113 i 0) 110 8 = nI (pFn m) := e85
    rw [e8]
    have f0 : Fr (tCp i) M5 (sI (sI (sI M5 112 i 0) 113 i 0) 112 i (nI (pFn m))) := Fr_sI (Fr_sI (Fr_sI (Fr_refl _ _) tCp_p.1) tCp_p.2) tCp_p.1
    have C6 : ∀ M6, Fr (tCp i) M5 M6 → (∀ z, z < pN m → M6.1 115 z = nI (pFo m z)) ∧ (∀ z, z < pN m → M6.1 114 z = nI (pVo m z)) ∧ (∀ v, v < pVn m → M6.1 117 v = nI (dst m w v)) ∧ rM M6 4 m := fun M6 f => ⟨fun z hz => (f.1 115 z (tCp_f (by decide))).trans (hfo5 z hz), fun z hz => (f.1 114 z (tCp_f (by decide))).trans (hvo5 z hz), fun v hv => (f.1 117 v (tCp_f (by decide))).trans (hd5 v hv), rM4_cp hN hi hr5 f⟩
    suffices hloop : ∀ (q z : Nat) (M6 : ME), z + q = pN m → Fr (tCp i) M5 M6 → M6.1 112 i = nI (pFn m) → (∀ u, u < z → evB m w u = true → M6.1 111 (32 * i + hn m w u) = nI (hn m w (pX m u))) → Wp (E0 L xs) (d + 3) m10_halve 98 [.ref 110, .int (nI j), .int (nI i), .int (nI z)] [] M6 (fun v' M' => ∃ r, v' = some (.int r) ∧ Ro M (keep st i (hlv m)) r M') by
      exact hloop (pN m) 0 _ (by omega) f0 (sI_eq _ _ _ _) (fun u hu => absurd hu (Nat.not_lt_zero _))
    intro q
    induction q with
    | zero =>
      intro z M6 hz f6 a1 a3
      have : z = pN m := by omega
      subst this
      obtain ⟨b1, b2, b3, b4⟩ := C6 M6 f6
      have e2 : 2 * gI M6 112 4 = nI (pN m) := by rw [show gI M6 112 4 = _ from b4.1]; exact pk_mul 2 _
      have er6 : gI M6 113 4 = nI (pR m) := b4.2.1
      refine b10_halve_98 4 rfl (by decide) (fun _ => b10_halve_141 (R' := fun r M' => r = nI (hn m w (pR m)) ∧ M' = M6) 4 rfl (by decide) (by rw [er6]; exact halfOf_ev (d := d + 1) hm.1 h2' h4' hr evr b1 b2 b3) (fun r M7 hr7 => ?_)) (fun h => absurd (by rw [e2]; exact nI_le (Nat.le_refl _) (by omega)) h)
      obtain ⟨rfl, rfl⟩ := hr7
      have f7 : Fr (tCp i) M5 (sI M7 113 i (nI (hn m w (pR m)))) := Fr_sI f6 tCp_p.2
      have f := Fr_trans (tMp_s (y := i) f5) (tMp_c f7)
      have hrd : rM (sI M7 113 i (nI (hn m w (pR m)))) i (hlv m) := by
        rw [elv]
        refine ⟨(sI_ne (Or.inl (by decide))).trans a1, sI_eq _ _ _ _, fun u hu => ?_⟩
        obtain ⟨v, h7, h8, h9⟩ := hn_sur hm.1 h4' h2' hEpos (show u < 2 * pFn m from hu)
        have h10 : hdF m w u (pN m) = v := hdF_at h8 h9 h7 (fun z' hz' h11 h12 => hn_inj hm.1 h4' h2' hz' h7 h11 h8 (h12.trans h9.symm))
        show _ = nI (hn m w (pX m (hdF m w u (pN m))))
        rw [h10, sI_ne (Or.inl (by decide)), ← a3 v h7 h8, h9]
      refine b10_halve_156 rfl (by decide) i rfl hi5 ⟨_, rfl, ?_, ok2 f hrd, tMp_R f⟩
      show gI (sI M7 113 i (nI (hn m w (pR m)))) 110 8 = nI (pE (hlv m))
      rw [elv]
      exact (f7.1 110 8 (tCp_f (by decide))).trans e85
    | succ q ih =>
      intro z M6 hz f6 a1 a3
      have hz' : z < pN m := by omega
      have hXz := hm.1.2.1.1 z hz'
      obtain ⟨b1, b2, b3, b4⟩ := C6 M6 f6
      have e2 : 2 * gI M6 112 4 = nI (pN m) := by rw [show gI M6 112 4 = _ from b4.1]; exact pk_mul 2 _
      have q1 : gI M6 111 (32 * 4 + z) = nI (pX m z) := b4.2.2 z hz'
      have e5 : gI M6 117 (pVo m z) = nI (dst m w (pVo m z)) := b3 _ (pVo_ltV hm.1 hz')
      have hl := dst_lt hm.1 w (pVo m z)
      refine b10_halve_98 4 rfl (by decide) (fun h => absurd ((nI_leI (a := pN m) (b := z) (by omega) (by omega)).mp (by rw [← e2]; exact h)) (by omega)) (fun _ => b10_halve_107 z rfl (by omega) (pVo m z) (b2 z hz') (pVo_lt hm.1 hz') (fun h => ?_) (fun h => b10_halve_135 ?_))
      · rw [e5, fr2 hl] at h
        have hev : evB m w z = true := decide_eq_true ((nI_eq (b := 0) (by omega) (by decide)).mp h)
        have hl2 := hn_lt (w := w) hm.1 hz'
        refine b10_halve_115 (halfOf_ev (d := d + 1) hm.1 h2' h4' hz' hev b1 b2 b3) (fun r M7 hr7 => ?_)
        obtain ⟨rfl, rfl⟩ := hr7
        refine b10_halve_122 (R' := fun r M' => r = nI (hn m w (pX m z)) ∧ M' = M7) (32 * 4 + z) (i32m 4 z) (by omega) (by rw [q1]; exact halfOf_ev (d := d + 1) hm.1 h2' h4' hXz (by rw [ev_orb hm.1 hz']; exact hev) b1 b2 b3) (fun r M8 hr8 => ?_)
        obtain ⟨rfl, rfl⟩ := hr8
        refine b10_halve_132 (32 * i + hn m w z) (i32m i _) (by omega) (b10_halve_135 ?_)
        rw [nI_1]
        refine ih (z + 1) _ (by omega) (Fr_sI f6 (tCp_1 (by omega) (by omega))) ((sI_ne (Or.inl (by decide))).trans a1) (fun u hu he => ?_)
        rw [sI_at]
        by_cases eu : u = z
        · rw [eu, if_pos ⟨rfl, rfl⟩]
        · rw [if_neg (fun z' => eu (hn_inj hm.1 h4' h2' (by omega) hz' he hev (by have := z'.2; omega)))]
          exact a3 u (by omega) he
      · rw [nI_1]
        refine ih (z + 1) M6 (by omega) f6 a1 (fun u hu he => a3 u ?_ he)
        have : u ≠ z := fun z' => h (by
          rw [z'] at he
          have q := of_decide_eq_true (show decide (dst m w (pVo m z) % 2 = 0) = true from he)
          rw [e5, fr2 hl, q]; rfl)
        omega
  · rw [e112] at h6
    have hE1 : pE m = 1 := (nI_eq (b := 1) (show m.1 < _ by omega) (by decide)).mp h6
    have elv : hlv m = (0, 0, id) := by unfold hlv; rw [if_pos hE1]
    have f7 : Fr (tCp i) M5 (sI (sI M5 112 i 0) 113 i 0) := Fr_sI (Fr_sI (Fr_refl _ _) tCp_p.1) tCp_p.2
    have f := Fr_trans (tMp_s (y := i) f5) (tMp_c f7)
    have hrd : rM (sI (sI M5 112 i 0) 113 i 0) i (hlv m) := by
      rw [elv]
      refine ⟨?_, ?_, fun u hu => absurd hu (Nat.not_lt_zero _)⟩
      · rw [sI_ne (Or.inl (by decide)), sI_eq]; rfl
      · rw [sI_eq]; rfl
    refine ⟨_, rfl, ?_, ok2 f hrd, tMp_R f⟩
    show (0 : Int32) = nI (pE (hlv m))
    rw [elv]; rfl
end RFP
