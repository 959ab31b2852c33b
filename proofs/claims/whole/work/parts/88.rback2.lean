/-! the reference: back, the walk and the call -/
theorem Wp_post {E : EN} {d : Nat} {μ : MR} {pc : Nat} {lv st : List Value} {M : ME} {R R' : Option Value → ME → Prop} (h : Wp E d μ pc lv st M R) (hr : ∀ v M', R v M' → R' v M') : Wp E d μ pc lv st M R' := by
  intro G l p e Rm s m args below meth c H locs cells slots Q ls C P S L K
  exact h G l p e Rm s m args below meth c H locs cells slots Q ls C P S L (fun v M' H' locs' pc' ls' r => K v M' H' locs' pc' ls' (hr v M' r))
theorem Fr_split {t u : Nat → Nat → Bool} {M M' : ME} (f : Fr (fun k j => t k j || u k j) M M') : ∃ Mi, Fr t M Mi ∧ Fr u Mi M' := by
  refine ⟨(fun k j => if t k j = true then M'.1 k j else M.1 k j, M.2), ⟨fun k j h => ?_, rfl⟩, ⟨fun k j h => ?_, f.2⟩⟩
  · show (if t k j = true then M'.1 k j else M.1 k j) = _
    rw [if_neg (by rw [h]; decide)]
  · show _ = (if t k j = true then M'.1 k j else M.1 k j)
    by_cases q : t k j = true
    · rw [if_pos q]
    · rw [if_neg q]
      refine f.1 k j ?_
      show (t k j || u k j) = false
      rw [h, Bool.or_false]
      cases w : t k j with
      | false => rfl
      | true => exact absurd w q
section RB2
variable {L : Nat} {xs : Nat → Int32} {d : Nat} {M : ME} {m : PMp} {w s ms ts : Nat}
theorem x_per (hm : PV m) {h : Nat} (hh : h < pN m) : ∃ p, (0 < p ∧ it (pX m) p h = h) ∧ ∀ e, 0 < e → e < p → it (pX m) e h ≠ h := by
  obtain ⟨p, p0, -, hp⟩ := period hm.2.1 hh
  obtain ⟨q, h1, h2⟩ := least_p (P := fun q => 0 < q ∧ it (pX m) q h = h) p ⟨p0, hp⟩
  exact ⟨q, h1, fun e e0 e1 z => h2 e e1 ⟨e0, z⟩⟩
theorem goes_ev (hms : ms < 5) (hts : ts < 3) (F : Fit4 m w) (T : TT (pN m) (pE m / 2) (pVn m) (Hd m w) (Uv m w) (rhM m w) (oe m w) (pVo m) (kpF m)) (hs : Hd m w s = true) : ∀ (k a : Nat) (M : ME), a < 2 * (pE m / 2) → chd (Hd m w) (oe m w) (pVo m) (pVo m s) (bkC m w s a) → pE m / 2 + 1 ≤ k + dl (Hd m w) (oe m w) (pVo m) (pVo m s) (pVo m (oe m w (bkC m w s a))) → GB m w ms ts M → GS m w s ts M (a + 1) → ∃ t, a < t ∧ t < 2 * (pE m / 2) ∧ bkC m w s t = oe m w (bkC m w s a) ∧ EvV (E0 L xs) (d + k + 1) m10_goes [.ref 110, .int (nI ms), .int (nI (pX m (oe m w (bkC m w s a)))), .int (nI (oe m w (bkC m w s a))), .int (nI (lv m w s)), .int 0] M (fun M' => Fr (tGo ts) M M' ∧ GS m w s ts M' t) := by
  have hm := F.1
  have hN := MV_N hm
  have R := tour T hs
  intro k
  induction k with
  | zero =>
    intro a M ha hc hk hB hG
    have hcH : Hd m w (bkC m w s a) = true := ph_H T hs a
    have := dl_n T hs (T.2.2.2.2.2.2.2.2.2.1 _ (oe_all F hcH).1)
    omega
  | succ k ih =>
    intro a M ha hc hk hB hG
    have hcH : Hd m w (bkC m w s a) = true := ph_H T hs a
    obtain ⟨o1, o2, o3, o4, o5⟩ := oe_all F hcH
    have hoN := (Hd_iff.mp o1).1
    have hdn : dnB m w (oe m w (bkC m w s a)) = true := dn_iff.mpr (Hd_iff.mp o1).2
    obtain ⟨t, t1, t2, t3, nest⟩ := R.2.2.2 a ha hc
    have t3' : bkC m w s t = oe m w (bkC m w s a) := t3
    refine ⟨t, t1, t2, t3', ?_⟩
    obtain ⟨p, ⟨p0, hp⟩, hmin⟩ := x_per hm hoN
    have hXN := hm.2.1.1 _ hoN
    have en : bkC m w s (a + 1) = rhM m w (oe m w (bkC m w s a)) := by
      unfold bkC; rw [it_succ']; rfl
    have V := vloop (L := L) (xs := xs) (d := d + k) (M := M) (h := oe m w (bkC m w s a)) (p := p) (B := t) (e0 := 1) (a0 := a + 1) (x2 := nI (pX m (oe m w (bkC m w s a)))) (x5 := 0) hms hts F T hs hB hoN hdn hp hmin (by omega) (fun e a' e1 _ e2 a1 a2 a3 => ?_) (fun a' M1 a1 a2 a3 a4 a5 a6 => ?_) (p - 1) 1 (a + 1) M (by omega) (Nat.le_refl _) (fun _ => rfl) (Nat.le_refl _) (fun z => absurd z (Nat.lt_irrefl _)) (by omega) (by rw [en]; exact ND_rh hm o1) (Fr_refl _ _) hG
    · have fin : Wp (E0 L xs) (d + (k + 1) + 1) m10_goes 20 [.ref 110, .int (nI ms), .int (nI (pX m (oe m w (bkC m w s a)))), .int (nI (oe m w (bkC m w s a))), .int (nI (lv m w s)), .int 0, .int (nI (pX m (oe m w (bkC m w s a)))), .int (if 1 = p then 0 else 1), .null] [] M (fun v' M' => v' = none ∧ (Fr (tGo ts) M M' ∧ GS m w s ts M' t)) := by
        refine Wp_post V (fun v' M' h => ?_)
        obtain ⟨h1, h2, a', a1, -, a3, a4, a5⟩ := h
        have : a' = t := tr_eq R (show a' < 2 * (pE m / 2) by omega) t2 (a4.trans t3'.symm)
        rw [this] at a5
        exact ⟨h1, h2, a5⟩
      refine Ev_of k10_goes rfl (Nat.le_of_ble_eq_true rfl) (b10_goes_0 (fun z => absurd rfl z) (fun _ => b10_goes_8 (fun z => b10_goes_17 (b10_goes_18 ?_)) (fun z => b10_goes_13 (b10_goes_18 ?_))))
      · have z' := (eq_i (by omega) (by omega)).mp z
        have : 1 = p := by
          by_cases w' : 1 = p
          · exact w'
          · exact absurd z' (hmin 1 (by omega) (by omega))
        rw [if_pos this] at fin
        exact fin
      · have : ¬ 1 = p := fun w' => z (by rw [← w'] at hp; exact congrArg nI hp)
        rw [if_neg this] at fin
        exact fin
    · have hne : bkC m w s a' ≠ oe m w (bkC m w s a) := by rw [a2]; exact hmin e (by omega) e2
      refine ⟨?_, ?_⟩
      · by_cases w' : a' = t
        · rw [w'] at hne; exact absurd t3' hne
        · omega
      · exact chd_at T hs hcH (ph_H T hs a') hc (by
          show pVo m (bkC m w s a') = _
          rw [a2]; exact it_vo hm hoN e) hne
    · have haN : a' < 2 * (pE m / 2) := by omega
      have hcH' : Hd m w (bkC m w s a') = true := ph_H T hs a'
      have hdl := chd_dl T hs hcH' a4
      rw [a3] at hdl
      obtain ⟨t', u1, u2, u3, u4⟩ := ih a' M1 haN a4 (by rw [hdl]; omega) a5 a6
      refine ⟨t', u1, ?_, u3, u4⟩
      obtain ⟨k', v1, v2, v3⟩ := nest a' (by omega) a2 a4
      have e1 : t' = k' := tr_eq R u2 (show k' < 2 * (pE m / 2) by omega) (u3.trans (v3 : bkC m w s k' = _).symm)
      have e2 : t' ≠ t := fun z => by
        rw [z, t3'] at u3
        have e3 : oe m w (oe m w (bkC m w s a)) = oe m w (oe m w (bkC m w s a')) := congrArg (oe m w) u3
        rw [o2, (oe_all F hcH').2.1] at e3
        have := tr_eq R ha haN e3
        omega
      omega
theorem goesRoot_ev (hms : ms < 5) (hts : ts < 3) (F : Fit4 m w) (T : TT (pN m) (pE m / 2) (pVn m) (Hd m w) (Uv m w) (rhM m w) (oe m w) (pVo m) (kpF m)) (hs : Hd m w s = true) (hn : 0 < pE m / 2) (hB : GB m w ms ts M) (hG : GS m w s ts M 0) : EvV (E0 L xs) (d + pE m / 2 + 2) m10_goes [.ref 110, .int (nI ms), .int (nI s), .int (nI s), .int (nI (lv m w s)), .int 1] M (fun M' => Fr (tGo ts) M M' ∧ GS m w s ts M' (2 * (pE m / 2))) := by
  have hm := F.1
  have hN := MV_N hm
  have R := tour T hs
  obtain ⟨hsN, hsl⟩ := Hd_iff.mp hs
  obtain ⟨p, ⟨p0, hp⟩, hmin⟩ := x_per hm hsN
  have hdn : dnB m w s = true := dn_iff.mpr hsl
  have V := vloop (L := L) (xs := xs) (d := d + pE m / 2) (M := M) (h := s) (p := p) (B := 2 * (pE m / 2)) (e0 := 0) (a0 := 0) (x2 := nI s) (x5 := 1) hms hts F T hs hB hsN hdn hp hmin (Nat.le_refl _) (fun e a' _ e1 e2 a1 a2 a3 => ?_) (fun a' M1 _ a2 a3 a4 a5 a6 => ?_) p 0 0 M (by omega) (Nat.le_refl _) (fun _ => rfl) (Nat.le_refl _) (fun z => absurd z (Nat.lt_irrefl _)) (by omega) ⟨0, rfl, fun j hj => absurd hj (Nat.not_lt_zero _), hdn⟩ (Fr_refl _ _) hG
  · rw [if_neg (show ¬ 0 = p by omega)] at V
    refine Ev_of k10_goes rfl (Nat.le_of_ble_eq_true rfl) (b10_goes_0 (fun _ => b10_goes_13 (b10_goes_18 (Wp_post V (fun v' M' h => ?_)))) (fun z => absurd z (by decide)))
    obtain ⟨h1, h2, a', -, a1, a3, a4, a5⟩ := h
    have a0 := a1 p0 hdn
    have : a' = 2 * (pE m / 2) := by
      by_cases w' : a' = 2 * (pE m / 2)
      · exact w'
      · exact absurd (show it (ph (rhM m w) (oe m w)) 0 s = it (ph (rhM m w) (oe m w)) a' s from a4.symm) (R.2.1 0 a' a0 (by omega))
    rw [this] at a5
    exact ⟨h1, h2, a5⟩
  · have hv : pVo m (bkC m w s a') = pVo m s := by rw [a2]; exact it_vo hm hsN e
    refine ⟨?_, chd_root T hs (ph_H T hs a') hv⟩
    by_cases w' : a' = 2 * (pE m / 2)
    · exfalso
      have e0 : bkC m w s a' = s := by rw [w']; exact R.1
      by_cases z : e = 0
      · have := e1 z
        omega
      · exact hmin e (by omega) e2 (a2.symm.trans e0)
    · omega
  · have hcH' : Hd m w (bkC m w s a') = true := ph_H T hs a'
    have hdl := chd_dl T hs hcH' a4
    rw [a3, dl_0] at hdl
    obtain ⟨t', u1, u2, u3, u4⟩ := goes_ev (L := L) (xs := xs) (d := d) hms hts F T hs (pE m / 2) a' M1 a2 a4 (by rw [hdl]; omega) a5 a6
    exact ⟨t', u1, by omega, u3, u4⟩
/-- a tree slot of the reference has changed, and its own rows -/
theorem RefS_bk {st : ST} {t : PTr} {M' : ME} (hs : ts < 3) (hok : StOK st) (hS : RefS M st) (f : Fr (fun k j => tSr k j || tTo ts k j) M M') (hr : rT M' ts t) : RefS M' (setT st ts t) := by
  obtain ⟨Mi, f1, f2⟩ := Fr_split f
  exact RefS_tr hs hok (RefS_sc (ok_PV hok) hS f1) f2 hr
theorem r_back {st : ST} (hS : RefS M st) (hok : StOK st) {x v y : Int32} : EvI (E0 L xs) (d + 11) m10_back [.ref 110, .int x, .int v, .int y] M (Ro M (oBack st x v y)) := by
  have no : ¬ (vp_in x 4 ∧ vp_in y 3) → Wp (E0 L xs) (d + 11) m10_back 21 [.ref 110, .int x, .int v, .int y, .null, .null] [] (sI M 110 0 0) (fun v' M' => ∃ r, v' = some (.int r) ∧ Ro M (oBack st x v y) r M') := fun h => b10_back_21 ⟨_, rfl, by rw [show oBack st x v y = (-1, st) from cIf_neg (fun q => h ⟨q.1, q.2.2.1⟩) _ _]; exact Ro_sc hok hS (tld M)⟩
  refine Ev_of k10_back rfl (Nat.le_of_ble_eq_true rfl) (b10_back_0 (fun h1 => b10_back_13 (fun h2 => ?_) (fun h => no (fun q => h q.2))) (fun h => no (fun q => h q.1)))
  obtain ⟨j, hj, rfl, ej⟩ := in_j h1 (by decide)
  obtain ⟨t, ht, rfl, et⟩ := in_j h2 (by decide)
  have hMV := hok.2.2 j hj
  have hj5 : j < 5 := by omega
  refine b10_back_23 (rlays (d := d + 8) hS hok hj) (fun M2 h3 => ?_)
  obtain ⟨f2, hr2, hl2⟩ := h3
  have no2 : ¬ (vp_in v (pVn (sM st j)) ∧ fit (sM st j) = true) → Wp (E0 L xs) (d + 11) m10_back 53 [.ref 110, .int (nI j), .int v, .int (nI t), .null, .null] [] M2 (fun v' M' => ∃ r, v' = some (.int r) ∧ Ro M (oBack st (nI j) v (nI t)) r M') := fun h => b10_back_53 ⟨_, rfl, by
    rw [show oBack st (nI j) v (nI t) = (-1, st) from cIf_neg (fun q => h (by rw [ej] at q; exact ⟨q.2.1, q.2.2.2⟩)) _ _]
    exact Ro_sc hok hS f2⟩
  refine b10_back_28 (isFit_ev (d := d + 9) hj5 hMV hr2 hl2) (fun r M3 hr => ?_)
  obtain ⟨rfl, rfl⟩ := hr
  have eo : vp_in v (pVn (sM st j)) → fit (sM st j) = true → oBack st (nI j) v (nI t) = ((if dnB (sM st j) v.toNatClampNeg (pR (sM st j)) = true then 0 else 1), setT st t (bkT (sM st j) v.toNatClampNeg (bkS (sM st j) v.toNatClampNeg))) := fun a b => by
    rw [show oBack st (nI j) v (nI t) = _ from cIf_pos ⟨h1, by rw [ej]; exact a, h2, by rw [ej]; exact b⟩ _ _, ej, et]
  have okS : ∀ {M' : ME} {tt : PTr}, Fr (fun k j => tSr k j || tTo t k j) M M' → rT M' t tt → RefS M' (setT st t tt) := fun f hr => RefS_bk ht hok hS f hr
  generalize sM st j = m at *
  obtain ⟨hm, hcn, hV⟩ := hMV
  have hN := MV_N hm
  have hE16 : m.1 ≤ 16 := hm.1
  have hVl := pVn_le hm
  have hVp := pVn_pos hm
  have e7 : gI M3 110 7 = nI (pVn m) := hl2.1
  have hi : (0 ≤ v.toInt64 ∧ v.toInt64 ≤ (gI M3 110 7).toInt64 - 1) ↔ vp_in v (pVn m) := in_iff (by
    rw [e7, nI_l2 (by omega), show (1 : Int64) = lN 1 from rfl, lN_subN (by omega), lN_toInt (by omega)]; omega)
  refine b10_back_33 (fun z => no2 (fun q => by rw [q.2] at z; exact absurd z (by decide))) (fun z => b10_back_36 (fun h3 => ?_) (fun h => no2 (fun q => h (hi.mpr q.1))))
  have hft : fit m = true := by
    cases q : fit m with
    | true => rfl
    | false => rw [q] at z; exact absurd rfl z
  have hv := hi.mp h3
  rw [eo hv hft]
  obtain ⟨u, hu, rfl, eu⟩ := in_j hv (by omega)
  rw [eu]
  have hK := BkI_of ⟨hm, hcn, hV⟩ hu hft
  have hE0 : 0 < m.1 := by have h2 : bkS m u < 2 * m.1 := hK.1; omega
  have hRt : pR m < pN m := by
    rcases hm.2.2 with h | h
    · exact h
    · omega
  have hoR : ox (pR m) < pN m := ox_lt hRt
  have tvl := bkT_ok hm hK
  refine b10_back_55 (laysFar_ev (d := d + 9) hj5 (by omega) hm hr2 hl2.1 hl2.2.2.1) (fun M4 h4 => ?_)
  obtain ⟨f4, d4⟩ := h4
  have f24 : Fr tSr M M4 := Fr_trans f2 (t117_sr f4)
  have hr4 : rM M4 j m := rM_fr hr2 f4 rfl rfl (fun _ _ => rfl)
  have v4 : ∀ x, x < pN m → gI M4 114 x = nI (pVo m x) := fun x hx => (f4.1 114 x rfl).trans (hl2.2.2.1 x hx)
  have p4 : ∀ x, x < pN m → M4.1 115 x = nI (pFo m x) := fun x hx => (f4.1 115 x rfl).trans (hl2.2.2.2.1 x hx)
  have row4 : rRow M4 m u := fun v' hv' => (d4 v' (by omega)).trans (dsV_conn hm hcn hu hv')
  have eR : gI M4 113 j = nI (pR m) := hr4.2.1
  have eRx : gI M4 113 j ^^^ 1 = nI (ox (pR m)) := by rw [eR]; exact nI_ox (by omega)
  have hSN : bkS m u < pN m := hK.1
  have fin : ∀ b : Int32, b = (if dnB m u (pR m) = true then 0 else 1) → Wp (E0 L xs) (d + 11) m10_back 103 [.ref 110, .int (nI j), .int (nI u), .int (nI t), .int b, .null] [.int (nI (bkS m u))] M4 (fun v' M' => ∃ r, v' = some (.int r) ∧ Ro M ((if dnB m u (pR m) = true then 0 else 1), setT st t (bkT m u (bkS m u))) r M') := fun b eb => by
    have e117 : gI M4 117 (pVo m (bkS m u)) = nI (lv m u (bkS m u)) := row4 _ (pVo_ltV hm hSN)
    have e112 : gI M4 112 j / 2 = nI (pE m / 2) := by rw [show gI M4 112 j = _ from hr4.1]; exact half_e (show pE m < 2 ^ 31 by show m.1 < _; omega)
    generalize hM5 : sI (sI (sI (sI (sI M4 110 18 (nI t)) 110 19 0) 110 20 0) 121 (9 * t) 0) 119 t (nI (pE m / 2)) = M5
    have fT : Fr (fun k i => tSr k i || tTo t k i) M M5 := by
      subst hM5
      refine Fr_sI (Fr_sI (Fr_sI (Fr_sI (Fr_sI (Fr_mono f24 (fun k i q => ?_)) rfl) rfl) rfl) ?_) ?_
      · have q2 : (tSr k i || tTo t k i) = false := q
        rw [Bool.or_eq_false_iff] at q2; exact q2.1
      · show (tSr 121 (9 * t) || tTo t 121 (9 * t)) = true
        rw [show tTo t 121 (9 * t) = true from bleb (by omega) (by omega)]; simp
      · show (tSr 119 t || tTo t 119 t) = true
        rw [show tTo t 119 t = true by show (t == t) = true; simp]; simp
    have k5 : ∀ k i, k ≠ 110 → k ≠ 119 → k ≠ 121 → M5.1 k i = M4.1 k i := fun k i a b c => by
      subst hM5
      rw [sI_ne (Or.inl b), sI_ne (Or.inl c), sI_ne (Or.inl a), sI_ne (Or.inl a), sI_ne (Or.inl a)]
    have b5 : GB m u j t M5 := by
      refine ⟨⟨(k5 _ _ (by decide) (by decide) (by decide)).trans hr4.1, (k5 _ _ (by decide) (by decide) (by decide)).trans hr4.2.1, fun x hx => (k5 _ _ (by decide) (by decide) (by decide)).trans (hr4.2.2 x hx)⟩, fun x hx => (k5 _ _ (by decide) (by decide) (by decide)).trans (v4 x hx), fun x hx => (k5 _ _ (by decide) (by decide) (by decide)).trans (p4 x hx), fun x hx => (k5 _ _ (by decide) (by decide) (by decide)).trans (row4 x hx), ?_⟩
      subst hM5
      rw [sI_ne (Or.inl (by decide)), sI_ne (Or.inl (by decide)), sI_ne (Or.inr (by decide)), sI_ne (Or.inr (by decide)), sI_eq]
    have g5 : GS m u (bkS m u) t M5 0 := by
      refine ⟨?_, ?_, fun j hj => absurd hj (Nat.not_lt_zero _), fun j hj => absurd hj (Nat.not_lt_zero _)⟩
      · subst hM5
        rw [sI_ne (Or.inl (by decide)), sI_ne (Or.inl (by decide)), sI_ne (Or.inr (by decide)), sI_eq]; rfl
      · subst hM5
        rw [sI_ne (Or.inl (by decide)), sI_ne (Or.inl (by decide)), sI_eq]; rfl
    have z121 : M5.1 121 (9 * t) = 0 := by subst hM5; rw [sI_ne (Or.inl (by decide)), sI_eq]
    have n119 : M5.1 119 t = nI (pE m / 2) := by subst hM5; exact sI_eq _ _ _ _
    have goev : EvV (E0 L xs) (d + 10) m10_goes [.ref 110, .int (nI j), .int (nI (bkS m u)), .int (nI (bkS m u)), .int (nI (lv m u (bkS m u))), .int 1] M5 (fun M' => Fr (tGo t) M5 M' ∧ GS m u (bkS m u) t M' (2 * (pE m / 2))) := by
      by_cases hn : 0 < pE m / 2
      · obtain ⟨F, T, hs⟩ := hK.2 hn
        have := goesRoot_ev (L := L) (xs := xs) (d := d + 8 - pE m / 2) hj5 ht F T hs hn b5 g5
        rw [show d + 8 - pE m / 2 + pE m / 2 + 2 = d + 10 by have : pE m / 2 ≤ 8 := (by show m.1 / 2 ≤ 8; omega); omega] at this
        exact this
      · have h1e : m.1 = 1 := by have : ¬ 0 < m.1 / 2 := hn; omega
        have hF1 : pFn m = 1 := by
          unfold fit at hft
          rw [Bool.or_eq_true] at hft
          rcases hft with h | h
          · have h1 := fr4_E hm h
            have h2 : pE m = 1 := h1e
            omega
          · rw [Bool.and_eq_true] at h
            exact of_decide_eq_true h.2
        have hX := one_edge hm h1e hF1 (bkS m u) (by have h2 : bkS m u < 2 * m.1 := hSN; omega)
        have e111 : gI M5 111 (32 * j + bkS m u) = nI (bkS m u) := by
          rw [show gI M5 111 (32 * j + bkS m u) = _ from b5.1.2.2 _ hSN, hX]
        have hoS : ox (bkS m u) < pN m := ox_lt hSN
        have e0 : 2 * (pE m / 2) = 0 := by omega
        rw [e0]
        have last : Wp (E0 L xs) (d + 10) m10_goes 168 [.ref 110, .int (nI j), .int (nI (bkS m u)), .int (nI (bkS m u)), .int (nI (lv m u (bkS m u))), .int 1, .int (nI (bkS m u)), .int 1, .null] [] M5 (fun v' M' => v' = none ∧ (Fr (tGo t) M5 M' ∧ GS m u (bkS m u) t M' 0)) := by
          refine b10_goes_168 (32 * j + bkS m u) (i32m _ _) (by omega) (fun _ => b10_goes_187 (b10_goes_188 (b10_goes_20 (fun _ => b10_goes_193 ⟨rfl, Fr_refl _ _, g5⟩) (fun z => absurd rfl z)))) (fun z => absurd e111 z)
        refine Ev_of k10_goes rfl (Nat.le_of_ble_eq_true rfl) (b10_goes_0 (fun _ => b10_goes_13 (b10_goes_18 (b10_goes_20 (fun z => absurd z (by decide)) (fun _ => b10_goes_25 (bkS m u) rfl (by omega) (pVo m (bkS m u)) (b5.2.1 _ hSN) (pVo_lt hm hSN) (ox (bkS m u)) (nI_ox (by omega)) (by omega) (pVo m (ox (bkS m u))) (b5.2.1 _ hoS) (pVo_lt hm hoS) (fun _ => b10_goes_34 j rfl hj5 (fun _ => last) (fun z => absurd ?_ z)) (fun _ => last))))) (fun z => absurd z (by decide)))
        rw [show gI M5 112 j = nI m.1 from b5.1.1, h1e]; decide
    refine b10_back_103 (9 * t) (pk_mul 9 _) (by omega) j rfl hj5 t rfl ht (bkS m u) rfl (by omega) (pVo m (bkS m u)) (v4 _ hSN) (pVo_lt hm hSN) (R' := fun M' => Fr (tGo t) M5 M' ∧ GS m u (bkS m u) t M' (2 * (pE m / 2))) (by rw [e117, e112, hM5]; exact goev) (fun M6 h6 => b10_back_166 ⟨_, rfl, eb, ?_, ?_⟩)
    · obtain ⟨f6, -, -, gs, gl⟩ := h6
      have f6' : Fr (fun k i => tSr k i || tTo t k i) M5 M6 := Fr_mono f6 (fun k i q => by
        have q2 : (tSr k i || tTo t k i) = false := q
        rw [Bool.or_eq_false_iff] at q2
        unfold tGo
        split
        · cases w1 : (i == 19) with
          | true =>
            have : i = 19 := by simpa using w1
            rw [this] at q2; exact absurd q2.1 (by decide)
          | false =>
            cases w2 : (i == 20) with
            | true =>
              have : i = 20 := by simpa using w2
              rw [this] at q2; exact absurd q2.1 (by decide)
            | false => rfl
        · exact q2.2
        · by_cases w1 : 9 * t + 1 ≤ i ∧ i ≤ 9 * t + 8
          · have : tTo t 121 i = true := bleb (by omega) (by omega)
            rw [this] at q2; exact absurd q2.2 (by decide)
          · exact bleb_f (by omega)
        · rfl)
      refine okS (Fr_trans fT f6') ⟨(f6.1 119 t rfl).trans n119, fun i hi => gs i hi, fun v hv => ?_⟩
      have hv' : v ≤ pE m / 2 := hv
      by_cases v0 : v = 0
      · rw [v0]
        show M6.1 121 (9 * t + 0) = 0
        rw [Nat.add_zero, f6.1 121 (9 * t) (bleb_f (by omega))]; exact z121
      · have hcn : v - 1 < cnB (bkU m u (bkS m u)) (2 * (pE m / 2)) := by
          have := Dyck_ups tvl.1.2.1
          have e : ups (stJ (rhM m u) (oe m u) (kpF m) (bkS m u)) (2 * (pE m / 2)) = pE m / 2 := this
          rw [ups_c] at e
          have e' : cnB (bkU m u (bkS m u)) (2 * (pE m / 2)) = pE m / 2 := e
          omega
        obtain ⟨i, j1, j2, j3⟩ := cn_hit hcn
        have ev : v = cnB (bkU m u (bkS m u)) i + 1 := by omega
        rw [ev, gl i j1 j2]
        exact (lbJ_at (lev := lv m u) j1 j2).symm
    · have f56 : FrR M5 M6 := FrR_of h6.1 (fun k i hk => by
        unfold tGo
        split
        all_goals first | omega | rfl)
      have f45 : FrR M M5 := FrR_of fT (fun k i hk => by
        show (tSr k i || tTo t k i) = false
        rw [tSr_f hk]
        unfold tTo
        split
        all_goals first | omega | rfl)
      exact FrR_trans f45 f56
  refine b10_back_61 j rfl hj5 (pR m) eR (by omega) (pVo m (pR m)) (v4 _ hRt) (pVo_lt hm hRt) (ox (pR m)) eRx (by omega) (pVo m (ox (pR m))) (v4 _ hoR) (pVo_lt hm hoR) (fun z => b10_back_74 (b10_back_79 (fun z => absurd rfl z) (fun _ => b10_back_86 j rfl hj5 ?_))) (fun z => b10_back_78 (b10_back_79 (fun _ => b10_back_95 j rfl hj5 ?_) (fun z => absurd z (by decide))))
  · have hdn : dnB m u (pR m) = true := Classical.byContradiction fun z' => z ((rdn_le hm row4 hRt).mpr z')
    rw [eR, show nI (pR m) = nI (bkS m u) by rw [show bkS m u = pR m from if_pos hdn]]
    exact fin 0 (by rw [if_pos hdn])
  · have hnd := (rdn_le hm row4 hRt).mp z
    rw [eRx, show nI (ox (pR m)) = nI (bkS m u) by rw [show bkS m u = ox (pR m) from if_neg hnd]]
    exact fin 1 (by rw [if_neg hnd])
end RB2
