/-! the reference: a map made of another -/
section RFO
variable {L : Nat} {xs : Nat → Int32} {d : Nat} {M : ME} {st : ST}
def tMp (y : Nat) (k j : Nat) : Bool := tSr k j || tCp y k j
theorem tMp_s {y : Nat} {M' : ME} (f : Fr tSr M M') : Fr (tMp y) M M' := Fr_mono f (fun k j q => by
  have q2 : (tSr k j || tCp y k j) = false := q
  rw [Bool.or_eq_false_iff] at q2; exact q2.1)
theorem tMp_c {y : Nat} {M' : ME} (f : Fr (tCp y) M M') : Fr (tMp y) M M' := Fr_mono f (fun k j q => by
  have q2 : (tSr k j || tCp y k j) = false := q
  rw [Bool.or_eq_false_iff] at q2; exact q2.2)
theorem tMp_R {y : Nat} {M' : ME} (f : Fr (tMp y) M M') : FrR M M' := FrR_of f (fun k j hk => by
  show (tSr k j || tCp y k j) = false
  rw [tSr_f hk, tCp_f (by omega)]; rfl)
theorem tMp_f {y k j : Nat} (h : tSr k j = false) (h2 : tCp y k j = false) : tMp y k j = false := by
  show (tSr k j || tCp y k j) = false
  rw [h, h2]; rfl
/-- a map slot of the reference has changed -/
theorem RefS_mp {y : Nat} {m' : PMp} {M' : ME} (hy : y < 4) (hok : StOK st) (hS : RefS M st) (f : Fr (tMp y) M M') (hr : rM M' y m') : RefS M' (setM st y m') := by
  obtain ⟨h1, h2, ⟨h3, h4, h5⟩, h6, h7⟩ := hS
  have hN : ∀ i, i < 4 → pN (sM st i) ≤ 32 := fun i hi => MV_N (ok_PV hok i hi)
  have e : ∀ k j, tSr k j = false → (k ≠ 111 ∧ k ≠ 112 ∧ k ≠ 113) → M'.1 k j = M.1 k j := fun k j q1 q2 => f.1 k j (tMp_f q1 (tCp_f q2))
  refine ⟨(e _ _ rfl (by decide)).trans h1, fun i hi => (e _ _ rfl (by decide)).trans (h2 i hi), ⟨(e _ _ rfl (by decide)).trans h3, (e _ _ rfl (by decide)).trans h4, ?_⟩, fun s hs => ?_, fun s hs => ?_⟩
  · rw [e 110 30 rfl (by decide), e 110 27 rfl (by decide), e 110 28 rfl (by decide), e 110 29 rfl (by decide), e 110 17 rfl (by decide)]; exact h5
  · exact rT_fr (h6 s hs) f (tMp_f rfl (tCp_f (by decide))) (fun _ _ => tMp_f rfl (tCp_f (by decide))) (fun _ _ => tMp_f rfl (tCp_f (by decide)))
  · show rM M' s (if s = y then m' else sM st s)
    by_cases q : s = y
    · rw [if_pos q, q]; exact hr
    · rw [if_neg q]
      have b1 : (s == 4) = false := by simp; omega
      have hNs := hN s hs
      refine rM_fr (h7 s hs) f (tMp_f b1 (tCp_q q).1) (tMp_f b1 (tCp_q q).2) (fun x hx => tMp_f ?_ (tCp_o q (by omega)))
      show Nat.ble 128 (32 * s + x) = false
      cases w : Nat.ble 128 (32 * s + x) with
      | false => rfl
      | true => have := Nat.le_of_ble_eq_true w; omega
theorem rM4_cp {y : Nat} {m : PMp} {M' : ME} (hN : pN m ≤ 32) (hy : y < 4) (h : rM M 4 m) (f : Fr (tCp y) M M') : rM M' 4 m := rM_cp hN h (by omega) f
theorem mirrors_ev {s y : Nat} {m : PMp} (hs : s < 4) (hy : y < 4) (hm : PV m) (hr : rM M s m) : EvV (E0 L xs) (d + 2) m10_mirrors [.ref 110, .int (nI s), .int (nI y)] M (fun M' => Fr (tMp y) M M' ∧ rM M' y (mir m)) := by
  have hN := MV_N hm
  refine Ev_of k10_mirrors rfl (Nat.le_of_ble_eq_true rfl) (b10_mirrors_0 (copies_ev (d := d) (t := 4) (by omega) (by decide) hm hr) (fun M2 h2 => b10_mirrors_6 4 rfl (by decide) y rfl (by omega) 4 rfl (by decide) y rfl (by omega) ?_))
  have f2 : Fr (tMp y) M M2 := tMp_s (tCp_sr h2.1)
  have f0 : Fr (tCp y) M2 (sI (sI M2 112 y (gI M2 112 4)) 113 y (gI M2 113 4)) := Fr_sI (Fr_sI (Fr_refl _ _) tCp_p.1) tCp_p.2
  suffices hloop : ∀ (q z : Nat) (M3 : ME), z + q = pN m → Fr (tCp y) M2 M3 → M3.1 112 y = nI (pE m) → M3.1 113 y = nI (pR m) → (∀ u, u < z → M3.1 111 (32 * y + pX m u) = nI u) → Wp (E0 L xs) (d + 2) m10_mirrors 32 [.ref 110, .int (nI s), .int (nI y), .int (nI z)] [] M3 (fun v' M' => v' = none ∧ (Fr (tMp y) M M' ∧ rM M' y (mir m))) by
    refine hloop (pN m) 0 _ (by omega) f0 ?_ ?_ (fun u hu => absurd hu (Nat.not_lt_zero _))
    · rw [sI_ne (Or.inl (by decide)), sI_eq]; exact h2.2.1
    · rw [sI_eq]; exact h2.2.2.1
  intro q
  induction q with
  | zero =>
    intro z M3 hz f3 a1 a2 a3
    have : z = pN m := by omega
    subst this
    have h4 := rM4_cp hN hy h2.2 f3
    have e2 : 2 * gI M3 112 4 = nI (pN m) := by rw [show gI M3 112 4 = _ from h4.1]; exact pk_mul 2 _
    refine b10_mirrors_32 4 rfl (by decide) (fun _ => b10_mirrors_59 ⟨rfl, Fr_trans f2 (tMp_c f3), a1, a2, fun u hu => ?_⟩) (fun h => absurd (by rw [e2]; exact nI_le (Nat.le_refl _) (by omega)) h)
    obtain ⟨v, hv, rfl⟩ := perm_sur hm.2.1 (show u < pN m from hu)
    rw [a3 v hv]
    show _ = nI (ivF (pX m) (pN m) (pX m v))
    rw [iv_l hm.2.1 hv]
  | succ q ih =>
    intro z M3 hz f3 a1 a2 a3
    have h4 := rM4_cp hN hy h2.2 f3
    have hz' : z < pN m := by omega
    have hX := hm.2.1.1 z hz'
    have e2 : 2 * gI M3 112 4 = nI (pN m) := by rw [show gI M3 112 4 = _ from h4.1]; exact pk_mul 2 _
    have e3 : gI M3 111 (32 * 4 + z) = nI (pX m z) := h4.2.2 z hz'
    refine b10_mirrors_32 4 rfl (by decide) (fun h => absurd ((nI_leI (a := pN m) (b := z) (by omega) (by omega)).mp (by rw [← e2]; exact h)) (by omega)) (fun _ => b10_mirrors_41 (32 * 4 + z) (i32m 4 z) (by omega) (32 * y + pX m z) (by rw [e3]; exact i32m y _) (by omega) ?_)
    rw [nI_1]
    refine ih (z + 1) _ (by omega) (Fr_sI f3 (tCp_1 (by omega) (by omega))) ((sI_ne (Or.inl (by decide))).trans a1) ((sI_ne (Or.inl (by decide))).trans a2) (fun u hu => ?_)
    rw [sI_at]
    by_cases e : u = z
    · rw [e, if_pos ⟨rfl, rfl⟩]
    · rw [if_neg (fun z' => e (hm.2.1.2 u z (by omega) hz' (by have := z'.2; omega)))]
      exact a3 u (by omega)
theorem rdual_ev {s y : Nat} {m : PMp} (hs : s < 4) (hy : y < 4) (hm : PV m) (hr : rM M s m) : EvV (E0 L xs) (d + 2) m10_dual [.ref 110, .int (nI s), .int (nI y)] M (fun M' => Fr (tMp y) M M' ∧ rM M' y (dual m)) := by
  have hN := MV_N hm
  refine Ev_of k10_dual rfl (Nat.le_of_ble_eq_true rfl) (b10_dual_0 (copies_ev (d := d) (t := 4) (by omega) (by decide) hm hr) (fun M2 h2 => b10_dual_6 4 rfl (by decide) y rfl (by omega) 4 rfl (by decide) y rfl (by omega) ?_))
  have f2 : Fr (tMp y) M M2 := tMp_s (tCp_sr h2.1)
  have f0 : Fr (tCp y) M2 (sI (sI M2 112 y (gI M2 112 4)) 113 y (gI M2 113 4)) := Fr_sI (Fr_sI (Fr_refl _ _) tCp_p.1) tCp_p.2
  suffices hloop : ∀ (q z : Nat) (M3 : ME), z + q = pN m → Fr (tCp y) M2 M3 → M3.1 112 y = nI (pE m) → M3.1 113 y = nI (pR m) → (∀ u, u < z → M3.1 111 (32 * y + u) = nI (pF m u)) → Wp (E0 L xs) (d + 2) m10_dual 32 [.ref 110, .int (nI s), .int (nI y), .int (nI z)] [] M3 (fun v' M' => v' = none ∧ (Fr (tMp y) M M' ∧ rM M' y (dual m))) by
    refine hloop (pN m) 0 _ (by omega) f0 ?_ ?_ (fun u hu => absurd hu (Nat.not_lt_zero _))
    · rw [sI_ne (Or.inl (by decide)), sI_eq]; exact h2.2.1
    · rw [sI_eq]; exact h2.2.2.1
  intro q
  induction q with
  | zero =>
    intro z M3 hz f3 a1 a2 a3
    have : z = pN m := by omega
    subst this
    have h4 := rM4_cp hN hy h2.2 f3
    have e2 : 2 * gI M3 112 4 = nI (pN m) := by rw [show gI M3 112 4 = _ from h4.1]; exact pk_mul 2 _
    exact b10_dual_32 4 rfl (by decide) (fun _ => b10_dual_59 ⟨rfl, Fr_trans f2 (tMp_c f3), a1, a2, a3⟩) (fun h => absurd (by rw [e2]; exact nI_le (Nat.le_refl _) (by omega)) h)
  | succ q ih =>
    intro z M3 hz f3 a1 a2 a3
    have h4 := rM4_cp hN hy h2.2 f3
    have hz' : z < pN m := by omega
    have hox := ox_lt (n := m.1) hz'
    have hox' : ox z < pN m := hox
    have e2 : 2 * gI M3 112 4 = nI (pN m) := by rw [show gI M3 112 4 = _ from h4.1]; exact pk_mul 2 _
    have e3 : gI M3 111 (32 * 4 + ox z) = nI (pF m z) := h4.2.2 (ox z) hox
    refine b10_dual_32 4 rfl (by decide) (fun h => absurd ((nI_leI (a := pN m) (b := z) (by omega) (by omega)).mp (by rw [← e2]; exact h)) (by omega)) (fun _ => b10_dual_41 (32 * 4 + ox z) (by rw [nI_ox (by omega)]; exact i32m 4 _) (by omega) (32 * y + z) (i32m y z) (by omega) ?_)
    rw [nI_1, e3]
    refine ih (z + 1) _ (by omega) (Fr_sI f3 (tCp_1 (by omega) (by omega))) ((sI_ne (Or.inl (by decide))).trans a1) ((sI_ne (Or.inl (by decide))).trans a2) (fun u hu => ?_)
    rw [sI_at]
    by_cases e : u = z
    · rw [e, if_pos ⟨rfl, rfl⟩]
    · rw [if_neg (fun z' => e (by have := z'.2; omega))]
      exact a3 u (by omega)
theorem byCode_ev {s y : Nat} {m : PMp} (hs : s < 4) (hy : y < 4) (hm : PV m) (hc : Conn m) (hr : rM M s m) : EvV (E0 L xs) (d + 2) m10_byCode [.ref 110, .int (nI s), .int (nI y)] M (fun M' => Fr (tMp y) M M' ∧ rM M' y (cdM m)) := by
  have hN := MV_N hm
  have e1 : gI M 113 s = nI (pR m) := hr.2.1
  refine Ev_of k10_byCode rfl (Nat.le_of_ble_eq_true rfl) (b10_byCode_0 (R' := fun M' => Fr (tCd 0) M M' ∧ (0 < pE m → ∀ i, i < (cdL m (pR m)).length → M'.1 128 (32 * 0 + i) = cdV m (pR m) i)) s rfl (by omega) (by rw [e1]; exact laysCode_ev (d := d) (r := 0) (by omega) (by decide) hm hr (rt_lt hm)) (fun M2 h2 => b10_byCode_12 s rfl (by omega) y rfl (by omega) y rfl (by omega) ?_))
  have f2 : Fr (tMp y) M M2 := tMp_s (tCd_sr h2.1)
  have hcd : ∀ i, i < pN m → M2.1 128 i = nI (cdN m (pR m) i) := fun i hi => by
    have hE : 0 < pE m := by have : i < 2 * m.1 := hi; show 0 < m.1; omega
    have hr : pR m < pN m := by rcases rt_lt hm with q | q; exact q; omega
    have := h2.2 hE i (by rw [cdL_len hm hc hr]; exact hi)
    rw [Nat.mul_zero, Nat.zero_add, cdV_N hm hc hr hi] at this
    exact this
  have f0 : Fr (tCp y) M2 (sI (sI M2 112 y (gI M2 112 s)) 113 y 0) := Fr_sI (Fr_sI (Fr_refl _ _) tCp_p.1) tCp_p.2
  suffices hloop : ∀ (q z : Nat) (M3 : ME), z + q = pN m → Fr (tCp y) M2 M3 → M3.1 112 y = nI (pE m) → M3.1 113 y = 0 → (∀ u, u < z → M3.1 111 (32 * y + u) = nI (cdN m (pR m) u)) → Wp (E0 L xs) (d + 2) m10_byCode 33 [.ref 110, .int (nI s), .int (nI y), .int (nI z)] [] M3 (fun v' M' => v' = none ∧ (Fr (tMp y) M M' ∧ rM M' y (cdM m))) by
    refine hloop (pN m) 0 _ (by omega) f0 ?_ (sI_eq _ _ _ _) (fun u hu => absurd hu (Nat.not_lt_zero _))
    rw [sI_ne (Or.inl (by decide)), sI_eq]
    exact (rM_cd hr h2.1).1
  intro q
  induction q with
  | zero =>
    intro z M3 hz f3 a1 a2 a3
    have : z = pN m := by omega
    subst this
    have e2 : 2 * gI M3 112 y = nI (pN m) := by rw [show gI M3 112 y = _ from a1]; exact pk_mul 2 _
    exact b10_byCode_33 y rfl (by omega) (fun _ => b10_byCode_60 ⟨rfl, Fr_trans f2 (tMp_c f3), a1, a2, a3⟩) (fun h => absurd (by rw [e2]; exact nI_le (Nat.le_refl _) (by omega)) h)
  | succ q ih =>
    intro z M3 hz f3 a1 a2 a3
    have hz' : z < pN m := by omega
    have e2 : 2 * gI M3 112 y = nI (pN m) := by rw [show gI M3 112 y = _ from a1]; exact pk_mul 2 _
    have e3 : gI M3 128 z = nI (cdN m (pR m) z) := (f3.1 128 z (tCp_f (by decide))).trans (hcd z hz')
    refine b10_byCode_33 y rfl (by omega) (fun h => absurd ((nI_leI (a := pN m) (b := z) (by omega) (by omega)).mp (by rw [← e2]; exact h)) (by omega)) (fun _ => b10_byCode_42 z rfl (by omega) (32 * y + z) (i32m y z) (by omega) ?_)
    rw [nI_1, e3]
    refine ih (z + 1) _ (by omega) (Fr_sI f3 (tCp_1 (by omega) (by omega))) ((sI_ne (Or.inl (by decide))).trans a1) ((sI_ne (Or.inl (by decide))).trans a2) (fun u hu => ?_)
    rw [sI_at]
    by_cases e : u = z
    · rw [e, if_pos ⟨rfl, rfl⟩]
    · rw [if_neg (fun z' => e (by have := z'.2; omega))]
      exact a3 u (by omega)
theorem half_eq {x e : Nat} (hx : x < 2 ^ 30) (he : e < 2 ^ 30) : nI x / 2 = nI e ↔ x / 2 = e := by
  rw [show nI x / 2 = nI (x / 2) from pk_div (d := 2) (by omega) (by decide) (by decide), nI_eq (by omega) (by omega)]
theorem anew_ev {x e : Nat} (hx : x < 32) (he : e < 16) (hne : x / 2 ≠ e) : EvI (E0 L xs) d m10_anew [.ref 110, .int (nI x), .int (nI e)] M (fun r M' => r = nI (wo e x) ∧ M' = M) := by
  have e2 : nI x / 2 = nI (x / 2) := pk_div (d := 2) (by omega) (by decide) (by decide)
  refine Ev_of k10_anew rfl (Nat.le_of_ble_eq_true rfl) (b10_anew_0 (fun h => b10_anew_13 (b10_anew_14 ⟨_, rfl, ?_, rfl⟩)) (fun h => b10_anew_7 (b10_anew_14 ⟨_, rfl, ?_, rfl⟩)))
  · rw [e2] at h
    have := (nI_leI (by omega) (by omega)).mp h
    unfold wo; rw [if_neg (by omega)]
  · rw [e2] at h
    have := mt (nI_leI (a := x / 2) (b := e) (by omega) (by omega)).mpr h
    unfold wo; rw [if_pos (by omega)]
    exact i_sub (b := 2) (by omega)
theorem staysBehind_ev {x e : Nat} {m : PMp} (hm : PV m) (hr : rM M 4 m) (hx : x < pN m) (he : e < 16) (hs : skp m e x / 2 ≠ e) : EvI (E0 L xs) (d + 1) m10_staysBehind [.ref 110, .int (nI x), .int (nI e)] M (fun r M' => r = nI (skp m e x) ∧ M' = M) := by
  have hN := MV_N hm
  have g := hm.2.1.1
  have X : ∀ y, y < pN m → gI M 111 (32 * 4 + y) = nI (pX m y) := hr.2.2
  have l1 := g _ hx
  have l2 := g _ l1
  have l3 := g _ l2
  have ls := skp_lt hm (e := e) hx
  have fin : ∀ k, Wp (E0 L xs) (d + 1) m10_staysBehind 36 [.ref 110, .int (nI x), .int (nI e), .int (nI (skp m e x)), .int k] [] M (fun v M' => ∃ r, v = some (.int r) ∧ (r = nI (skp m e x) ∧ M' = M)) := fun k => b10_staysBehind_36 (fun _ => b10_staysBehind_47 (b10_staysBehind_48 ⟨_, rfl, rfl, rfl⟩)) (fun h => absurd ((half_eq (by omega) (by omega)).mp h) hs)
  refine Ev_of k10_staysBehind rfl (Nat.le_of_ble_eq_true rfl) (b10_staysBehind_0 (32 * 4 + x) (i32m 4 x) (by omega) ?_)
  rw [X x hx]
  refine b10_staysBehind_10 (fun h => absurd h (by decide)) (fun _ => b10_staysBehind_16 (fun h => b10_staysBehind_30 ?_) (fun h => b10_staysBehind_23 (32 * 4 + pX m x) (i32m 4 _) (by omega) (b10_staysBehind_30 ?_)))
  · have h1 : ¬ pX m x / 2 = e := fun z => h ((half_eq (by omega) (by omega)).mpr z)
    have e1 : skp m e x = pX m x := by unfold skp; rw [if_neg h1]
    refine b10_staysBehind_10 (fun h => absurd h (by decide)) (fun _ => b10_staysBehind_16 (fun h => b10_staysBehind_30 (b10_staysBehind_10 (fun _ => ?_) (fun h => absurd (by decide) h))) (fun h => absurd ((half_eq (by omega) (by omega)).mp h) h1))
    rw [← e1]; exact fin _
  · have h1 := (half_eq (by omega) (by omega)).mp h
    rw [X _ l1]
    refine b10_staysBehind_10 (fun h => absurd h (by decide)) (fun _ => b10_staysBehind_16 (fun h => b10_staysBehind_30 (b10_staysBehind_10 (fun _ => ?_) (fun h => absurd (by decide) h))) (fun h => b10_staysBehind_23 (32 * 4 + pX m (pX m x)) (i32m 4 _) (by omega) (b10_staysBehind_30 (b10_staysBehind_10 (fun _ => ?_) (fun h => absurd (by decide) h)))))
    · have h2 : ¬ pX m (pX m x) / 2 = e := fun z => h ((half_eq (by omega) (by omega)).mpr z)
      have e1 : skp m e x = pX m (pX m x) := by unfold skp; rw [if_pos h1, if_neg h2]
      rw [← e1]; exact fin _
    · have h2 := (half_eq (by omega) (by omega)).mp h
      have e1 : skp m e x = pX m (pX m (pX m x)) := by unfold skp; rw [if_pos h1, if_pos h2]
      rw [X _ l2, ← e1]; exact fin _
/-- when the root's edge goes and no other stays behind: the map without an edge -/
theorem staysAny_ev {x e : Nat} {m : PMp} (hm : PV m) (hr : rM M 4 m) (hx : x < pN m) (he : e < 16) : EvI (E0 L xs) (d + 1) m10_staysBehind [.ref 110, .int (nI x), .int (nI e)] M (fun r M' => M' = M) := by
  have hN := MV_N hm
  have g := hm.2.1.1
  have X : ∀ y, y < pN m → gI M 111 (32 * 4 + y) = nI (pX m y) := hr.2.2
  have fin : ∀ k y, Wp (E0 L xs) (d + 1) m10_staysBehind 36 [.ref 110, .int (nI x), .int (nI e), .int y, .int k] [] M (fun v M' => ∃ r, v = some (.int r) ∧ (M' = M)) := fun k y => b10_staysBehind_36 (fun _ => b10_staysBehind_47 (b10_staysBehind_48 ⟨_, rfl, rfl⟩)) (fun h => b10_staysBehind_43 (b10_staysBehind_48 ⟨_, rfl, rfl⟩))
  have l1 := g _ hx
  have two : ∀ y, y < pN m → Wp (E0 L xs) (d + 1) m10_staysBehind 10 [.ref 110, .int (nI x), .int (nI e), .int (nI y), .int (0 + 1)] [] M (fun v M' => ∃ r, v = some (.int r) ∧ (M' = M)) := fun y hy => b10_staysBehind_10 (fun h => absurd h (by decide)) (fun _ => b10_staysBehind_16 (fun h => b10_staysBehind_30 (b10_staysBehind_10 (fun _ => fin _ _) (fun h => absurd (by decide) h))) (fun h => b10_staysBehind_23 (32 * 4 + y) (i32m 4 _) (by omega) (b10_staysBehind_30 (b10_staysBehind_10 (fun _ => fin _ _) (fun h => absurd (by decide) h)))))
  refine Ev_of k10_staysBehind rfl (Nat.le_of_ble_eq_true rfl) (b10_staysBehind_0 (32 * 4 + x) (i32m 4 x) (by omega) ?_)
  rw [X x hx]
  refine b10_staysBehind_10 (fun h => absurd h (by decide)) (fun _ => b10_staysBehind_16 (fun h => b10_staysBehind_30 (two _ l1)) (fun h => b10_staysBehind_23 (32 * 4 + pX m x) (i32m 4 _) (by omega) (b10_staysBehind_30 ?_)))
  rw [X _ l1]
  exact two _ (g _ l1)
theorem without_ev {s y x : Nat} {m : PMp} (hs : s < 4) (hy : y < 4) (hm : PV m) (hc : Conn m) (hr : rM M s m) (hx : x < pN m) (hf : pFo m x ≠ pFo m (ox x)) : EvV (E0 L xs) (d + 2) m10_without [.ref 110, .int (nI s), .int (nI (x / 2)), .int (nI y)] M (fun M' => Fr (tMp y) M M' ∧ rM M' y (del m (x / 2))) := by
  have hN := MV_N hm
  have hx' : x < 2 * m.1 := hx
  have hE16 : m.1 ≤ 16 := hm.1
  have he : x / 2 < 16 := by omega
  refine Ev_of k10_without rfl (Nat.le_of_ble_eq_true rfl) (b10_without_0 (copies_ev (d := d) (t := 4) (by omega) (by decide) hm hr) (fun M2 h2 => b10_without_6 4 rfl (by decide) y rfl (by omega) ?_))
  have f2 : Fr (tMp y) M M2 := tMp_s (tCp_sr h2.1)
  have eE : gI M2 112 4 - 1 = nI (m.1 - 1) := by rw [show gI M2 112 4 = nI m.1 from h2.2.1]; exact i_sub (b := 1) (by omega)
  have f0 : Fr (tCp y) M2 (sI M2 112 y (gI M2 112 4 - 1)) := Fr_sI (Fr_refl _ _) tCp_p.1
  have hr' : m.2.1 < pN m := by
    rcases hm.2.2 with q | q
    · exact q
    · omega
  suffices hloop : ∀ (q z : Nat) (M3 : ME), z + q = pN m → Fr (tCp y) M2 M3 → M3.1 112 y = nI (m.1 - 1) → (∀ u, u < z → u / 2 ≠ x / 2 → M3.1 111 (32 * y + wo (x / 2) u) = nI (wo (x / 2) (skp m (x / 2) u))) → Wp (E0 L xs) (d + 2) m10_without 23 [.ref 110, .int (nI s), .int (nI (x / 2)), .int (nI y), .int (nI z)] [] M3 (fun v' M' => v' = none ∧ (Fr (tMp y) M M' ∧ rM M' y (del m (x / 2)))) by
    refine hloop (pN m) 0 _ (by omega) f0 ?_ (fun u hu => absurd hu (Nat.not_lt_zero _))
    rw [sI_eq]; exact eE
  intro q
  induction q with
  | zero =>
    intro z M3 hz f3 a1 a3
    have : z = pN m := by omega
    subst this
    have h4 := rM4_cp hN hy h2.2 f3
    have e2 : 2 * gI M3 112 4 = nI (pN m) := by rw [show gI M3 112 4 = _ from h4.1]; exact pk_mul 2 _
    have er : gI M3 113 4 = nI m.2.1 := h4.2.1
    have eY : gI M3 112 y = nI (m.1 - 1) := a1
    have fin : ∀ r : Nat, r = (del m (x / 2)).2.1 → ∃ R', (Fr (tMp y) M (sI M3 113 y (nI r)) ∧ rM (sI M3 113 y (nI r)) y (del m (x / 2))) = R' ∧ R' := fun r hre => ⟨_, rfl, Fr_trans f2 (tMp_c (Fr_sI f3 tCp_p.2)), (sI_ne (Or.inl (by decide))).trans a1, by rw [sI_eq, hre], fun u hu => by
      rw [sI_ne (Or.inl (by decide))]
      have := a3 (wi (x / 2) u) (wi_lt hu) (wi_ne _ _)
      rw [wo_wi] at this
      exact this⟩
    -- the root
    have last : ∀ (s0 : Int32), (m.1 ≠ 1 → ∃ r0, r0 < pN m ∧ s0 = nI r0 ∧ r0 / 2 ≠ x / 2 ∧ wo (x / 2) r0 = (del m (x / 2)).2.1) → Wp (E0 L xs) (d + 2) m10_without 103 [.ref 110, .int (nI s), .int (nI (x / 2)), .int (nI y), .int (nI (pN m))] [.int s0] M3 (fun v' M' => v' = none ∧ (Fr (tMp y) M M' ∧ rM M' y (del m (x / 2)))) := by
      intro s0 hs0
      refine b10_without_103 y rfl (by omega) (fun h => ?_) (fun h => b10_without_119 (b10_without_130 rfl (by decide) y rfl (by omega) ⟨rfl, ?_⟩))
      · rw [eY] at h
        have h1 : m.1 ≠ 1 := fun z => h (by rw [z]; rfl)
        obtain ⟨r0, b1, rfl, b2, b3⟩ := hs0 h1
        refine b10_without_123 (anew_ev (d := d + 1) (by omega) he b2) (fun r M5 hr5 => ?_)
        obtain ⟨rfl, rfl⟩ := hr5
        refine b10_without_130 rfl (by decide) y rfl (by omega) ⟨rfl, ?_⟩
        obtain ⟨_, rfl, hR⟩ := fin _ b3
        exact hR
      · rw [eY] at h
        have h1 : m.1 - 1 = 0 := (nI_eq (b := 0) (by omega) (by decide)).mp h
        obtain ⟨_, rfl, hR⟩ := fin 0 (by show 0 = if m.1 = 1 then 0 else _; rw [if_pos (by omega)])
        exact hR
    have hde : m.1 ≠ 1 → ∀ r0, r0 = (if m.2.1 / 2 = x / 2 then skp m (x / 2) m.2.1 else m.2.1) → wo (x / 2) r0 = (del m (x / 2)).2.1 := fun h1 r0 h0 => by
      show _ = if m.1 = 1 then 0 else _
      rw [if_neg h1, h0]
    refine b10_without_23 4 rfl (by decide) (fun _ => b10_without_71 4 rfl (by decide) (fun h => b10_without_97 4 rfl (by decide) ?_) (fun h => ?_)) (fun h => absurd (by rw [e2]; exact nI_le (Nat.le_refl _) (by omega)) h)
    · rw [er, half_eq (by omega) (by omega)] at h
      rw [er]
      exact last _ (fun h1 => ⟨m.2.1, hr', rfl, h, hde h1 _ (by rw [if_neg h])⟩)
    · rw [er, half_eq (by omega) (by omega)] at h
      by_cases h1 : m.1 = 1
      · refine b10_without_83 (R' := fun r M' => M' = M3) 4 rfl (by decide) (by rw [er]; exact staysAny_ev (d := d) hm h4 hr' he) (fun r M5 hr5 => ?_)
        subst hr5
        exact b10_without_94 (last _ (fun z => absurd h1 z))
      · have hf2 : pFo m m.2.1 ≠ pFo m (ox m.2.1) := by
          have : m.2.1 = x ∨ m.2.1 = ox x := by unfold ox; split <;> omega
          rcases this with q | q
          · rw [q]; exact hf
          · rw [q, ox_ox]; exact Ne.symm hf
        have hsk := skp_root hm hc h1 hr' h hf2
        refine b10_without_83 (R' := fun r M' => r = nI (skp m (x / 2) m.2.1) ∧ M' = M3) 4 rfl (by decide) (by rw [er]; exact staysBehind_ev (d := d) hm h4 hr' he hsk) (fun r M5 hr5 => ?_)
        obtain ⟨rfl, rfl⟩ := hr5
        exact b10_without_94 (last _ (fun h1 => ⟨_, skp_lt hm hr', rfl, hsk, hde h1 _ (by rw [if_pos h])⟩))
  | succ q ih =>
    intro z M3 hz f3 a1 a3
    have h4 := rM4_cp hN hy h2.2 f3
    have hz' : z < pN m := by omega
    have e2 : 2 * gI M3 112 4 = nI (pN m) := by rw [show gI M3 112 4 = _ from h4.1]; exact pk_mul 2 _
    refine b10_without_23 4 rfl (by decide) (fun h => absurd ((nI_leI (a := pN m) (b := z) (by omega) (by omega)).mp (by rw [← e2]; exact h)) (by omega)) (fun _ => b10_without_33 (fun h => b10_without_65 ?_) (fun h => ?_))
    · rw [half_eq (by omega) (by omega)] at h
      rw [nI_1]
      exact ih (z + 1) M3 (by omega) f3 a1 (fun u hu hue => a3 u (by
        have : u ≠ z := fun w => hue (by rw [w]; exact h)
        omega) hue)
    · rw [half_eq (by omega) (by omega)] at h
      have ls := skp_lt hm (e := x / 2) hz'
      have hsk := skp_ne hm hz' h
      have lw : wo (x / 2) z < 2 * (m.1 - 1) := wo_lt (by omega) h hz'
      refine b10_without_41 (anew_ev (d := d + 1) (by omega) he h) (fun r1 M4 hr1 => ?_)
      obtain ⟨rfl, rfl⟩ := hr1
      refine b10_without_50 (staysBehind_ev (d := d) hm h4 hz' he hsk) (fun r2 M5 hr2 => ?_)
      obtain ⟨rfl, rfl⟩ := hr2
      refine b10_without_58 (anew_ev (d := d + 1) (by omega) he hsk) (fun r3 M6 hr3 => ?_)
      obtain ⟨rfl, rfl⟩ := hr3
      refine b10_without_62 (32 * y + wo (x / 2) z) (i32m y _) (by omega) (b10_without_65 ?_)
      rw [nI_1]
      refine ih (z + 1) _ (by omega) (Fr_sI f3 (tCp_1 (by omega) (by omega))) ((sI_ne (Or.inl (by decide))).trans a1) (fun u hu hue => ?_)
      rw [sI_at]
      by_cases e : u = z
      · rw [e, if_pos ⟨rfl, rfl⟩]
      · rw [if_neg (fun z' => e (wo_inj hue h (by have := z'.2; omega)))]
        exact a3 u (by omega) hue
theorem r_change (hS : RefS M st) (hok : StOK st) {x w k y : Int32} : EvI (E0 L xs) (d + 3) m10_change [.ref 110, .int x, .int w, .int k, .int y] M (Ro M (oChange st x w k y)) := by
  have hiw : (0 ≤ w.toInt64 ∧ w.toInt64 ≤ 5) ↔ vp_in w 6 := in_iff rfl
  have no : ∀ {M1 : ME}, M1 = sI M 110 0 0 → oChange st x w k y = (-1, st) → Wp (E0 L xs) (d + 3) m10_change 49 [.ref 110, .int x, .int w, .int k, .int y] [] M1 (fun v' M' => ∃ r, v' = some (.int r) ∧ Ro M (oChange st x w k y) r M') := fun e h => b10_change_49 ⟨_, rfl, by rw [e, h]; exact Ro_sc hok hS (tld M)⟩
  have hbad : ¬ (vp_in x 4 ∧ vp_in y 4) → oChange st x w k y = (-1, st) := fun h => cIf_neg h _ _
  have hw6 : ¬ vp_in w 6 → ∀ m, chg m w k = none := fun h m => by
    have hne : ∀ n, n < 6 → ¬ w = nI n := fun n hn z => h (by rw [z]; exact vp_in_iff.mpr (by rw [nI_toInt (by omega)]; omega))
    unfold chg
    rw [if_neg (show ¬ w = 0 from hne 0 (by decide)), if_neg (show ¬ w = 1 from hne 1 (by decide)), if_neg (show ¬ w = 2 from hne 2 (by decide)), if_neg (show ¬ w = 3 from hne 3 (by decide)), if_neg (show ¬ w = 4 from hne 4 (by decide)), if_neg (show ¬ w = 5 from hne 5 (by decide))]
  refine Ev_of k10_change rfl (Nat.le_of_ble_eq_true rfl) (b10_change_0 (fun h1 => b10_change_13 (fun h2 => b10_change_22 (fun h3 => ?_) (fun h => no rfl ?_)) (fun h => no rfl (hbad (fun q => h q.2)))) (fun h => no rfl (hbad (fun q => h q.1))))
  rotate_left
  · rw [show oChange st x w k y = _ from cIf_pos ⟨h1, h2⟩ _ _, hw6 (fun z => h (hiw.mpr z))]; rfl
  have eo := show oChange st x w k y = _ from cIf_pos ⟨h1, h2⟩ _ _
  have hw := hiw.mp h3
  obtain ⟨j, hj, rfl, ej⟩ := in_j h1 (by decide)
  obtain ⟨i, hi, rfl, ei⟩ := in_j h2 (by decide)
  rw [ej, ei] at eo
  rw [eo] at no ⊢
  have hm := hok.2.2 j hj
  have hN := MV_N hm.1
  have hj5 : j < 5 := by omega
  have hi5 : i < 5 := by omega
  have hS1 := tld_S hok hS
  have hrj : rM (sI M 110 0 0) j (sM st j) := hS1.2.2.2.2 j hj
  -- behind the questions
  have go : (∀ k' : Nat, (w = 4 ∨ w = 5) → k.toNatClampNeg = k' → k = nI k' ∧ k' < pN (sM st j)) → ((w = 4 ∨ w = 5) → vp_in k (pN (sM st j))) → Wp (E0 L xs) (d + 3) m10_change 51 [.ref 110, .int (nI j), .int w, .int k, .int (nI i)] [] (sI M 110 0 0) (fun v' M' => ∃ r, v' = some (.int r) ∧ Ro M (okp st i (chg (sM st j) w k)) r M') := by
    intro hk hkin
    refine b10_change_51 (rlays (d := d) hS hok hj) (fun M2 h4 => ?_)
    obtain ⟨f2, hr2, hl2⟩ := h4
    have fin : ∀ (M3 : ME) (m' : PMp), Fr (tMp i) M2 M3 → rM M3 i m' → chg (sM st j) w k = some m' → Wp (E0 L xs) (d + 3) m10_change 184 [.ref 110, .int (nI j), .int w, .int k, .int (nI i)] [] M3 (fun v' M' => ∃ r, v' = some (.int r) ∧ Ro M (okp st i (chg (sM st j) w k)) r M') := by
      intro M3 m' f3 hr3 ec
      rw [ec]
      have f := Fr_trans (tMp_s f2) f3
      exact b10_change_184 i rfl hi5 ⟨_, rfl, hr3.1, RefS_mp hi hok hS f hr3, tMp_R f⟩
    have sw : ∀ {w' : Int32}, w = w' → chg (sM st j) w k = chg (sM st j) w' k := fun h => by rw [h]
    have tail : (w = 5 → pFo (sM st j) k.toNatClampNeg ≠ pFo (sM st j) (ox k.toNatClampNeg)) → Wp (E0 L xs) (d + 3) m10_change 80 [.ref 110, .int (nI j), .int w, .int k, .int (nI i)] [] M2 (fun v' M' => ∃ r, v' = some (.int r) ∧ Ro M (okp st i (chg (sM st j) w k)) r M') := by
      intro h5
      refine b10_change_80 (fun h => b10_change_116 (copies_ev (d := d + 1) hj5 hi5 hm.1 hr2) (fun M3 h6 => b10_change_123 (fin M3 _ (tMp_c h6.1) h6.2 ((sw h).trans rfl)))) (fun h => b10_change_126 (mirrors_ev (d := d) hj hi hm.1 hr2) (fun M3 h6 => b10_change_133 (fin M3 _ h6.1 h6.2 ((sw h).trans rfl)))) (fun h => b10_change_136 (rdual_ev (d := d) hj hi hm.1 hr2) (fun M3 h6 => b10_change_143 (fin M3 _ h6.1 h6.2 ((sw h).trans rfl)))) (fun h => b10_change_146 (byCode_ev (d := d) hj hi hm.1 hm.2.1 hr2) (fun M3 h6 => b10_change_153 (fin M3 _ h6.1 h6.2 ((sw h).trans rfl)))) (fun h => b10_change_156 (copies_ev (d := d + 1) hj5 hi5 hm.1 hr2) (fun M3 h6 => b10_change_163 i rfl hi5 ?_)) (fun h => ?_)
      · obtain ⟨ek, hk'⟩ := hk _ (Or.inl h) rfl
        generalize k.toNatClampNeg = k' at *
        refine fin _ ((sM st j).1, k', (sM st j).2.2) (tMp_c (Fr_sI h6.1 tCp_p.2)) ⟨(sI_ne (Or.inl (by decide))).trans h6.2.1, by rw [sI_eq, ek], fun u hu => (sI_ne (Or.inl (by decide))).trans (h6.2.2.2 u hu)⟩ ((sw h).trans ?_)
        have e4 : chg (sM st j) 4 k = cIf (vp_in k (pN (sM st j))) (some ((sM st j).1, k.toNatClampNeg, (sM st j).2.2)) none := rfl
        rw [e4, cIf_pos (hkin (Or.inl h)), ek, nI_clamp (by omega)]
      · have hw5 : w = 5 := by
          obtain ⟨w', hw', rfl, -⟩ := in_j hw (by decide)
          have e : (nI w').toInt = w' := nI_toInt (by omega)
          rw [e] at h
          have : w' = 5 := by omega
          rw [this]; rfl
        obtain ⟨ek, hk'⟩ := hk _ (Or.inr hw5) rfl
        have hf := h5 hw5
        have hkv := hkin (Or.inr hw5)
        have e5 : chg (sM st j) 5 k = cIf (vp_in k (pN (sM st j)) ∧ pFo (sM st j) k.toNatClampNeg ≠ pFo (sM st j) (ox k.toNatClampNeg)) (some (del (sM st j) (k.toNatClampNeg / 2))) none := rfl
        rw [cIf_pos ⟨hkv, hf⟩] at e5
        generalize k.toNatClampNeg = k' at *
        have eh : k / 2 = nI (k' / 2) := by rw [ek]; exact pk_div (d := 2) (by omega) (by decide) (by decide)
        refine b10_change_174 (R' := fun M' => Fr (tMp i) M2 M' ∧ rM M' i (del (sM st j) (k' / 2))) (by rw [eh]; exact without_ev (d := d) hj hi hm.1 hm.2.1 hr2 hk' hf) (fun M3 h6 => fin M3 _ h6.1 h6.2 ((sw hw5).trans e5))
    refine b10_change_56 (fun h => tail (fun z => absurd z h)) (fun h => ?_)
    obtain ⟨ek, hk'⟩ := hk _ (Or.inr h) rfl
    have hox := ox_lt (n := (sM st j).1) hk'
    have hox' : ox k.toNatClampNeg < pN (sM st j) := hox
    have p1 := pFo_ltF hm.1 hk'
    have p2 := pFo_ltF hm.1 hox'
    have p3 := pFn_le hm.1
    have q1 : gI M2 115 k.toNatClampNeg = _ := hl2.2.2.2.1 _ hk'
    have q2 : gI M2 115 (ox k.toNatClampNeg) = _ := hl2.2.2.2.1 _ hox
    refine b10_change_61 k.toNatClampNeg ek (by omega) (ox k.toNatClampNeg) (by have h9 := nI_ox (d := k.toNatClampNeg) (by omega); rw [← ek] at h9; exact h9) (by omega) (fun h6 => tail (fun _ z => h6 (by rw [q1, q2, z]))) (fun h6 => b10_change_78 ⟨_, rfl, ?_⟩)
    rw [q1, q2] at h6
    have z6 := (nI_eq (by omega) (by omega)).mp h6
    have e5 : chg (sM st j) 5 k = cIf (vp_in k (pN (sM st j)) ∧ pFo (sM st j) k.toNatClampNeg ≠ pFo (sM st j) (ox k.toNatClampNeg)) (some (del (sM st j) (k.toNatClampNeg / 2))) none := rfl
    rw [sw h, e5, cIf_neg (fun z => z.2 z6)]
    exact Ro_sc hok hS f2
  refine b10_change_35 (fun h4 => go (fun k' h => ?_) (fun h => ?_)) (fun h4 => b10_change_40 (isDart_ev (d := d + 1) hj5 hm.1 hrj) (fun r M1 hr => ?_))
  · rcases h with h | h <;> rw [h] at h4 <;> exact absurd h4 (by decide)
  · rcases h with h | h <;> rw [h] at h4 <;> exact absurd h4 (by decide)
  · obtain ⟨hr, rfl⟩ := hr
    rcases hr with ⟨rfl, h5⟩ | ⟨rfl, h5⟩
    · refine b10_change_46 (fun _ => go (fun k' _ e => ?_) (fun _ => h5)) (fun h => absurd h (by decide))
      obtain ⟨k2, hk2, rfl, ek⟩ := in_j h5 (by omega)
      rw [ek] at e
      subst e
      exact ⟨rfl, hk2⟩
    · refine b10_change_46 (fun h => absurd rfl h) (fun _ => no rfl ?_)
      have : chg (sM st j) w k = none := by
        obtain ⟨w', hw', rfl, -⟩ := in_j hw (by decide)
        have hgt : ¬ w' ≤ 3 := fun z => h4 (nI_le (b := 3) z (by decide))
        have : w' = 4 ∨ w' = 5 := by omega
        rcases this with rfl | rfl
        · exact cIf_neg h5 _ _
        · exact cIf_neg (fun z => h5 z.1) _ _
      rw [this]; rfl
end RFO
