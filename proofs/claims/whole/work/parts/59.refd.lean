/-! the reference: darts, vertices, distances, codes -/
section RFD
variable {L : Nat} {xs : Nat → Int32} {d : Nat} {M : ME} {st : ST}
theorem isIn_ev {t1 t2 t3 : Int64} : EvI (E0 L xs) d m10_isIn [.ref 110, .long t1, .long t2, .long t3] M (fun r M' => ((r = 1 ∧ (t2 ≤ t1 ∧ t1 ≤ t3)) ∨ (r = 0 ∧ ¬ (t2 ≤ t1 ∧ t1 ≤ t3))) ∧ M' = M) := by
  refine Ev_of k10_isIn rfl (Nat.le_of_ble_eq_true rfl) (b10_isIn_0 (fun h => b10_isIn_17 (b10_isIn_18 (by decide) ⟨_, rfl, Or.inr ⟨rfl, fun q => i64_nlt.mpr q.1 (lgc_lt.mp h)⟩, rfl⟩)) (fun h => b10_isIn_6 (fun h2 => b10_isIn_17 (b10_isIn_18 (by decide) ⟨_, rfl, Or.inr ⟨rfl, fun q => i64_nlt.mpr q.2 (lgc_gt.mp h2)⟩, rfl⟩)) (fun h2 => b10_isIn_13 (b10_isIn_18 (by decide) ⟨_, rfl, Or.inl ⟨rfl, i64_nlt.mp (fun z => h (lgc_lt.mpr z)), i64_nlt.mp (fun z => h2 (lgc_gt.mpr z))⟩, rfl⟩))))
theorem isDart_ev {j : Nat} {m : PMp} (hj : j < 5) (hm : PV m) (hr : rM M j m) {y : Int32} : EvI (E0 L xs) (d + 1) m10_isDart [.ref 110, .int (nI j), .int y] M (fun r M' => ((r = 1 ∧ vp_in y (pN m)) ∨ (r = 0 ∧ ¬ vp_in y (pN m))) ∧ M' = M) := by
  have hN := MV_N hm
  have e0 : 2 * gI M 112 j = nI (pN m) := by rw [show gI M 112 j = _ from hr.1]; exact pk_mul 2 _
  have hi : (0 ≤ y.toInt64 ∧ y.toInt64 ≤ (2 * gI M 112 j).toInt64 - 1) ↔ vp_in y (pN m) := in_iff (by rw [e0]; exact hiN (by omega))
  refine Ev_of k10_isDart rfl (Nat.le_of_ble_eq_true rfl) (b10_isDart_0 j rfl hj isIn_ev (fun r M1 hr => ?_))
  obtain ⟨hr, rfl⟩ := hr
  rcases hr with ⟨rfl, h⟩ | ⟨rfl, h⟩
  · exact b10_isDart_15 (by decide) ⟨_, rfl, Or.inl ⟨rfl, hi.mp h⟩, rfl⟩
  · exact b10_isDart_15 (by decide) ⟨_, rfl, Or.inr ⟨rfl, fun z => h (hi.mpr z)⟩, rfl⟩
theorem isVertex_ev {m : PMp} (hm : PV m) (hl : Ld m M) {y : Int32} : EvI (E0 L xs) (d + 1) m10_isVertex [.ref 110, .int y] M (fun r M' => ((r = 1 ∧ vp_in y (pVn m)) ∨ (r = 0 ∧ ¬ vp_in y (pVn m))) ∧ M' = M) := by
  have hV := pVn_le hm
  have e0 : gI M 110 7 = nI (pVn m) := hl.1
  have hi : (0 ≤ y.toInt64 ∧ y.toInt64 ≤ (gI M 110 7).toInt64 - 1) ↔ vp_in y (pVn m) := in_iff (by rw [e0]; exact hiN (by omega))
  refine Ev_of k10_isVertex rfl (Nat.le_of_ble_eq_true rfl) (b10_isVertex_0 isIn_ev (fun r M1 hr => ?_))
  obtain ⟨hr, rfl⟩ := hr
  rcases hr with ⟨rfl, h⟩ | ⟨rfl, h⟩
  · exact b10_isVertex_14 (by decide) ⟨_, rfl, Or.inl ⟨rfl, hi.mp h⟩, rfl⟩
  · exact b10_isVertex_14 (by decide) ⟨_, rfl, Or.inr ⟨rfl, fun z => h (hi.mpr z)⟩, rfl⟩
theorem r_dart (hS : RefS M st) (hok : StOK st) {x y w : Int32} : EvI (E0 L xs) (d + 3) m10_dart [.ref 110, .int x, .int y, .int w] M (Rq M st (aDart st x y w)) := by
  have no : ∀ {M1 : ME}, M1 = sI M 110 0 0 → ¬ (vp_in x 4 ∧ vp_in y (pN (sM st x.toNatClampNeg))) → Wp (E0 L xs) (d + 3) m10_dart 22 [.ref 110, .int x, .int y, .int w] [] M1 (fun v' M' => ∃ r, v' = some (.int r) ∧ Rq M st (aDart st x y w) r M') := fun e h => b10_dart_22 ⟨_, rfl, by rw [e, show aDart st x y w = -1 from cIf_neg h _ _]; exact Rq_sc hok hS (tld M)⟩
  refine Ev_of k10_dart rfl (Nat.le_of_ble_eq_true rfl) (b10_dart_0 (fun h => ?_) (fun h => no rfl (fun q => h q.1)))
  have h' := h
  obtain ⟨j, hj, rfl, ej⟩ := in_j h (by decide)
  have hm := hok.2.2 j hj
  have hN := MV_N hm.1
  have hS1 := tld_S hok hS
  have hj5 : j < 5 := by omega
  rw [ej] at no
  refine b10_dart_13 (isDart_ev (d := d + 1) hj5 hm.1 (hS1.2.2.2.2 j hj)) (fun r M1 hr => ?_)
  obtain ⟨hr, rfl⟩ := hr
  rcases hr with ⟨rfl, h2⟩ | ⟨rfl, h2⟩
  · obtain ⟨y', hy', rfl, ey⟩ := in_j h2 (by omega)
    have ea : aDart st (nI j) (nI y') w = drV (sM st j) y' w := by
      unfold aDart; rw [ej]; rw [cIf_pos ⟨h', h2⟩, ey]
    rw [ea]
    refine b10_dart_19 (fun _ => b10_dart_24 (rlays (d := d) hS hok hj) (fun M2 h3 => ?_)) (fun h => absurd h (by decide))
    obtain ⟨f2, hr2, hl2⟩ := h3
    have hox := ox_lt (n := (sM st j).1) hy'
    have hox' : ox y' < pN (sM st j) := hox
    have fin : ∀ {r : Int32}, r = drV (sM st j) y' w → ∃ r', some (Value.int r) = some (.int r') ∧ Rq M st (drV (sM st j) y' w) r' M2 := fun {r} h => ⟨_, rfl, by rw [h]; exact Rq_sc hok hS f2⟩
    refine b10_dart_29 (fun h => b10_dart_56 (32 * j + y') (i32m j y') (by omega) (fin ?_)) (fun h => b10_dart_63 (32 * j + ox y') (by rw [nI_ox (by omega)]; exact i32m j _) (by omega) (fin ?_)) (fun h => b10_dart_70 y' rfl (by omega) (fin ?_)) (fun h => b10_dart_77 (fun h4 => b10_dart_91 (b10_dart_92 (fin ?_))) (fun h4 => b10_dart_82 y' rfl (by omega) (b10_dart_92 (fin ?_))))
    · subst h; exact hr2.2.2 y' hy'
    · subst h; exact hr2.2.2 (ox y') hox
    · subst h; exact hl2.2.2.1 y' hy'
    · unfold drV
      rw [if_neg (sw_ne h 0 rfl (by decide) (by decide)), if_neg (sw_ne h 1 rfl (by decide) (by decide)), if_neg (sw_ne h 2 rfl (by decide) (by decide)), if_neg h4]
    · subst h4; exact hl2.2.2.2.1 y' hy'
  · exact b10_dart_19 (fun h => absurd rfl h) (fun _ => no rfl (fun q => h2 q.2))
theorem r_degree (hS : RefS M st) (hok : StOK st) {x w k : Int32} : EvI (E0 L xs) (d + 3) m10_degree [.ref 110, .int x, .int w, .int k] M (Rq M st (aDegree st x w k)) := by
  have hiw : (0 ≤ w.toInt64 ∧ w.toInt64 ≤ 1) ↔ vp_in w 2 := in_iff rfl
  have no : ∀ {M1 : ME}, M1 = sI M 110 0 0 → ¬ (vp_in x 4 ∧ vp_in w 2) → Wp (E0 L xs) (d + 3) m10_degree 24 [.ref 110, .int x, .int w, .int k] [] M1 (fun v' M' => ∃ r, v' = some (.int r) ∧ Rq M st (aDegree st x w k) r M') := fun e h => b10_degree_24 ⟨_, rfl, by
    have : aDegree st x w k = -1 := by
      unfold aDegree
      rw [cIf_neg (fun q => h ⟨q.1, by rw [q.2.1]; exact vp_in_iff.mpr (by decide)⟩), cIf_neg (fun q => h ⟨q.1, by rw [q.2.1]; exact vp_in_iff.mpr (by decide)⟩)]
    rw [e, this]; exact Rq_sc hok hS (tld M)⟩
  refine Ev_of k10_degree rfl (Nat.le_of_ble_eq_true rfl) (b10_degree_0 (fun h => b10_degree_13 (fun h2 => ?_) (fun h2 => no rfl (fun q => h2 (hiw.mpr q.2)))) (fun h => no rfl (fun q => h q.1)))
  have h' := h
  obtain ⟨j, hj, rfl, ej⟩ := in_j h (by decide)
  have hm := hok.2.2 j hj
  have hw := hiw.mp h2
  have hV := pVn_le hm.1
  have hF := pFn_le hm.1
  refine b10_degree_26 (rlays (d := d) hS hok hj) (fun M2 h3 => ?_)
  obtain ⟨f2, hr2, hl2⟩ := h3
  have e7 : gI M2 110 7 = nI (pVn (sM st j)) := hl2.1
  have e8 : gI M2 110 8 = nI (pFn (sM st j)) := hl2.2.1
  have fin : ∀ {r : Int32}, r = aDegree st (nI j) w k → ∃ r', some (Value.int r) = some (.int r') ∧ Rq M st (aDegree st (nI j) w k) r' M2 := fun {r} h => ⟨_, rfl, by rw [h]; exact Rq_sc hok hS f2⟩
  have hw01 : w = 0 ∨ w = 1 := by
    obtain ⟨w', hw', rfl, -⟩ := in_j hw (by decide)
    have : w' = 0 ∨ w' = 1 := by omega
    rcases this with rfl | rfl
    · exact Or.inl rfl
    · exact Or.inr rfl
  -- a map without an edge: degree 0 of the one vertex, the one face
  have cV : ∀ c, c < pVn (sM st j) → M2.1 116 c = nI (pVd (sM st j) c) := fun c hc => by
    rw [hl2.2.2.2.2.1 c (by omega)]
    by_cases q : c < ctO (pX (sM st j)) (pN (sM st j))
    · rw [if_pos q]
    · rw [if_neg q]
      have h0 : (sM st j).1 = 0 := Classical.byContradiction fun z => q (by
        have : pVn (sM st j) = ctO (pX (sM st j)) (pN (sM st j)) := by unfold pVn; rw [if_neg z]
        omega)
      have : pVd (sM st j) c = 0 := by show cnB _ (2 * (sM st j).1) = 0; rw [h0]; rfl
      rw [this]
  have cF : ∀ c, c < pFn (sM st j) → M2.1 116 (32 + c) = nI (pFd (sM st j) c) := fun c hc => by
    rw [hl2.2.2.2.2.2 c (by omega)]
    by_cases q : c < ctO (pF (sM st j)) (pN (sM st j))
    · rw [if_pos q]
    · rw [if_neg q]
      have h0 : (sM st j).1 = 0 := Classical.byContradiction fun z => q (by
        have : pFn (sM st j) = ctO (pF (sM st j)) (pN (sM st j)) := by unfold pFn; rw [if_neg z]
        omega)
      have : pFd (sM st j) c = 0 := by show cnB _ (2 * (sM st j).1) = 0; rw [h0]; rfl
      rw [this]
  refine b10_degree_31 (fun h3 => b10_degree_46 ?_) (fun h3 => b10_degree_39 ?_)
  · have hw1 : w = 1 := hw01.resolve_left h3
    subst hw1
    have hi : (0 ≤ k.toInt64 ∧ k.toInt64 ≤ (gI M2 110 8).toInt64 - 1) ↔ vp_in k (pFn (sM st j)) := in_iff (by rw [e8]; exact hiN (by omega))
    have ea : aDegree st (nI j) 1 k = cIf (vp_in k (pFn (sM st j))) (nI (pFd (sM st j) k.toNatClampNeg)) (-1) := by
      unfold aDegree
      rw [ej, cIf_neg (fun q => absurd q.2.1 (by decide))]
      by_cases q : vp_in k (pFn (sM st j))
      · rw [cIf_pos ⟨h', rfl, q⟩, cIf_pos q]
      · rw [cIf_neg (fun z => q z.2.2), cIf_neg q]
    refine b10_degree_50 (fun h4 => ?_) (fun h4 => b10_degree_73 (b10_degree_74 (fin ?_)))
    · have h5 := hi.mp h4
      obtain ⟨k', hk', rfl, ek⟩ := in_j h5 (by omega)
      refine b10_degree_59 (32 + k') (by rw [show (32 : Int32) * 1 = 32 from rfl]; exact nI_add 32 k') (by omega) (b10_degree_74 (fin ?_))
      rw [ea, cIf_pos h5, ek]; exact cF k' hk'
    · rw [ea, cIf_neg (fun z => h4 (hi.mpr z))]
  · subst h3
    have hi : (0 ≤ k.toInt64 ∧ k.toInt64 ≤ (gI M2 110 7).toInt64 - 1) ↔ vp_in k (pVn (sM st j)) := in_iff (by rw [e7]; exact hiN (by omega))
    have ea : aDegree st (nI j) 0 k = cIf (vp_in k (pVn (sM st j))) (nI (pVd (sM st j) k.toNatClampNeg)) (-1) := by
      unfold aDegree
      rw [ej]
      by_cases q : vp_in k (pVn (sM st j))
      · rw [cIf_pos ⟨h', rfl, q⟩, cIf_pos q]
      · rw [cIf_neg (fun z => q z.2.2), cIf_neg q, cIf_neg (fun z => absurd z.2.1 (by decide))]
    refine b10_degree_50 (fun h4 => ?_) (fun h4 => b10_degree_73 (b10_degree_74 (fin ?_)))
    · have h5 := hi.mp h4
      obtain ⟨k', hk', rfl, ek⟩ := in_j h5 (by omega)
      refine b10_degree_59 k' (by rw [show (32 : Int32) * 0 = nI 0 from rfl, nI_add, Nat.zero_add]) (by omega) (b10_degree_74 (fin ?_))
      rw [ea, cIf_pos h5, ek]; exact cV k' hk'
    · rw [ea, cIf_neg (fun z => h4 (hi.mpr z))]
theorem r_distance (hS : RefS M st) (hok : StOK st) {x v w : Int32} : EvI (E0 L xs) (d + 3) m10_distance [.ref 110, .int x, .int v, .int w] M (Rq M st (aDist st x v w)) := by
  refine Ev_of k10_distance rfl (Nat.le_of_ble_eq_true rfl) (b10_distance_0 (fun h => ?_) (fun h => b10_distance_13 ⟨_, rfl, ?_⟩))
  rotate_left
  · rw [show aDist st x v w = -1 from cIf_neg (fun q => h q.1) _ _]; exact Rq_sc hok hS (tld M)
  have h' := h
  obtain ⟨j, hj, rfl, ej⟩ := in_j h (by decide)
  have hm := hok.2.2 j hj
  have hV := pVn_le hm.1
  refine b10_distance_15 (rlays (d := d) hS hok hj) (fun M2 h3 => ?_)
  obtain ⟨f2, hr2, hl2⟩ := h3
  have no : ∀ {M1 : ME}, M1 = M2 → ¬ (vp_in v (pVn (sM st j)) ∧ vp_in w (pVn (sM st j))) → Wp (E0 L xs) (d + 3) m10_distance 36 [.ref 110, .int (nI j), .int v, .int w] [] M1 (fun v' M' => ∃ r, v' = some (.int r) ∧ Rq M st (aDist st (nI j) v w) r M') := fun e h => b10_distance_36 ⟨_, rfl, by
    have : aDist st (nI j) v w = -1 := by unfold aDist; rw [ej]; exact cIf_neg (fun q => h q.2) _ _
    rw [e, this]; exact Rq_sc hok hS f2⟩
  refine b10_distance_20 (isVertex_ev (d := d + 1) hm.1 hl2) (fun r M3 hr => ?_)
  obtain ⟨hr, rfl⟩ := hr
  rcases hr with ⟨rfl, h4⟩ | ⟨rfl, h4⟩
  · refine b10_distance_25 (fun h => absurd h (by decide)) (fun _ => b10_distance_28 (isVertex_ev (d := d + 1) hm.1 hl2) (fun r M4 hr => ?_))
    obtain ⟨hr, rfl⟩ := hr
    rcases hr with ⟨rfl, h5⟩ | ⟨rfl, h5⟩
    · have ea : aDist st (nI j) v w = nI (dst (sM st j) v.toNatClampNeg w.toNatClampNeg) := by unfold aDist; rw [ej]; exact cIf_pos ⟨h', h4, h5⟩ _ _
      rw [ea]
      obtain ⟨v', hv', rfl, ev⟩ := in_j h4 (by omega)
      obtain ⟨w', hw', rfl, ew⟩ := in_j h5 (by omega)
      rw [ev, ew]
      refine b10_distance_33 (fun _ => b10_distance_38 (laysFar_ev (d := d + 1) (show j < 5 by omega) (by omega) hm.1 hr2 hl2.1 hl2.2.2.1) (fun M5 h6 => b10_distance_44 w' rfl (by omega) ⟨_, rfl, ?_⟩)) (fun h => absurd h (by decide))
      have e : gI M5 117 w' = nI (dst (sM st j) v' w') := (h6.2 w' (by omega)).trans (dsV_conn hm.1 hm.2.1 hv' hw')
      rw [e]
      exact Rq_sc hok hS (Fr_trans f2 (t117_sr h6.1))
    · exact b10_distance_33 (fun h => absurd rfl h) (fun _ => no rfl (fun q => h5 q.2))
  · exact b10_distance_25 (fun _ => no rfl (fun q => h4 q.1)) (fun h => absurd rfl h)
theorem r_ring (hS : RefS M st) (hok : StOK st) {x v k : Int32} : EvI (E0 L xs) (d + 3) m10_ring [.ref 110, .int x, .int v, .int k] M (Rq M st (aRing st x v k)) := by
  have no0 : ¬ (vp_in x 4 ∧ ¬ k < -1) → Wp (E0 L xs) (d + 3) m10_ring 18 [.ref 110, .int x, .int v, .int k, .null, .null, .null] [] (sI M 110 0 0) (fun v' M' => ∃ r, v' = some (.int r) ∧ Rq M st (aRing st x v k) r M') := fun h => b10_ring_18 ⟨_, rfl, by rw [show aRing st x v k = -1 from cIf_neg (fun q => h ⟨q.1, q.2.2⟩) _ _]; exact Rq_sc hok hS (tld M)⟩
  refine Ev_of k10_ring rfl (Nat.le_of_ble_eq_true rfl) (b10_ring_0 (fun h => b10_ring_13 (fun h2 => ?_) (fun h2 => no0 (fun q => q.2 (i_nle.mp h2)))) (fun h => no0 (fun q => h q.1)))
  have h' := h
  obtain ⟨j, hj, rfl, ej⟩ := in_j h (by decide)
  have hm := hok.2.2 j hj
  have hV := pVn_le hm.1
  have hk1 : ¬ k < -1 := i_nlt.mpr h2
  refine b10_ring_20 (rlays (d := d) hS hok hj) (fun M2 h3 => ?_)
  obtain ⟨f2, hr2, hl2⟩ := h3
  refine b10_ring_25 (isVertex_ev (d := d + 1) hm.1 hl2) (fun r M3 hr => ?_)
  obtain ⟨hr, rfl⟩ := hr
  rcases hr with ⟨rfl, h4⟩ | ⟨rfl, h4⟩
  · refine b10_ring_30 (fun _ => ?_) (fun h => absurd h (by decide))
    have ea : aRing st (nI j) v k = (if k = -1 then nI (mxN (dst (sM st j) v.toNatClampNeg) (pVn (sM st j))) else nI (cnB (fun u => decide (nI (dst (sM st j) v.toNatClampNeg u) = k)) (pVn (sM st j)))) := by unfold aRing; rw [ej]; exact cIf_pos ⟨h', h4, hk1⟩ _ _
    rw [ea]
    obtain ⟨v', hv', rfl, ev⟩ := in_j h4 (by omega)
    rw [ev]
    refine b10_ring_35 (laysFar_ev (d := d + 1) (show j < 5 by omega) (by omega) hm.1 hr2 hl2.1 hl2.2.2.1) (fun M4 h6 => b10_ring_41 ?_)
    have f4 := Fr_trans f2 (t117_sr h6.1)
    generalize sM st j = m at *
    have e7 : gI M4 110 7 = nI (pVn m) := (h6.1.1 110 7 (tR1_f (by decide))).trans hl2.1
    have hd : ∀ u, u < pVn m → gI M4 117 u = nI (dst m v' u) := fun u hu => (h6.2 u (by omega)).trans (dsV_conn hm.1 hm.2.1 hv' hu)
    have hl : ∀ u, dst m v' u < 33 := fun u => by have := dst_le m v' u; omega
    suffices hloop : ∀ (q i : Nat), i + q = pVn m → Wp (E0 L xs) (d + 3) m10_ring 50 [.ref 110, .int (nI j), .int (nI v'), .int k, .int (nI (cnB (fun u => decide (nI (dst m v' u) = k)) i)), .int (nI (mxN (dst m v') i)), .int (nI i)] [] M4 (fun v M' => ∃ r, v = some (.int r) ∧ Rq M st (if k = -1 then nI (mxN (dst m v') (pVn m)) else nI (cnB (fun u => decide (nI (dst m v' u) = k)) (pVn m))) r M') by
      exact hloop (pVn m) 0 (by omega)
    intro q
    induction q with
    | zero =>
      intro i hi
      have : i = pVn m := by omega
      subst this
      refine b10_ring_50 (fun _ => b10_ring_108 (fun h => b10_ring_118 (b10_ring_120 ⟨_, rfl, ?_⟩)) (fun h => b10_ring_113 (b10_ring_120 ⟨_, rfl, ?_⟩))) (fun h => absurd (by rw [e7]; exact nI_le (Nat.le_refl _) (by omega)) h)
      · rw [if_neg h]; exact Rq_sc hok hS f4
      · rw [if_pos h]; exact Rq_sc hok hS f4
    | succ q ih =>
      intro i hi
      have ecn : cnB (fun u => decide (nI (dst m v' u) = k)) (i + 1) = cnB (fun u => decide (nI (dst m v' u) = k)) i + (if decide (nI (dst m v' i) = k) = true then 1 else 0) := rfl
      have es : mxN (dst m v') (i + 1) = max (mxN (dst m v') i) (dst m v' i) := rfl
      have h1 : mxN (dst m v') i < 33 := mx_lt (by decide) (fun u _ => hl u)
      have h2 := hl i
      have e := hd i (by omega)
      have tail : ∀ n : Nat, n = cnB (fun u => decide (nI (dst m v' u) = k)) (i + 1) → Wp (E0 L xs) (d + 3) m10_ring 76 [.ref 110, .int (nI j), .int (nI v'), .int k, .int (nI n), .int (nI (mxN (dst m v') i)), .int (nI i)] [] M4 (fun v M' => ∃ r, v = some (.int r) ∧ Rq M st (if k = -1 then nI (mxN (dst m v') (pVn m)) else nI (cnB (fun u => decide (nI (dst m v' u) = k)) (pVn m))) r M') := by
        intro n hn
        refine b10_ring_76 i rfl (by omega) (fun h => b10_ring_98 (b10_ring_100 ?_)) (fun h => b10_ring_88 i rfl (by omega) (b10_ring_100 ?_))
        · rw [e] at h
          have := (nI_leI (by omega) (by omega)).mp h
          have h3 := ih (i + 1) (by omega)
          rw [es, Nat.max_eq_left (by omega)] at h3
          rw [nI_1, hn]; exact h3
        · rw [e] at h ⊢
          have := mt (nI_leI (a := dst m v' i) (b := mxN (dst m v') i) (by omega) (by omega)).mpr h
          have h3 := ih (i + 1) (by omega)
          rw [es, Nat.max_eq_right (by omega)] at h3
          rw [nI_1, hn]; exact h3
      refine b10_ring_50 (fun h => ?_) (fun _ => b10_ring_59 i rfl (by omega) (fun h => tail _ ?_) (fun h => b10_ring_70 ?_))
      · rw [e7] at h
        exact absurd ((nI_leI (by omega) (by omega)).mp h) (by omega)
      · rw [e] at h
        rw [ecn, if_neg (by simpa using h), Nat.add_zero]
      · rw [e] at h
        rw [nI_1]
        exact tail _ (by rw [ecn, if_pos (decide_eq_true h)])
  · refine b10_ring_30 (fun h => absurd rfl h) (fun _ => b10_ring_33 ⟨_, rfl, ?_⟩)
    have : aRing st (nI j) v k = -1 := by unfold aRing; rw [ej]; exact cIf_neg (fun q => h4 q.2.1) _ _
    rw [this]; exact Rq_sc hok hS f2
end RFD
