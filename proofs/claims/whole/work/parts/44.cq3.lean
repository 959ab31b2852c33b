/-! the class's questions about darts, vertices, distances -/
section CQ3
variable {L : Nat} {xs : Nat → Int32} {d : Nat} {tab : Nat → Nat → Int64} {M : ME} {st : ST}
theorem in_of {x : Int32} {n : Nat} (hn : n < 2 ^ 31) (h1 : ¬ x < 0) (h2 : x < nI n) : vp_in x n := by
  rw [Int32.lt_iff_toInt_lt] at h1 h2
  rw [nI_toInt hn] at h2
  have h0 : (0 : Int32).toInt = 0 := rfl
  exact vp_in_iff.mpr ⟨by omega, by omega⟩
theorem in_lt {x : Int32} {n : Nat} (hn : n < 2 ^ 31) (h : vp_in x n) : ¬ x < 0 ∧ x < nI n := by
  rw [Int32.lt_iff_toInt_lt, Int32.lt_iff_toInt_lt, nI_toInt hn]
  have h0 : (0 : Int32).toInt = 0 := rfl
  have := vp_in_iff.mp h
  omega
theorem i_nle {x y : Int32} : ¬ x ≤ y ↔ y < x := by rw [Int32.le_iff_toInt_le, Int32.lt_iff_toInt_lt]; omega
theorem i_nlt {x y : Int32} : ¬ x < y ↔ y ≤ x := by rw [Int32.le_iff_toInt_le, Int32.lt_iff_toInt_lt]; omega
theorem MV_N {m : PMp} (h : PV m) : pN m ≤ 32 := by have := h.1; show 2 * m.1 ≤ 32; omega
theorem noVertex_ev (hS : ClsS tab M st) (hok : StOK st) {x v : Int32} : EvI (E0 L xs) (d + 1) m9_noVertex [.ref 1, .int x, .int v] M (fun r M' => ((r = 0 ∧ vp_in x 4 ∧ vp_in v (pVn (sM st x.toNatClampNeg))) ∨ (r = 1 ∧ ¬ (vp_in x 4 ∧ vp_in v (pVn (sM st x.toNatClampNeg))))) ∧ M' = M) := by
  refine Ev_of k9_noVertex rfl (Nat.le_of_ble_eq_true rfl) (b9_noVertex_0 (fun h => b9_noVertex_24 (b9_noVertex_29 (by decide) ⟨_, rfl, Or.inr ⟨rfl, fun q => h q.1⟩, rfl⟩)) (fun h => b9_noVertex_7 (fun h2 => b9_noVertex_24 (b9_noVertex_29 (by decide) ⟨_, rfl, Or.inr ⟨rfl, fun q => ?_⟩, rfl⟩)) (fun h2 => ?_)))
  · have := (vp_in_iff.mp q.2).1
    rw [Int32.lt_iff_toInt_lt] at h2
    have h0 : (0 : Int32).toInt = 0 := rfl
    omega
  · obtain ⟨j, hj, rfl, ej, hR, hc, hn0⟩ := cl_map hS h
    have hV := pVn_le (hok.2.2 j hj).1
    rw [ej]
    have e2 : gI M (gR M 4 j) 2 = nI (pVn (sM st j)) := hc.2.2.1
    refine b9_noVertex_11 j rfl hj hn0 (RMs_is hR) (fun h3 => b9_noVertex_28 (b9_noVertex_29 (by decide) ⟨_, rfl, Or.inl ⟨rfl, h, ?_⟩, rfl⟩)) (fun h3 => b9_noVertex_24 (b9_noVertex_29 (by decide) ⟨_, rfl, Or.inr ⟨rfl, fun q => h3 ?_⟩, rfl⟩))
    · rw [e2] at h3; exact in_of (by omega) h2 h3
    · rw [e2]; exact (in_lt (by omega) q.2).2
theorem noDart_ev (hS : ClsS tab M st) (hok : StOK st) {x v : Int32} : EvI (E0 L xs) (d + 1) m9_noDart [.ref 1, .int x, .int v] M (fun r M' => ((r = 0 ∧ vp_in x 4 ∧ vp_in v (pN (sM st x.toNatClampNeg))) ∨ (r = 1 ∧ ¬ (vp_in x 4 ∧ vp_in v (pN (sM st x.toNatClampNeg))))) ∧ M' = M) := by
  refine Ev_of k9_noDart rfl (Nat.le_of_ble_eq_true rfl) (b9_noDart_0 (fun h => b9_noDart_24 (b9_noDart_29 (by decide) ⟨_, rfl, Or.inr ⟨rfl, fun q => h q.1⟩, rfl⟩)) (fun h => b9_noDart_7 (fun h2 => b9_noDart_24 (b9_noDart_29 (by decide) ⟨_, rfl, Or.inr ⟨rfl, fun q => ?_⟩, rfl⟩)) (fun h2 => ?_)))
  · have := (vp_in_iff.mp q.2).1
    rw [Int32.lt_iff_toInt_lt] at h2
    have h0 : (0 : Int32).toInt = 0 := rfl
    omega
  · obtain ⟨j, hj, rfl, ej, hR, hc, hn0⟩ := cl_map hS h
    have hV := MV_N (hok.2.2 j hj).1
    rw [ej]
    have e2 : 2 * gI M (gR M 4 j) 0 = nI (pN (sM st j)) := by rw [show gI M (gR M 4 j) 0 = _ from hc.1]; exact pk_mul 2 _
    refine b9_noDart_11 j rfl hj hn0 (RMs_is hR) (fun h3 => b9_noDart_28 (b9_noDart_29 (by decide) ⟨_, rfl, Or.inl ⟨rfl, h, ?_⟩, rfl⟩)) (fun h3 => b9_noDart_24 (b9_noDart_29 (by decide) ⟨_, rfl, Or.inr ⟨rfl, fun q => h3 ?_⟩, rfl⟩))
    · rw [e2] at h3; exact in_of (by omega) h2 h3
    · rw [e2]; exact (in_lt (by omega) q.2).2
theorem c_dart (hS : ClsS tab M st) (hok : StOK st) {x y w : Int32} : EvI (E0 L xs) (d + 2) m9_dart [.ref 1, .int x, .int y, .int w] M (Cq tab M st (aDart st x y w)) := by
  refine Ev_of k9_dart rfl (Nat.le_of_ble_eq_true rfl) (b9_dart_0 (noDart_ev hS hok) (fun r M1 hr => ?_))
  obtain ⟨hr, rfl⟩ := hr
  rcases hr with ⟨rfl, h1, h2⟩ | ⟨rfl, h1⟩
  · obtain ⟨j, hj, rfl, ej, hR, hc, hn0⟩ := cl_map hS h1
    rw [ej] at h2
    have hN := MV_N (hok.2.2 j hj).1
    obtain ⟨y', hy', rfl, ey⟩ := in_j h2 (by omega)
    have ea : aDart st (nI j) (nI y') w = drV (sM st j) y' w := by
      unfold aDart; rw [ej]; rw [cIf_pos ⟨h1, h2⟩, ey]
    rw [ea]
    have T := RMs_is (L := L) (xs := xs) hR
    refine b9_dart_6 (fun _ => b9_dart_11 j rfl hj hn0 (fun h => b9_dart_52 T y' rfl (by omega) ⟨_, rfl, ?_⟩) (fun h => b9_dart_60 T y' rfl (by omega) ⟨_, rfl, ?_⟩) (fun h => b9_dart_68 T y' rfl (by omega) ⟨_, rfl, ?_⟩) (fun h => b9_dart_76 T y' rfl (by omega) ⟨_, rfl, ?_⟩) (fun h => b9_dart_84 ⟨_, rfl, ?_⟩)) (fun h => absurd rfl h)
    · subst h; exact ⟨hc.2.2.2.2.1 y' hy', hS, FrC_refl _⟩
    · subst h; exact ⟨hc.2.2.2.2.2.1 y' hy', hS, FrC_refl _⟩
    · subst h; exact ⟨hc.2.2.2.2.2.2.1 y' hy', hS, FrC_refl _⟩
    · subst h; exact ⟨hc.2.2.2.2.2.2.2.1 y' hy', hS, FrC_refl _⟩
    · refine ⟨?_, hS, FrC_refl _⟩
      unfold drV
      rw [if_neg (sw_ne h 0 rfl (by decide) (by decide)), if_neg (sw_ne h 1 rfl (by decide) (by decide)), if_neg (sw_ne h 2 rfl (by decide) (by decide)), if_neg (sw_ne h 3 rfl (by decide) (by decide))]
  · refine b9_dart_6 (fun h => absurd h (by decide)) (fun _ => b9_dart_9 ⟨_, rfl, ?_⟩)
    rw [show aDart st x y w = -1 from cIf_neg h1 _ _]; exact Cq_same hS
theorem c_degree (hS : ClsS tab M st) (hok : StOK st) {x w k : Int32} : EvI (E0 L xs) (d + 1) m9_degree [.ref 1, .int x, .int w, .int k] M (Cq tab M st (aDegree st x w k)) := by
  have neg : ∀ {y : Int32} {n : Nat}, ¬ 0 ≤ y → ¬ vp_in y n := fun h q => by
    have := (vp_in_iff.mp q).1
    rw [Int32.le_iff_toInt_le] at h
    have h0 : (0 : Int32).toInt = 0 := rfl
    omega
  refine Ev_of k9_degree rfl (Nat.le_of_ble_eq_true rfl) (b9_degree_0 (fun h => b9_degree_11 ⟨_, rfl, ?_⟩) (fun h => b9_degree_7 (fun h2 => ?_) (fun h2 => b9_degree_11 ⟨_, rfl, ?_⟩)))
  · have : aDegree st x w k = -1 := by unfold aDegree; rw [cIf_neg (fun q => h q.1), cIf_neg (fun q => h q.1)]
    rw [this]; exact Cq_same hS
  · obtain ⟨j, hj, rfl, ej, hR, hc, hn0⟩ := cl_map hS h
    have hV := pVn_le (hok.2.2 j hj).1
    have hF := pFn_le (hok.2.2 j hj).1
    have T := RMs_is (L := L) (xs := xs) hR
    have e2 : gI M (gR M 4 j) 2 = nI (pVn (sM st j)) := hc.2.2.1
    have e3 : gI M (gR M 4 j) 3 = nI (pFn (sM st j)) := hc.2.2.2.1
    have h2' : ¬ k < 0 := i_nlt.mpr h2
    have last : (¬ (w = 0 ∧ vp_in k (pVn (sM st j)))) → Wp (E0 L xs) (d + 1) m9_degree 42 [.ref 1, .int (nI j), .int w, .int k, .ref (gR M 4 j)] [] M (fun v M' => ∃ r, v = some (.int r) ∧ Cq tab M st (aDegree st (nI j) w k) r M') := by
      intro hn
      have ea : aDegree st (nI j) w k = cIf (vp_in (nI j) 4 ∧ w = 1 ∧ vp_in k (pFn (sM st j))) (nI (pFd (sM st j) k.toNatClampNeg)) (-1) := by
        unfold aDegree; rw [ej, cIf_neg (fun q => hn q.2)]
      rw [ea]
      refine b9_degree_42 (fun h3 => b9_degree_66 (b9_degree_67 ⟨_, rfl, ?_⟩)) (fun h3 => b9_degree_47 T (fun h4 => b9_degree_66 (b9_degree_67 ⟨_, rfl, ?_⟩)) (fun h4 => ?_))
      · rw [cIf_neg (fun q => h3 q.2.1)]; exact Cq_same hS
      · rw [cIf_neg (fun q => i_nle.mpr (in_lt (by omega) q.2.2).2 (by rw [← e3]; exact h4))]; exact Cq_same hS
      · rw [e3] at h4
        have hk := in_of (by omega) h2' (i_nle.mp h4)
        rw [cIf_pos ⟨h, h3, hk⟩]
        obtain ⟨k', hk', rfl, ek⟩ := in_j hk (by omega)
        rw [ek]
        exact b9_degree_56 T k' rfl (by omega) (b9_degree_67 ⟨_, rfl, hc.2.2.2.2.2.2.2.2.2 k' hk', hS, FrC_refl _⟩)
    refine b9_degree_13 j rfl hj hn0 (fun h3 => last (fun q => h3 q.1)) (fun h3 => b9_degree_25 T (fun h4 => last (fun q => i_nle.mpr (in_lt (by omega) q.2).2 (by rw [← e2]; exact h4))) (fun h4 => ?_))
    rw [e2] at h4
    have hk := in_of (by omega) h2' (i_nle.mp h4)
    have ea : aDegree st (nI j) w k = nI (pVd (sM st j) k.toNatClampNeg) := by
      unfold aDegree; rw [ej, cIf_pos ⟨h, h3, hk⟩]
    rw [ea]
    obtain ⟨k', hk', rfl, ek⟩ := in_j hk (by omega)
    rw [ek]
    exact b9_degree_34 T k' rfl (by omega) ⟨_, rfl, hc.2.2.2.2.2.2.2.2.1 k' hk', hS, FrC_refl _⟩
  · have : aDegree st x w k = -1 := by unfold aDegree; rw [cIf_neg (fun q => neg h2 q.2.2), cIf_neg (fun q => neg h2 q.2.2)]
    rw [this]; exact Cq_same hS
theorem c_distance (hS : ClsS tab M st) (hok : StOK st) {x v w : Int32} : EvI (E0 L xs) (d + 2) m9_distance [.ref 1, .int x, .int v, .int w] M (Cq tab M st (aDist st x v w)) := by
  have no : ¬ (vp_in x 4 ∧ vp_in v (pVn (sM st x.toNatClampNeg)) ∧ vp_in w (pVn (sM st x.toNatClampNeg))) → Wp (E0 L xs) (d + 2) m9_distance 18 [.ref 1, .int x, .int v, .int w] [] M (fun v' M' => ∃ r, v' = some (.int r) ∧ Cq tab M st (aDist st x v w) r M') := fun h => b9_distance_18 ⟨_, rfl, by rw [show aDist st x v w = -1 from cIf_neg h _ _]; exact Cq_same hS⟩
  refine Ev_of k9_distance rfl (Nat.le_of_ble_eq_true rfl) (b9_distance_0 (noVertex_ev hS hok) (fun r M1 hr => ?_))
  obtain ⟨hr, rfl⟩ := hr
  rcases hr with ⟨rfl, h1, h2⟩ | ⟨rfl, h1⟩
  · refine b9_distance_6 (fun h => absurd rfl h) (fun _ => b9_distance_9 (noVertex_ev hS hok) (fun r M2 hr => ?_))
    obtain ⟨hr, rfl⟩ := hr
    rcases hr with ⟨rfl, -, h3⟩ | ⟨rfl, h3⟩
    · have ea : aDist st x v w = nI (dst (sM st x.toNatClampNeg) v.toNatClampNeg w.toNatClampNeg) := by unfold aDist; rw [cIf_pos ⟨h1, h2, h3⟩]
      rw [ea]
      obtain ⟨j, hj, rfl, ej, hR, hc, hn0⟩ := cl_map hS h1
      rw [ej] at h2 h3 ⊢
      have hm := hok.2.2 j hj
      have hV := pVn_le hm.1
      obtain ⟨v', hv', rfl, ev⟩ := in_j h2 (by omega)
      obtain ⟨w', hw', rfl, ew⟩ := in_j h3 (by omega)
      rw [ev, ew]
      refine b9_distance_15 (fun _ => b9_distance_20 j rfl hj hn0 (measure_ev (d := d) hR hv' hm.1 hc) (fun M3 h4 => b9_distance_34 w' rfl (by omega) ⟨_, rfl, ?_⟩)) (fun h => absurd rfl h)
      refine ⟨?_, ClsS_sc hS (tDs_sc h4.1), tSc_C (tDs_sc h4.1)⟩
      exact (h4.2.1 w' (by omega)).trans (dsV_conn hm.1 hm.2.1 hv' hw')
    · exact b9_distance_15 (fun h => absurd h (by decide)) (fun _ => no (fun q => h3 ⟨q.1, q.2.2⟩))
  · exact b9_distance_6 (fun _ => no (fun q => h1 ⟨q.1, q.2.1⟩)) (fun h => absurd h (by decide))
theorem c_ring (hS : ClsS tab M st) (hok : StOK st) {x v k : Int32} : EvI (E0 L xs) (d + 2) m9_ring [.ref 1, .int x, .int v, .int k] M (Cq tab M st (aRing st x v k)) := by
  have no : ¬ (vp_in x 4 ∧ vp_in v (pVn (sM st x.toNatClampNeg)) ∧ ¬ k < -1) → Wp (E0 L xs) (d + 2) m9_ring 14 [.ref 1, .int x, .int v, .int k, .null, .null, .null] [] M (fun v' M' => ∃ r, v' = some (.int r) ∧ Cq tab M st (aRing st x v k) r M') := fun h => b9_ring_14 ⟨_, rfl, by rw [show aRing st x v k = -1 from cIf_neg h _ _]; exact Cq_same hS⟩
  refine Ev_of k9_ring rfl (Nat.le_of_ble_eq_true rfl) (b9_ring_0 (noVertex_ev hS hok) (fun r M1 hr => ?_))
  obtain ⟨hr, rfl⟩ := hr
  rcases hr with ⟨rfl, h1, h2⟩ | ⟨rfl, h1⟩
  · refine b9_ring_6 (fun h => absurd rfl h) (fun _ => b9_ring_9 (fun h3 => ?_) (fun h3 => no (fun q => q.2.2 (i_nle.mp h3))))
    have h3' : ¬ k < -1 := i_nlt.mpr h3
    have ea := show aRing st x v k = _ from cIf_pos ⟨h1, h2, h3'⟩ _ _
    rw [ea]
    obtain ⟨j, hj, rfl, ej, hR, hc, hn0⟩ := cl_map hS h1
    rw [ej] at h2 ⊢
    have hm := hok.2.2 j hj
    have hV := pVn_le hm.1
    obtain ⟨v', hv', rfl, ev⟩ := in_j h2 (by omega)
    rw [ev]
    have T := RMs_is (L := L) (xs := xs) hR
    have e2 : gI M1 (gR M1 4 j) 2 = nI (pVn (sM st j)) := hc.2.2.1
    refine b9_ring_16 j rfl hj hn0 T j rfl hj hn0 (measure_ev (d := d) hR hv' hm.1 hc) (fun M3 h4 => ?_)
    rw [e2]
    have hd3 : ∀ u, u < pVn (sM st j) → M3.1 55 u = nI (dst (sM st j) v' u) := fun u hu => (h4.2.1 u (by omega)).trans (dsV_conn hm.1 hm.2.1 hv' hu)
    have fin : ∀ {r0 : Int32}, Cq tab M1 st r0 r0 M3 := ⟨rfl, ClsS_sc hS (tDs_sc h4.1), tSc_C (tDs_sc h4.1)⟩
    refine b9_ring_41 (fun h5 => ?_) (fun h5 => ?_)
    · rw [if_neg h5]
      refine b9_ring_59 ?_
      suffices hloop : ∀ (q i : Nat), i + q = pVn (sM st j) → Wp (E0 L xs) (d + 2) m9_ring 65 [.ref 1, .int (nI j), .int (nI v'), .int k, .int (nI (pVn (sM st j))), .int (nI (cnB (fun u => decide (nI (dst (sM st j) v' u) = k)) i)), .int (nI i)] [] M3 (fun v M' => ∃ r, v = some (.int r) ∧ Cq tab M1 st (nI (cnB (fun u => decide (nI (dst (sM st j) v' u) = k)) (pVn (sM st j)))) r M') by
        exact hloop (pVn (sM st j)) 0 (by omega)
      intro q
      induction q with
      | zero =>
        intro i hi
        have : i = pVn (sM st j) := by omega
        subst this
        exact b9_ring_65 (fun _ => b9_ring_95 ⟨_, rfl, fin⟩) (fun h => absurd (nI_le (Nat.le_refl _) (by omega)) h)
      | succ q ih =>
        intro i hi
        have ecn : cnB (fun u => decide (nI (dst (sM st j) v' u) = k)) (i + 1) = cnB (fun u => decide (nI (dst (sM st j) v' u) = k)) i + (if decide (nI (dst (sM st j) v' i) = k) = true then 1 else 0) := rfl
        refine b9_ring_65 (fun h => absurd ((nI_leI (by omega) (by omega)).mp h) (by omega)) (fun _ => b9_ring_72 i rfl (by omega) (fun h => b9_ring_89 ?_) (fun h => b9_ring_86 (b9_ring_89 ?_)))
        · rw [show gI M3 55 i = _ from hd3 i (by omega)] at h
          have := ih (i + 1) (by omega)
          rw [ecn, if_neg (by simpa using h), Nat.add_zero] at this
          rw [nI_1]; exact this
        · rw [show gI M3 55 i = _ from hd3 i (by omega)] at h
          have := ih (i + 1) (by omega)
          rw [ecn, if_pos (decide_eq_true h)] at this
          rw [nI_1, nI_1]; exact this
    · rw [if_pos h5]
      refine b9_ring_46 (greatest_ev (f := dst (sM st j) v') (k := 32) rfl (by decide) hV hd3 (fun i _ => dst_lt hm.1 _ _)) (fun r M4 hr => b9_ring_58 ⟨_, rfl, ?_⟩)
      obtain ⟨rfl, rfl⟩ := hr
      exact fin
  · exact b9_ring_6 (fun _ => no (fun q => h1 ⟨q.1, q.2.1⟩)) (fun h => absurd h (by decide))
end CQ3
