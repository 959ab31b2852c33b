/-! the class's questions about maps -/
section CQ2
variable {L : Nat} {xs : Nat → Int32} {d : Nat} {tab : Nat → Nat → Int64} {M : ME} {st : ST}
theorem tDs_sc {M M' : ME} (f : Fr tDs M M') : Fr tSc M M' := Fr_mono f (fun k j q => by
  unfold tDs
  split
  · cases q
  · cases q
  · rfl)
theorem nI_and1 (k : Nat) (hk : k < 2 ^ 31) : nI k &&& 1 = nI (k % 2) := pk_andN (k := 1) (by omega) rfl
theorem dst_lt {m : PMp} (hm : PV m) (w v : Nat) : dst m w v < 2 ^ 30 := by have := dst_le m w v; have := pVn_le hm; omega
/-- does a dart begin an even distance off -/
def evB (m : PMp) (w x : Nat) : Bool := decide (dst m w (pVo m x) % 2 = 0)
/-- the distances from w stand in the class's row -/
def dRow (M : ME) (m : PMp) (w : Nat) : Prop := ∀ v, v < pVn m → M.1 55 v = nI (dst m w v)
theorem startsEven_ev {a x w : Nat} {m : PMp} (ha : RMs a) (hm : PV m) (hc : cM M a m) (hd : dRow M m w) (hx : x < pN m) : EvI (E0 L xs) d m9_startsEven [.ref 1, .ref a, .int (nI x)] M (fun r M' => r = b2i (evB m w x) ∧ M' = M) := by
  have T := RMs_is (L := L) (xs := xs) ha
  have hV := pVo_lt hm hx
  have hx2 : x < 2 * m.1 := hx
  have hE : m.1 ≤ 16 := hm.1
  have e1 : gI M (a + 3) x = nI (pVo m x) := hc.2.2.2.2.2.2.1 x hx
  have e2 : gI M 55 (pVo m x) = nI (dst m w (pVo m x)) := hd _ (pVo_ltV hm hx)
  have hl := dst_lt hm w (pVo m x)
  refine Ev_of k9_startsEven rfl (Nat.le_of_ble_eq_true rfl) (b9_startsEven_0 T x rfl (by omega) (pVo m x) e1 hV (fun h => ?_) (fun h => ?_))
  · have q : ¬ dst m w (pVo m x) % 2 = 0 := fun z => h (by rw [e2, nI_and1 _ (by omega), z]; rfl)
    exact b9_startsEven_23 (b9_startsEven_24 (by decide) ⟨_, rfl, by unfold evB; rw [decide_eq_false q]; rfl, rfl⟩)
  · rw [e2, nI_and1 _ (by omega)] at h
    have q : dst m w (pVo m x) % 2 = 0 := (nI_eq (b := 0) (by omega) (by decide)).mp h
    exact b9_startsEven_19 (b9_startsEven_24 (by decide) ⟨_, rfl, by unfold evB; rw [decide_eq_true q]; rfl, rfl⟩)
theorem b2i_eq {a b : Bool} : b2i a = b2i b ↔ a = b := by cases a <;> cases b <;> decide
theorem two_even {m : PMp} : two m = true ↔ ∀ e, e < pE m → evB m 0 (2 * e) ≠ evB m 0 (2 * e + 1) := by
  have o1 : ∀ e, ox (2 * e) = 2 * e + 1 := fun e => by unfold ox; rw [if_pos (by omega)]
  have o2 : ∀ e, ox (2 * e + 1) = 2 * e := fun e => by unfold ox; rw [if_neg (by omega)]; omega
  have key : ∀ x y : Nat, evB m 0 x ≠ evB m 0 y ↔ dst m 0 (pVo m x) % 2 ≠ dst m 0 (pVo m y) % 2 := fun x y => by
    unfold evB
    have h1 := Nat.mod_lt (dst m 0 (pVo m x)) (show 0 < 2 by decide)
    have h2 := Nat.mod_lt (dst m 0 (pVo m y)) (show 0 < 2 by decide)
    by_cases q1 : dst m 0 (pVo m x) % 2 = 0 <;> by_cases q2 : dst m 0 (pVo m y) % 2 = 0 <;> simp [q1, q2] <;> omega
  rw [show two m = alB (fun x => decide (dst m 0 (pVo m x) % 2 ≠ dst m 0 (pVo m (ox x)) % 2)) (pN m) from rfl, alB_iff]
  constructor
  · intro h e he
    have := of_decide_eq_true (h (2 * e) (by show 2 * e < 2 * m.1; have h9 : e < m.1 := he; omega))
    rw [o1] at this
    exact (key _ _).mpr this
  · intro h x hx
    have hx2 : x < 2 * m.1 := hx
    have h1 := h (x / 2) (by show x / 2 < m.1; omega)
    have : x = 2 * (x / 2) ∨ x = 2 * (x / 2) + 1 := by omega
    refine decide_eq_true ?_
    rcases this with q | q
    · rw [q, o1]; exact (key _ _).mp h1
    · rw [q, o2]; exact Ne.symm ((key _ _).mp h1)
theorem hasTwoSorts_ev {a : Nat} {m : PMp} (ha : RMs a) (hm : MV m) (hc : cM M a m) : EvI (E0 L xs) (d + 2) m9_hasTwoSorts [.ref 1, .ref a] M (fun r M' => r = b2i (two m) ∧ Fr tDs M M') := by
  have T := RMs_is (L := L) (xs := xs) ha
  have hE : m.1 ≤ 16 := hm.1.1
  refine Ev_of k9_hasTwoSorts rfl (Nat.le_of_ble_eq_true rfl) (b9_hasTwoSorts_0 (measure_ev (w := 0) ha (pVn_pos hm.1) hm.1 hc) (fun M1 h1 => b9_hasTwoSorts_9 ?_))
  have hc1 : cM M1 a m := cM_fr hc h1.1 (fun k j q1 q2 => tDs_f ha q1 q2)
  have hd1 : dRow M1 m 0 := fun v hv => (h1.2.1 v (by have := pVn_le hm.1; omega)).trans (dsV_conn hm.1 hm.2.1 (pVn_pos hm.1) hv)
  have e0 : 2 * gI M1 a 0 = nI (2 * m.1) := by rw [show gI M1 a 0 = _ from hc1.1]; exact pk_mul 2 _
  suffices hloop : ∀ (q e : Nat), e + q = m.1 → (∀ f, f < e → evB m 0 (2 * f) ≠ evB m 0 (2 * f + 1)) → Wp (E0 L xs) (d + 2) m9_hasTwoSorts 11 [.ref 1, .ref a, .int (nI (2 * e))] [] M1 (fun v M' => ∃ r, v = some (.int r) ∧ (r = b2i (two m) ∧ Fr tDs M M')) by
    exact hloop m.1 0 (by omega) (fun f hf => absurd hf (Nat.not_lt_zero _))
  intro q
  induction q with
  | zero =>
    intro e he hf
    have : e = m.1 := by omega
    subst this
    refine b9_hasTwoSorts_11 T (fun _ => b9_hasTwoSorts_44 ⟨_, rfl, ?_, h1.1⟩) (fun h => absurd (by rw [e0]; exact nI_le (Nat.le_refl _) (by omega)) h)
    rw [two_even.mpr hf]; rfl
  | succ q ih =>
    intro e he hf
    refine b9_hasTwoSorts_11 T (fun h => ?_) (fun _ => b9_hasTwoSorts_19 (startsEven_ev ha hm.1 hc1 hd1 (show 2 * e < 2 * m.1 by omega)) (fun r M2 hr => ?_))
    · rw [e0] at h
      exact absurd ((nI_leI (by omega) (by omega)).mp h) (by omega)
    · obtain ⟨rfl, rfl⟩ := hr
      refine b9_hasTwoSorts_25 (R' := fun r M' => r = b2i (evB m 0 (2 * e + 1)) ∧ M' = M2) ?_ (fun r M3 hr => ?_)
      · rw [nI_1]; exact startsEven_ev ha hm.1 hc1 hd1 (show 2 * e + 1 < 2 * m.1 by omega)
      · obtain ⟨rfl, rfl⟩ := hr
        refine b9_hasTwoSorts_33 (fun h => b9_hasTwoSorts_38 ?_) (fun h => b9_hasTwoSorts_36 ⟨_, rfl, ?_, h1.1⟩)
        · rw [show nI (2 * e) + 2 = nI (2 * (e + 1)) from nI_add _ 2]
          refine ih (e + 1) (by omega) (fun f hf2 => ?_)
          by_cases ef : f = e
          · rw [ef]; exact fun z => h (b2i_eq.mpr z)
          · exact hf f (by omega)
        · have : two m = false := Bool.eq_false_iff.mpr (fun z => two_even.mp z e (show e < m.1 by omega) (b2i_eq.mp h))
          rw [this]; rfl
theorem edgesInOneFace_ev {a : Nat} {m : PMp} (ha : RMs a) (hm : PV m) (hc : cM M a m) : EvI (E0 L xs) (d + 1) m4_edgesInOneFace [.ref a] M (fun r M' => r = nI (brg m) ∧ M' = M) := by
  have T := RMs_is (L := L) (xs := xs) ha
  have hE : m.1 ≤ 16 := hm.1
  have e0 : 2 * gI M a 0 = nI (2 * m.1) := by rw [show gI M a 0 = _ from hc.1]; exact pk_mul 2 _
  have hfo := hc.2.2.2.2.2.2.2.1
  refine Ev_of k4_edgesInOneFace rfl (Nat.le_of_ble_eq_true rfl) (b4_edgesInOneFace_0 ?_)
  suffices hloop : ∀ (q e : Nat), e + q = m.1 → Wp (E0 L xs) (d + 1) m4_edgesInOneFace 4 [.ref a, .int (nI (cnB (fun e => decide (pFo m (2 * e) = pFo m (2 * e + 1))) e)), .int (nI (2 * e))] [] M (fun v M' => ∃ r, v = some (.int r) ∧ (r = nI (brg m) ∧ M' = M)) by
    exact hloop m.1 0 (by omega)
  intro q
  induction q with
  | zero =>
    intro e he
    have : e = m.1 := by omega
    subst this
    exact b4_edgesInOneFace_4 T (fun _ => b4_edgesInOneFace_38 ⟨_, rfl, rfl, rfl⟩) (fun h => absurd (by rw [e0]; exact nI_le (Nat.le_refl _) (by omega)) h)
  | succ q ih =>
    intro e he
    have h1 : gI M (a + 4) (2 * e) = nI (pFo m (2 * e)) := hfo _ (show 2 * e < 2 * m.1 by omega)
    have h2 : gI M (a + 4) (2 * e + 1) = nI (pFo m (2 * e + 1)) := hfo _ (show 2 * e + 1 < 2 * m.1 by omega)
    have l1 := pFo_ltF hm (x := 2 * e) (show 2 * e < 2 * m.1 by omega)
    have l2 := pFo_ltF hm (x := 2 * e + 1) (show 2 * e + 1 < 2 * m.1 by omega)
    have l3 := pFn_le hm
    have ecn : cnB (fun e => decide (pFo m (2 * e) = pFo m (2 * e + 1))) (e + 1) = cnB (fun e => decide (pFo m (2 * e) = pFo m (2 * e + 1))) e + (if decide (pFo m (2 * e) = pFo m (2 * e + 1)) = true then 1 else 0) := rfl
    refine b4_edgesInOneFace_4 T (fun h => ?_) (fun _ => b4_edgesInOneFace_12 T (2 * e) rfl (by omega) (2 * e + 1) (nI_1 _) (by omega) (fun h => b4_edgesInOneFace_32 ?_) (fun h => b4_edgesInOneFace_29 (b4_edgesInOneFace_32 ?_)))
    · rw [e0] at h
      exact absurd ((nI_leI (by omega) (by omega)).mp h) (by omega)
    · rw [h1, h2] at h
      have q : ¬ pFo m (2 * e) = pFo m (2 * e + 1) := fun z => h (by rw [z])
      rw [show nI (2 * e) + 2 = nI (2 * (e + 1)) from nI_add _ 2]
      have := ih (e + 1) (by omega)
      rw [ecn, if_neg (by simpa using q), Nat.add_zero] at this
      exact this
    · rw [h1, h2] at h
      have q : pFo m (2 * e) = pFo m (2 * e + 1) := (nI_eq (by omega) (by omega)).mp h
      rw [show nI (2 * e) + 2 = nI (2 * (e + 1)) from nI_add _ 2, nI_1]
      have := ih (e + 1) (by omega)
      rw [ecn, if_pos (decide_eq_true q)] at this
      exact this
theorem c_of (hS : ClsS tab M st) (hok : StOK st) {x w : Int32} : EvI (E0 L xs) (d + 3) m9_of [.ref 1, .int x, .int w] M (Cq tab M st (aOf st x w)) := by
  refine Ev_of k9_of rfl (Nat.le_of_ble_eq_true rfl) (b9_of_0 (fun h => b9_of_7 ⟨_, rfl, ?_⟩) (fun h => ?_))
  · rw [show aOf st x w = -1 from cIf_neg h _ _]; exact Cq_same hS
  · obtain ⟨j, hj, rfl, ej, hR, hc, hn0⟩ := cl_map hS h
    have hm := hok.2.2 j hj
    have ea : aOf st (nI j) w = ofV (sM st j) w := by unfold aOf; rw [cIf_pos h, ej]
    rw [ea]
    have T := RMs_is (L := L) (xs := xs) hR
    have hV := pVn_le hm.1
    have hF := pFn_le hm.1
    have hN : pN (sM st j) ≤ 32 := by have := hm.1.1; show 2 * (sM st j).1 ≤ 32; omega
    refine b9_of_9 j rfl hj hn0 (fun h => b9_of_68 T ⟨_, rfl, ?_⟩) (fun h => b9_of_73 T ⟨_, rfl, ?_⟩) (fun h => b9_of_78 T ⟨_, rfl, ?_⟩) (fun h => b9_of_83 T ⟨_, rfl, ?_⟩) (fun h => b9_of_88 T (R' := fun r M' => r = nI (mxN (pVd (sM st j)) (pVn (sM st j))) ∧ M' = M) ?_ (fun r M' hr => b9_of_99 ⟨_, rfl, ?_⟩)) (fun h => b9_of_100 T (R' := fun r M' => r = nI (mxN (pFd (sM st j)) (pFn (sM st j))) ∧ M' = M) ?_ (fun r M' hr => b9_of_111 ⟨_, rfl, ?_⟩)) (fun h => b9_of_112 T (hasFourSides_ev hR hm.1 hc) (fun r M' hr => ?_)) (fun h => b9_of_125 (hasTwoSorts_ev hR hm hc) (fun r M' hr => ?_)) (fun h => b9_of_139 T (edgesInOneFace_ev hR hm.1 hc) (fun r M' hr => b9_of_143 ⟨_, rfl, ?_⟩)) (fun h => b9_of_144 ⟨_, rfl, ?_⟩)
    · subst h; exact ⟨hc.1, hS, FrC_refl M⟩
    · subst h; exact ⟨hc.2.2.1, hS, FrC_refl M⟩
    · subst h; exact ⟨hc.2.2.2.1, hS, FrC_refl M⟩
    · subst h; exact ⟨hc.2.1, hS, FrC_refl M⟩
    · rw [show gI M _ 2 = _ from hc.2.2.1]
      exact greatest_ev T.2.2.2.2.2.1 (by decide) hV hc.2.2.2.2.2.2.2.2.1 (fun i _ => by have := szO_le (pX (sM st j)) (pN (sM st j)) i; show szO _ _ _ < _; omega)
    · subst h; obtain ⟨rfl, rfl⟩ := hr; exact Cq_same hS
    · rw [show gI M _ 3 = _ from hc.2.2.2.1]
      exact greatest_ev T.2.2.2.2.2.2 (by decide) hF hc.2.2.2.2.2.2.2.2.2 (fun i _ => by have := szO_le (pF (sM st j)) (pN (sM st j)) i; show szO _ _ _ < _; omega)
    · subst h; obtain ⟨rfl, rfl⟩ := hr; exact Cq_same hS
    · subst h; obtain ⟨rfl, rfl⟩ := hr
      have e6 : ofV (sM st j) 6 = b2i (fr4 (sM st j)) := rfl
      rw [e6]
      cases fr4 (sM st j) with
      | true => exact b9_of_116 (fun h => absurd h (by decide)) (fun _ => b9_of_119 (b9_of_124 ⟨_, rfl, Cq_same hS⟩))
      | false => exact b9_of_116 (fun _ => b9_of_123 (b9_of_124 ⟨_, rfl, Cq_same hS⟩)) (fun h => absurd rfl h)
    · subst h; obtain ⟨rfl, hf⟩ := hr
      have e6 : ofV (sM st j) 7 = b2i (two (sM st j)) := rfl
      rw [e6]
      cases two (sM st j) with
      | true => exact b9_of_130 (fun h => absurd h (by decide)) (fun _ => b9_of_133 (b9_of_138 ⟨_, rfl, Cq_sc hS (tDs_sc hf)⟩))
      | false => exact b9_of_130 (fun _ => b9_of_137 (b9_of_138 ⟨_, rfl, Cq_sc hS (tDs_sc hf)⟩)) (fun h => absurd rfl h)
    · subst h; obtain ⟨rfl, rfl⟩ := hr; exact Cq_same hS
    · refine ⟨?_, hS, FrC_refl M⟩
      unfold ofV
      rw [if_neg (sw_ne h 0 rfl (by decide) (by decide)), if_neg (sw_ne h 1 rfl (by decide) (by decide)), if_neg (sw_ne h 2 rfl (by decide) (by decide)), if_neg (sw_ne h 3 rfl (by decide) (by decide)), if_neg (sw_ne h 4 rfl (by decide) (by decide)), if_neg (sw_ne h 5 rfl (by decide) (by decide)), if_neg (sw_ne h 6 rfl (by decide) (by decide)), if_neg (sw_ne h 7 rfl (by decide) (by decide)), if_neg (sw_ne h 8 rfl (by decide) (by decide))]
end CQ2
