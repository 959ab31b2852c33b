/-! the class's codes -/
section CQ4
variable {L : Nat} {xs : Nat → Int32} {d : Nat} {tab : Nat → Nat → Int64} {M : ME} {st : ST}
theorem tWc_sc {M M' : ME} {c : Nat} (hc : c = 61 ∨ c = 62) (f : Fr (tWc c) M M') : Fr tSc M M' := Fr_mono f (fun k j q => by
  have h1 : tNm k j = false := by
    unfold tNm
    split
    · cases q
    · cases q
    · cases q
    · cases q
    · rfl
  have h2 : k ≠ c := fun e => by rw [e] at q; rcases hc with rfl | rfl <;> cases q
  show (tNm k j || k == c) = false
  rw [h1, Bool.false_or]
  simp [h2])
theorem tWc_f {a c k j : Nat} (h : RMs a) (hc : c = 61 ∨ c = 62) (h1 : a ≤ k) (h2 : k ≤ a + 6) : tWc c k j = false := by
  show (tNm k j || k == c) = false
  rw [tNm_f h h1 h2, Bool.false_or]
  have : k ≠ c := by rcases hc with rfl | rfl <;> rcases h with rfl | rfl | rfl | rfl | rfl <;> omega
  simp [this]
theorem rt_lt {m : PMp} (hm : PV m) : pR m < pN m ∨ (pE m = 0 ∧ pR m = 0) := hm.2.2
theorem c_code (hS : ClsS tab M st) (hok : StOK st) {x i : Int32} : EvI (E0 L xs) (d + 4) m9_code [.ref 1, .int x, .int i] M (Cq tab M st (aCode st x i)) := by
  refine Ev_of k9_code rfl (Nat.le_of_ble_eq_true rfl) (b9_code_0 (noDart_ev hS hok) (fun r M1 hr => ?_))
  obtain ⟨hr, rfl⟩ := hr
  rcases hr with ⟨rfl, h1, h2⟩ | ⟨rfl, h1⟩
  · have ea := show aCode st x i = _ from cIf_pos ⟨h1, h2⟩ _ _
    rw [ea]
    obtain ⟨j, hj, rfl, ej, hR, hc, hn0⟩ := cl_map hS h1
    rw [ej] at h2 ⊢
    have hm := hok.2.2 j hj
    have hN := MV_N hm.1
    obtain ⟨i', hi', rfl, ei⟩ := in_j h2 (by omega)
    rw [ei]
    have hE : 0 < pE (sM st j) := by have : i' < 2 * (sM st j).1 := hi'; show 0 < (sM st j).1; omega
    have hr : pR (sM st j) < pN (sM st j) := by rcases rt_lt hm.1 with q | q; exact q; omega
    have e1 : gI M1 (gR M1 4 j) 1 = nI (pR (sM st j)) := hc.2.1
    refine b9_code_6 (fun _ => b9_code_11 (R' := fun M => Fr (tWc 61) M1 M ∧ (0 < pE (sM st j) → ∀ i, i < (cdL (sM st j) (pR (sM st j))).length → M.1 61 i = cdV (sM st j) (pR (sM st j)) i)) j rfl hj hn0 j rfl hj hn0 (RMs_is hR) (by rw [e1]; exact writeCode_ev (d := d) hR (Or.inl rfl) hm.1 hc (rt_lt hm.1)) (fun M3 h4 => b9_code_37 i' rfl (by omega) ⟨_, rfl, ?_⟩)) (fun h => absurd rfl h)
    have f := tWc_sc (Or.inl rfl) h4.1
    exact ⟨h4.2 hE i' (by rw [cdL_len hm.1 hm.2.1 hr]; exact hi'), ClsS_sc hS f, tSc_C f⟩
  · refine b9_code_6 (fun h => absurd h (by decide)) (fun _ => b9_code_9 ⟨_, rfl, ?_⟩)
    rw [show aCode st x i = -1 from cIf_neg h1 _ _]; exact Cq_same hS
/-- the other map's code is the one that stands in the first row -/
def cd1 (M : ME) (m : PMp) : Prop := 0 < pE m → ∀ i, i < pN m → M.1 61 i = cdV m (pR m) i
theorem hasOneCode_ev {a x : Nat} {m m' : PMp} (ha : RMs a) (hm : PV m') (hc' : Conn m') (hc : cM M a m') (h1 : cd1 M m) (hE : pE m = pE m') (hx : x < pN m' ∨ (pE m' = 0 ∧ x = 0)) : EvI (E0 L xs) (d + 4) m9_hasOneCode [.ref 1, .ref a, .int (nI x)] M (fun r M' => r = b2i (smC m (pR m) m' x (pN m')) ∧ Fr (tWc 62) M M') := by
  have T := RMs_is (L := L) (xs := xs) ha
  have hN := MV_N hm
  refine Ev_of k9_hasOneCode rfl (Nat.le_of_ble_eq_true rfl) (b9_hasOneCode_0 (writeCode_ev (d := d) ha (Or.inr rfl) hm hc hx) (fun M1 h2 => b9_hasOneCode_13 ?_))
  have hc1 : cM M1 a m' := cM_fr hc h2.1 (fun k j q1 q2 => tWc_f ha (Or.inr rfl) q1 q2)
  have e0 : 2 * gI M1 a 0 = nI (pN m') := by rw [show gI M1 a 0 = _ from hc1.1]; exact pk_mul 2 _
  have a1 : ∀ i, i < pN m' → M1.1 61 i = cdV m (pR m) i := fun i hi => (h2.1.1 61 i rfl).trans (h1 (by have : i < 2 * m'.1 := hi; have e : m.1 = m'.1 := hE; show 0 < m.1; omega) i (by show i < 2 * m.1; rw [show m.1 = m'.1 from hE]; exact hi))
  have a2 : ∀ i, i < pN m' → M1.1 62 i = cdV m' x i := fun i hi => h2.2 (by have : i < 2 * m'.1 := hi; show 0 < m'.1; omega) i (by
    rcases hx with q | q
    · rw [cdL_len hm hc' q]; exact hi
    · have : i < 2 * m'.1 := hi; have e : m'.1 = 0 := q.1; omega)
  suffices hloop : ∀ (q i : Nat), i + q = pN m' → (∀ j, j < i → cdV m (pR m) j = cdV m' x j) → Wp (E0 L xs) (d + 4) m9_hasOneCode 15 [.ref 1, .ref a, .int (nI x), .int (nI i)] [] M1 (fun v M' => ∃ r, v = some (.int r) ∧ (r = b2i (smC m (pR m) m' x (pN m')) ∧ Fr (tWc 62) M M')) by
    exact hloop (pN m') 0 (by omega) (fun j hj => absurd hj (Nat.not_lt_zero _))
  intro q
  induction q with
  | zero =>
    intro i hi hf
    have : i = pN m' := by omega
    subst this
    refine b9_hasOneCode_15 T (fun _ => b9_hasOneCode_46 ⟨_, rfl, ?_, h2.1⟩) (fun h => absurd (by rw [e0]; exact nI_le (Nat.le_refl _) (by omega)) h)
    rw [show smC m (pR m) m' x (pN m') = true from alB_iff.mpr (fun j hj => decide_eq_true (hf j hj))]; rfl
  | succ q ih =>
    intro i hi hf
    refine b9_hasOneCode_15 T (fun h => absurd ((nI_leI (a := pN m') (b := i) (by omega) (by omega)).mp (by rw [← e0]; exact h)) (by omega)) (fun _ => b9_hasOneCode_23 i rfl (by omega) i rfl (by omega) (fun h => b9_hasOneCode_40 ?_) (fun h => b9_hasOneCode_38 ⟨_, rfl, ?_, h2.1⟩))
    · rw [nI_1]
      refine ih (i + 1) (by omega) (fun j hj => ?_)
      by_cases e : j = i
      · rw [e, ← a1 i (by omega), ← a2 i (by omega)]; exact h
      · exact hf j (by omega)
    · rw [show smC m (pR m) m' x (pN m') = false from alB_f ⟨i, by omega, decide_eq_false (fun z => h (by rw [show gI M1 61 i = _ from a1 i (by omega), show gI M1 62 i = _ from a2 i (by omega)]; exact z))⟩]; rfl
theorem cd1_fr {M' : ME} {m : PMp} (h : cd1 M m) (f : Fr (tWc 62) M M') : cd1 M' m := fun hE i hi => (f.1 61 i rfl).trans (h hE i hi)
theorem rootingsOfOneCode_ev {a : Nat} {m m' : PMp} (ha : RMs a) (hm : PV m') (hc' : Conn m') (hc : cM M a m') (h1 : cd1 M m) (hE : pE m = pE m') : EvI (E0 L xs) (d + 5) m9_rootingsOfOneCode [.ref 1, .ref a] M (fun r M' => r = nI (rtC m m' (pN m')) ∧ Fr (tWc 62) M M') := by
  have T := RMs_is (L := L) (xs := xs) ha
  have hN := MV_N hm
  refine Ev_of k9_rootingsOfOneCode rfl (Nat.le_of_ble_eq_true rfl) (b9_rootingsOfOneCode_0 ?_)
  suffices hloop : ∀ (q i : Nat) (M1 : ME), i + q = pN m' → Fr (tWc 62) M M1 → Wp (E0 L xs) (d + 5) m9_rootingsOfOneCode 4 [.ref 1, .ref a, .int (nI (rtC m m' i)), .int (nI i)] [] M1 (fun v M' => ∃ r, v = some (.int r) ∧ (r = nI (rtC m m' (pN m')) ∧ Fr (tWc 62) M M')) by
    exact hloop (pN m') 0 M (by omega) (Fr_refl _ _)
  intro q
  induction q with
  | zero =>
    intro i M1 hi hf
    have hc1 : cM M1 a m' := cM_fr hc hf (fun k j q1 q2 => tWc_f ha (Or.inr rfl) q1 q2)
    have e0 : 2 * gI M1 a 0 = nI (pN m') := by rw [show gI M1 a 0 = _ from hc1.1]; exact pk_mul 2 _
    have : i = pN m' := by omega
    subst this
    exact b9_rootingsOfOneCode_4 T (fun _ => b9_rootingsOfOneCode_30 ⟨_, rfl, rfl, hf⟩) (fun h => absurd (by rw [e0]; exact nI_le (Nat.le_refl _) (by omega)) h)
  | succ q ih =>
    intro i M1 hi hf
    have hc1 : cM M1 a m' := cM_fr hc hf (fun k j q1 q2 => tWc_f ha (Or.inr rfl) q1 q2)
    have e0 : 2 * gI M1 a 0 = nI (pN m') := by rw [show gI M1 a 0 = _ from hc1.1]; exact pk_mul 2 _
    refine b9_rootingsOfOneCode_4 T (fun h => absurd ((nI_leI (a := pN m') (b := i) (by omega) (by omega)).mp (by rw [← e0]; exact h)) (by omega)) (fun _ => b9_rootingsOfOneCode_12 (hasOneCode_ev (d := d) ha hm hc' hc1 (cd1_fr h1 hf) hE (Or.inl (show i < pN m' by omega))) (fun r M2 hr => ?_))
    obtain ⟨rfl, h2⟩ := hr
    have ecn : rtC m m' (i + 1) = rtC m m' i + (if smC m (pR m) m' i (pN m') = true then 1 else 0) := rfl
    have := ih (i + 1) M2 (by omega) (Fr_trans hf h2)
    rw [ecn] at this
    cases e : smC m (pR m) m' i (pN m') with
    | true =>
      rw [if_pos e] at this
      exact b9_rootingsOfOneCode_18 (fun h => absurd h (by decide)) (fun _ => b9_rootingsOfOneCode_21 (b9_rootingsOfOneCode_24 (by rw [nI_1, nI_1]; exact this)))
    | false =>
      rw [if_neg (by rw [e]; decide), Nat.add_zero] at this
      exact b9_rootingsOfOneCode_18 (fun _ => b9_rootingsOfOneCode_24 (by rw [nI_1]; exact this)) (fun h => absurd rfl h)
theorem rtC_le (m m' : PMp) (n : Nat) : rtC m m' n ≤ n := cnB_le _ _
theorem c_rootings (hS : ClsS tab M st) (hok : StOK st) {x : Int32} : EvI (E0 L xs) (d + 6) m9_rootings [.ref 1, .int x] M (Cq tab M st (aRootings st x)) := by
  refine Ev_of k9_rootings rfl (Nat.le_of_ble_eq_true rfl) (b9_rootings_0 (fun h => b9_rootings_7 ⟨_, rfl, ?_⟩) (fun h => ?_))
  · rw [show aRootings st x = -1 from cIf_neg h _ _]; exact Cq_same hS
  · rw [show aRootings st x = _ from cIf_pos h _ _]
    obtain ⟨j, hj, rfl, ej, hR, hc, hn0⟩ := cl_map hS h
    rw [ej]
    have hm := hok.2.2 j hj
    have hN := MV_N hm.1
    have e1 : gI M (gR M 4 j) 1 = nI (pR (sM st j)) := hc.2.1
    have T := RMs_is (L := L) (xs := xs) hR
    refine b9_rootings_9 (R' := fun M2 => Fr (tWc 61) M M2 ∧ (0 < pE (sM st j) → ∀ i, i < (cdL (sM st j) (pR (sM st j))).length → M2.1 61 i = cdV (sM st j) (pR (sM st j)) i)) j rfl hj hn0 T (by rw [e1]; exact writeCode_ev (d := d + 2) hR (Or.inl rfl) hm.1 hc (rt_lt hm.1)) (fun M2 h2 => ?_)
    have hc2 : cM M2 (gR M 4 j) (sM st j) := cM_fr hc h2.1 (fun k j q1 q2 => tWc_f hR (Or.inl rfl) q1 q2)
    have h3 : cd1 M2 (sM st j) := fun hE i hi => h2.2 hE i (by
      rcases rt_lt hm.1 with q | q
      · rw [cdL_len hm.1 hm.2.1 q]; exact hi
      · omega)
    refine b9_rootings_32 (rootingsOfOneCode_ev (d := d) hR hm.1 hm.2.1 hc2 h3 rfl) (fun r M3 hr => ?_)
    obtain ⟨rfl, h4⟩ := hr
    have f := Fr_trans (tWc_sc (Or.inl rfl) h2.1) (tWc_sc (Or.inr rfl) h4)
    have hle := rtC_le (sM st j) (sM st j) (pN (sM st j))
    have hc3 : cM M3 (gR M 4 j) (sM st j) := cM_fr hc2 h4 (fun k j q1 q2 => tWc_f hR (Or.inr rfl) q1 q2)
    have e0 : 2 * gI M3 (gR M 4 j) 0 = nI (pN (sM st j)) := by rw [show gI M3 (gR M 4 j) 0 = _ from hc3.1]; exact pk_mul 2 _
    refine b9_rootings_37 (fun h5 => b9_rootings_51 (b9_rootings_52 ⟨_, rfl, ?_⟩)) (fun h5 => b9_rootings_42 T (fun z => h5 (by rw [z]; exact Int32.le_refl _)) (b9_rootings_52 ⟨_, rfl, ?_⟩))
    · have : ¬ 0 < rtC (sM st j) (sM st j) (pN (sM st j)) := by
        have := (nI_leI (a := rtC (sM st j) (sM st j) (pN (sM st j))) (b := 0) (by omega) (by decide)).mp h5
        omega
      unfold rtg
      rw [if_neg this]
      exact Cq_sc hS f
    · have : 0 < rtC (sM st j) (sM st j) (pN (sM st j)) := by
        have := mt (nI_leI (a := rtC (sM st j) (sM st j) (pN (sM st j))) (b := 0) (by omega) (by decide)).mpr h5
        omega
      unfold rtg
      rw [if_pos this, e0, pk_div (by omega) this (by omega)]
      exact Cq_sc hS f
end CQ4
