/-! the class: a map made of another -/
section COP
variable {L : Nat} {xs : Nat → Int32} {d : Nat} {tab : Nat → Nat → Int64} {M : ME} {st : ST}
/-- a call that changes the state -/
def Co (tab : Nat → Nat → Int64) (M : ME) (p : Int32 × ST) : Int32 → ME → Prop := fun r M' => r = p.1 ∧ ClsS tab M' p.2 ∧ FrC M M'
theorem keep_ok {j : Nat} {m : PMp} (hS : ClsS tab M st) (hj : j < 4) (hc : cM M (M.2.2 1 4) m) : ClsS tab (sR (sR M 1 4 (M.2.2 4 j)) 4 j (M.2.2 1 4)) (setM st j m) := by
  obtain ⟨h1, h2, h3, h4, ⟨⟨g1, g2, g3, g4⟩, g5⟩, h6, h7⟩ := hS
  have r4 : ∀ i, (sR (sR M 1 4 (M.2.2 4 j)) 4 j (M.2.2 1 4)).2.2 4 i = if i = j then M.2.2 1 4 else M.2.2 4 i := by
    intro i
    show up2 (up2 M.2.2 1 4 (M.2.2 4 j)) 4 j (M.2.2 1 4) 4 i = _
    unfold up2
    by_cases e : i = j <;> simp [e]
  have r1 : (sR (sR M 1 4 (M.2.2 4 j)) 4 j (M.2.2 1 4)).2.2 1 4 = M.2.2 4 j := by
    show up2 (up2 M.2.2 1 4 (M.2.2 4 j)) 4 j (M.2.2 1 4) 1 4 = _
    unfold up2
    simp
  have r3 : ∀ s, (sR (sR M 1 4 (M.2.2 4 j)) 4 j (M.2.2 1 4)).2.2 3 s = M.2.2 3 s := by
    intro s
    show up2 (up2 M.2.2 1 4 (M.2.2 4 j)) 4 j (M.2.2 1 4) 3 s = _
    unfold up2
    simp
  refine ⟨h1, h2, h3, fun s hs => ⟨(r3 s).trans (h4 s hs).1, (h4 s hs).2⟩, ⟨⟨fun i hi => ?_, ?_, fun i k hi hk e => ?_, fun i hi e => ?_⟩, fun s hs => ?_⟩, h6, h7⟩
  · rw [r4]
    by_cases e : i = j
    · rw [if_pos e]; exact g2
    · rw [if_neg e]; exact g1 i hi
  · rw [r1]; exact g1 j hj
  · rw [r4, r4] at e
    by_cases e1 : i = j
    · by_cases e2 : k = j
      · rw [e1, e2]
      · rw [if_pos e1, if_neg e2] at e
        exact absurd e.symm (g4 k hk)
    · by_cases e2 : k = j
      · rw [if_neg e1, if_pos e2] at e
        exact absurd e (g4 i hi)
      · rw [if_neg e1, if_neg e2] at e
        exact g3 i k hi hk e
  · rw [r4, r1] at e
    by_cases e1 : i = j
    · rw [if_pos e1] at e
      exact g4 j hj e.symm
    · rw [if_neg e1] at e
      exact e1 (g3 i j hi hj e)
  · rw [r4]
    show cM M _ (if s = j then m else sM st s)
    by_cases e : s = j
    · rw [if_pos e, if_pos e]; exact hc
    · rw [if_neg e, if_neg e]; exact g5 s hs
theorem finishDraft_ev {j : Nat} {m : PMp} (hS : ClsS tab M st) (hj : j < 4) (hm : PV m) (h0 : cM0 M (M.2.2 1 4) m) : EvI (E0 L xs) (d + 3) m9_finishDraft [.ref 1, .int (nI j)] M (Co tab M (keep st j m)) := by
  obtain ⟨d1, d2, d3⟩ := cl_dr hS
  refine Ev_of k9_finishDraft rfl (Nat.le_of_ble_eq_true rfl) (b9_finishDraft_0 d3 (RMs_is d1) (numberRounds_ev (d := d) (RMs_is d1) hm h0) (fun M1 h1 => ?_))
  have e1 : gR M1 1 4 = M.2.2 1 4 := by show M1.2.2 1 4 = _; rw [h1.1.2]
  have hS1 := ClsS_cl d1 d2 hS (tCl_rm h1.1)
  have hR := hS1.2.2.2.2.1.1.1 j hj
  have hn0 : gR M1 4 j ≠ 0 := by have := RMs_lt hR; show M1.2.2 4 j ≠ 0; omega
  have hc1 : cM M1 (M1.2.2 1 4) m := by rw [show M1.2.2 1 4 = M.2.2 1 4 from e1]; exact h1.2
  refine b9_finishDraft_7 (by rw [e1]; exact d3) j rfl hj hn0 hn0 j rfl hj (by rw [e1]; exact RMs_is d1) ⟨_, rfl, ?_, keep_ok hS1 hj hc1, ?_⟩
  · exact hc1.1
  · have f := tCl_C (M := M) d1 (tCl_rm h1.1)
    exact fun k hk => f k hk
theorem becomeSame_ev {a b c x : Nat} {g : Nat → Nat} {m : PMp} (hb : RMs b) (ha : RMs a) (hab : b ≠ a) (hcs : shp (E0 L xs) c = (1, 32)) (hcb : c < b ∨ b + 6 < c) (hm : PV m) (hc : cM M a m) (hg : ∀ i, i < pN m → M.1 c i = nI (g i)) : EvV (E0 L xs) (d + 1) m4_becomeSame [.ref b, .ref a, .ref c, .int (nI x)] M (fun M' => Fr (tRM b) M M' ∧ cM0 M' b (m.1, x, g)) := by
  have T := RMs_is (L := L) (xs := xs) ha
  have TB' := RMs_is (L := L) (xs := xs) hb
  have hN := MV_N hm
  refine Ev_of k4_becomeSame rfl (Nat.le_of_ble_eq_true rfl) (b4_becomeSame_0 T TB' ?_)
  have key : ∀ (q i : Nat) (M1 : ME), i + q = pN m → Fr (tRM b) M M1 → M1.1 b 0 = nI (pE m) → M1.1 b 1 = nI x → (∀ y, y < i → M1.1 (b + 1) y = nI (g y)) → Wp (E0 L xs) (d + 1) m4_becomeSame 16 [.ref b, .ref a, .ref c, .int (nI x), .int (nI i)] [] M1 (fun v M' => v = none ∧ (Fr (tRM b) M M' ∧ cM0 M' b (m.1, x, g))) := by
    intro q
    induction q with
    | zero =>
      intro i M1 hi f g0 g1 g2
      have e0 : 2 * gI M1 b 0 = nI (pN m) := by rw [show gI M1 b 0 = _ from g0]; exact pk_mul 2 _
      have : i = pN m := by omega
      subst this
      exact b4_becomeSame_16 TB' (fun _ => b4_becomeSame_49 ⟨rfl, f, g0, g1, g2⟩) (fun h => absurd (by rw [e0]; exact nI_le (Nat.le_refl _) (by omega)) h)
    | succ q ih =>
      intro i M1 hi f g0 g1 g2
      have e0 : 2 * gI M1 b 0 = nI (pN m) := by rw [show gI M1 b 0 = _ from g0]; exact pk_mul 2 _
      have e1 : gI M1 c i = nI (g i) := (f.1 c i (tRM_f hcb)).trans (hg i (by omega))
      refine b4_becomeSame_16 TB' (fun h => absurd ((nI_leI (a := pN m) (b := i) (by omega) (by omega)).mp (by rw [← e0]; exact h)) (by omega)) (fun _ => b4_becomeSame_25 hcs (by decide) (fun h => absurd ((nI_leI (a := 32) (b := i) (by omega) (by omega)).mp h) (by omega)) (fun _ => b4_becomeSame_32 TB' hcs (by decide) i rfl (by omega) i rfl (by omega) ?_))
      rw [e1, nI_1]
      refine ih (i + 1) _ (by omega) (Fr_sI f (tRM_t (by omega) (by omega))) ((sI_ne (Or.inl (by omega))).trans g0) ((sI_ne (Or.inl (by omega))).trans g1) (fun y hy => ?_)
      rw [sI_at]
      by_cases e : y = i
      · rw [e, if_pos ⟨rfl, rfl⟩]
      · rw [if_neg (fun z => e z.2)]; exact g2 y (by omega)
  refine key (pN m) 0 _ (by omega) (Fr_sI (Fr_sI (Fr_refl _ _) (tRM_t (by omega) (by omega))) (tRM_t (by omega) (by omega))) ?_ ?_ (fun x hx => absurd hx (Nat.not_lt_zero _))
  · rw [sI_ne (Or.inr (by decide)), sI_eq]; exact hc.1
  · rw [sI_eq]
theorem nI_and2 : ∀ {x : Nat}, x < 32 → nI x &&& (-2) = nI (2 * (x / 2)) := by
  have : ∀ x, x < 32 → nI x &&& (-2) = nI (2 * (x / 2)) := by decide +kernel
  exact fun {x} h => this x h
theorem and2_eq {x e : Nat} (hx : x < 32) (he : e < 16) : nI x &&& (-2) = nI (2 * e) ↔ x / 2 = e := by
  rw [nI_and2 hx, nI_eq (by omega) (by omega)]; omega
theorem nextThatStays_ev {a x e : Nat} {m : PMp} (ha : RMs a) (hm : PV m) (hc : cM M a m) (hx : x < pN m) (he : e < 16) : EvI (E0 L xs) d m9_nextThatStays [.ref a, .int (nI x), .int (nI (2 * e))] M (fun r M' => r = nI (skp m e x) ∧ M' = M) := by
  have T := RMs_is (L := L) (xs := xs) ha
  have hN := MV_N hm
  have g := hm.2.1.1
  have X : ∀ y, y < pN m → gI M (a + 1) y = nI (pX m y) := hc.2.2.2.2.1
  have l1 := g _ hx
  have l2 := g _ l1
  have l3 := g _ l2
  have fin : ∀ k y, y = skp m e x → Wp (E0 L xs) d m9_nextThatStays 37 [.ref a, .int (nI x), .int (nI (2 * e)), .int (nI y), .int k] [] M (fun v M' => ∃ r, v = some (.int r) ∧ (r = nI (skp m e x) ∧ M' = M)) := fun k y e => b9_nextThatStays_37 ⟨_, rfl, by rw [e], rfl⟩
  refine Ev_of k9_nextThatStays rfl (Nat.le_of_ble_eq_true rfl) (b9_nextThatStays_0 T x rfl (by omega) ?_)
  rw [X x hx]
  refine b9_nextThatStays_10 (fun h => absurd h (by decide)) (fun _ => b9_nextThatStays_16 (fun h => fin _ _ ?_) (fun h => b9_nextThatStays_24 T (pX m x) rfl (by omega) ?_))
  · rw [and2_eq (by omega) he] at h
    unfold skp; rw [if_neg h]
  · rw [and2_eq (by omega) he] at h
    rw [X _ l1]
    refine b9_nextThatStays_10 (fun h => absurd h (by decide)) (fun _ => b9_nextThatStays_16 (fun h2 => fin _ _ ?_) (fun h2 => b9_nextThatStays_24 T (pX m (pX m x)) rfl (by omega) ?_))
    · rw [and2_eq (by omega) he] at h2
      unfold skp; rw [if_pos h, if_neg h2]
    · rw [and2_eq (by omega) he] at h2
      rw [X _ l2]
      refine b9_nextThatStays_10 (fun _ => fin _ _ ?_) (fun h => absurd (by decide) h)
      unfold skp; rw [if_pos h, if_pos h2]
theorem withoutEdge_ev {x e : Nat} (hx : x < 32) (he : e < 16) (hne : x / 2 ≠ e) : EvI (E0 L xs) d m9_withoutEdge [.int (nI x), .int (nI (2 * e))] M (fun r M' => r = nI (wo e x) ∧ M' = M) := by
  refine Ev_of k9_withoutEdge rfl (Nat.le_of_ble_eq_true rfl) (b9_withoutEdge_0 (fun h => b9_withoutEdge_11 (b9_withoutEdge_12 ⟨_, rfl, ?_, rfl⟩)) (fun h => b9_withoutEdge_5 (b9_withoutEdge_12 ⟨_, rfl, ?_, rfl⟩)))
  · have := (nI_leI (by omega) (by omega)).mp h
    unfold wo; rw [if_neg (by omega)]
  · have := mt (nI_leI (a := x) (b := 2 * e) (by omega) (by omega)).mpr h
    unfold wo; rw [if_pos (by omega)]
    exact i_sub (b := 2) (by omega)
theorem leaveEdge_ev {a b x : Nat} {m : PMp} (ha : RMs a) (hb : RMs b) (hab : b ≠ a) (hdr : M.2.2 1 4 = b) (hm : PV m) (hcn : Conn m) (hc : cM M a m) (hx : x < pN m) (hf : pFo m x ≠ pFo m (ox x)) : EvV (E0 L xs) (d + 1) m9_leaveEdgeOutOfDraft [.ref 1, .ref a, .int (nI (2 * (x / 2)))] M (fun M' => Fr (tRM b) M M' ∧ cM0 M' b (del m (x / 2))) := by
  have T := RMs_is (L := L) (xs := xs) ha
  have TB' := RMs_is (L := L) (xs := xs) hb
  have hN := MV_N hm
  have hx' : x < 2 * m.1 := hx
  have hE16 : m.1 ≤ 16 := hm.1
  have hap := RMs_apart ha hb (Ne.symm hab)
  have hb0 : b ≠ 0 := by have := RMs_lt hb; omega
  have hdr' : gR M 1 4 = b := hdr
  have he : x / 2 < 16 := by omega
  generalize hee : x / 2 = e at *
  have hm1 : gI M a 0 - 1 = nI (m.1 - 1) := by rw [show gI M a 0 = nI m.1 from hc.1]; exact i_sub (b := 1) (by omega)
  have f2 : Fr (tRM b) M (sI (sI M b 0 (gI M a 0 - 1)) b 1 0) := Fr_sI (Fr_sI (Fr_refl _ _) (tRM_t (by omega) (by omega))) (tRM_t (by omega) (by omega))
  have eb0 : gI (sI (sI M b 0 (gI M a 0 - 1)) b 1 0) b 0 = nI (m.1 - 1) := by
    show (sI (sI M b 0 (gI M a 0 - 1)) b 1 0).1 b 0 = _
    rw [sI_ne (Or.inr (by decide)), sI_eq]; exact hm1
  refine Ev_of k9_leaveEdgeOutOfDraft rfl (Nat.le_of_ble_eq_true rfl) (b9_leaveEdgeOutOfDraft_0 (by rw [hdr']; exact hb0) T (by rw [hdr']; exact TB') (by rw [hdr']; exact hb0) (by rw [hdr']; exact hb0) (fun h => ?_) (fun h => b9_leaveEdgeOutOfDraft_31 ?_))
  · rw [hdr', eb0] at h
    rw [hdr']
    have h1 : m.1 ≠ 1 := fun z => h (by rw [z]; rfl)
    have hr : m.2.1 < pN m := by
      rcases hm.2.2 with q | q
      · exact q
      · omega
    -- the rounds
    have key : ∀ (r : Nat), r = (del m e).2.1 → ∀ (q i : Nat) (x3 : Int32) (M1 : ME), i + q = pN m → Fr (tRM b) M M1 → M1.1 b 0 = nI (m.1 - 1) → M1.1 b 1 = nI r → (∀ y, y < i → y / 2 ≠ e → M1.1 (b + 1) (wo e y) = nI (wo e (skp m e y))) → Wp (E0 L xs) (d + 1) m9_leaveEdgeOutOfDraft 75 [.ref 1, .ref a, .int (nI (2 * e)), .int x3, .int (nI i)] [] M1 (fun v M' => v = none ∧ (Fr (tRM b) M M' ∧ cM0 M' b (del m e))) := by
      intro r hre q
      induction q with
      | zero =>
        intro i x3 M1 hi f g0 g1 g2
        have hc1 : cM M1 a m := cM_fr hc f (fun k j q1 q2 => tRM_f (by omega))
        have e0 : 2 * gI M1 a 0 = nI (pN m) := by rw [show gI M1 a 0 = _ from hc1.1]; exact pk_mul 2 _
        have : i = pN m := by omega
        subst this
        refine b9_leaveEdgeOutOfDraft_75 T (fun _ => b9_leaveEdgeOutOfDraft_124 ⟨rfl, f, g0, g1.trans (by rw [hre]), fun y hy => ?_⟩) (fun h => absurd (by rw [e0]; exact nI_le (Nat.le_refl _) (by omega)) h)
        have := g2 (wi e y) (wi_lt hy) (wi_ne e y)
        rw [wo_wi] at this
        exact this
      | succ q ih =>
        intro i x3 M1 hi f g0 g1 g2
        have hc1 : cM M1 a m := cM_fr hc f (fun k j q1 q2 => tRM_f (by omega))
        have e0 : 2 * gI M1 a 0 = nI (pN m) := by rw [show gI M1 a 0 = _ from hc1.1]; exact pk_mul 2 _
        have ed : gR M1 1 4 = b := by show M1.2.2 1 4 = b; rw [f.2]; exact hdr
        have hi' : i < pN m := by omega
        refine b9_leaveEdgeOutOfDraft_75 T (fun h => absurd ((nI_leI (a := pN m) (b := i) (by omega) (by omega)).mp (by rw [← e0]; exact h)) (by omega)) (fun _ => b9_leaveEdgeOutOfDraft_84 (fun h => b9_leaveEdgeOutOfDraft_118 ?_) (fun h => b9_leaveEdgeOutOfDraft_93 (by rw [ed]; exact hb0) (by rw [ed]; exact TB') (withoutEdge_ev (by omega) he (fun z => h ((and2_eq (by omega) he).mpr z))) (fun r1 M2 hr1 => ?_)))
        · rw [and2_eq (by omega) he] at h
          rw [nI_1]
          exact ih (i + 1) x3 M1 (by omega) f g0 g1 (fun y hy hye => g2 y (by
            have : y ≠ i := fun z => hye (by rw [z]; exact h)
            omega) hye)
        · obtain ⟨rfl, rfl⟩ := hr1
          rw [and2_eq (by omega) he] at h
          rw [ed]
          have ls := skp_lt hm (e := e) hi'
          have lw : wo e i < 2 * (m.1 - 1) := wo_lt (by omega) h hi'
          refine b9_leaveEdgeOutOfDraft_106 (nextThatStays_ev ha hm hc1 hi' he) (fun r2 M3 hr2 => ?_)
          obtain ⟨rfl, rfl⟩ := hr2
          refine b9_leaveEdgeOutOfDraft_113 (withoutEdge_ev (by omega) he (skp_ne hm hi' h)) (fun r3 M4 hr3 => ?_)
          obtain ⟨rfl, rfl⟩ := hr3
          refine b9_leaveEdgeOutOfDraft_117 TB'.2.1 (by decide) (wo e i) rfl (by omega) (b9_leaveEdgeOutOfDraft_118 ?_)
          rw [nI_1]
          refine ih (i + 1) x3 _ (by omega) (Fr_sI f (tRM_t (by omega) (by omega))) ((sI_ne (Or.inl (by omega))).trans g0) ((sI_ne (Or.inl (by omega))).trans g1) (fun y hy hye => ?_)
          rw [sI_at]
          by_cases ey : y = i
          · rw [ey, if_pos ⟨rfl, rfl⟩]
          · rw [if_neg (fun z => ey (wo_inj hye h z.2))]; exact g2 y (by omega) hye
    have hc2 : cM (sI (sI M b 0 (gI M a 0 - 1)) b 1 0) a m := cM_fr hc f2 (fun k j q1 q2 => tRM_f (by omega))
    have er : gI (sI (sI M b 0 (gI M a 0 - 1)) b 1 0) a 1 = nI m.2.1 := hc2.2.1
    have go : ∀ r0 : Nat, r0 < pN m → r0 / 2 ≠ e → wo e r0 = (del m e).2.1 → Wp (E0 L xs) (d + 1) m9_leaveEdgeOutOfDraft 59 [.ref 1, .ref a, .int (nI (2 * e)), .null, .null] [.int (nI r0)] (sI (sI M b 0 (gI M a 0 - 1)) b 1 0) (fun v M' => v = none ∧ (Fr (tRM b) M M' ∧ cM0 M' b (del m e))) := by
      intro r0 hr0 hrn hre
      refine b9_leaveEdgeOutOfDraft_59 (by rw [show gR (sI (sI M b 0 (gI M a 0 - 1)) b 1 0) 1 4 = b from hdr]; exact hb0) (withoutEdge_ev (by omega) he hrn) (fun r1 M2 hr1 => ?_)
      obtain ⟨rfl, rfl⟩ := hr1
      rw [show gR (sI (sI M b 0 (gI M a 0 - 1)) b 1 0) 1 4 = b from hdr]
      refine b9_leaveEdgeOutOfDraft_69 TB' ?_
      refine key (wo e r0) hre (pN m) 0 (nI r0) _ (by omega) (Fr_sI f2 (tRM_t (by omega) (by omega))) ?_ (sI_eq _ _ _ _) (fun y hy => absurd hy (Nat.not_lt_zero _))
      rw [sI_ne (Or.inr (by decide))]; exact eb0
    have hde : ∀ r0, r0 = (if m.2.1 / 2 = e then skp m e m.2.1 else m.2.1) → wo e r0 = (del m e).2.1 := fun r0 h0 => by
      show _ = if m.1 = 1 then 0 else _
      rw [if_neg h1, h0]
    refine b9_leaveEdgeOutOfDraft_32 T (fun h3 => b9_leaveEdgeOutOfDraft_55 T ?_) (fun h3 => b9_leaveEdgeOutOfDraft_43 (R' := fun r M' => r = nI (skp m e m.2.1) ∧ M' = sI (sI M b 0 (gI M a 0 - 1)) b 1 0) T (by rw [er]; exact nextThatStays_ev ha hm hc2 hr he) (fun r1 M2 hr1 => ?_))
    · rw [er, and2_eq (by omega) he] at h3
      rw [er]
      exact go _ hr h3 (hde _ (by rw [if_neg h3]))
    · obtain ⟨rfl, rfl⟩ := hr1
      rw [er, and2_eq (by omega) he] at h3
      refine b9_leaveEdgeOutOfDraft_52 ?_
      have hf2 : pFo m m.2.1 ≠ pFo m (ox m.2.1) := by
        have : m.2.1 = x ∨ m.2.1 = ox x := by unfold ox; split <;> omega
        rcases this with q | q
        · rw [q]; exact hf
        · rw [q, ox_ox]; exact Ne.symm hf
      exact go _ (skp_lt hm hr) (skp_root hm hcn h1 hr h3 hf2) (hde _ (by rw [if_pos h3]))
  · rw [hdr', eb0] at h
    rw [hdr']
    have h1 : m.1 - 1 = 0 := (nI_eq (b := 0) (by omega) (by decide)).mp h
    refine ⟨rfl, f2, eb0, ?_, fun y hy => ?_⟩
    · rw [sI_eq]
      show (0 : Int32) = nI (if m.1 = 1 then 0 else _)
      rw [if_pos (by omega)]; rfl
    · have : y < 2 * (m.1 - 1) := hy
      omega
theorem c_change (hS : ClsS tab M st) (hok : StOK st) {x w k y : Int32} : EvI (E0 L xs) (d + 4) m9_change [.ref 1, .int x, .int w, .int k, .int y] M (Co tab M (oChange st x w k y)) := by
  have same : Co tab M (-1, st) (-1) M := ⟨rfl, hS, FrC_refl M⟩
  have no : ¬ (vp_in x 4 ∧ vp_in y 4) → Wp (E0 L xs) (d + 4) m9_change 15 [.ref 1, .int x, .int w, .int k, .int y, .null] [] M (fun v' M' => ∃ r, v' = some (.int r) ∧ Co tab M (oChange st x w k y) r M') := fun h => b9_change_15 ⟨_, rfl, by rw [show oChange st x w k y = (-1, st) from cIf_neg h _ _]; exact same⟩
  refine Ev_of k9_change rfl (Nat.le_of_ble_eq_true rfl) (b9_change_0 (fun h => no (fun q => h q.1)) (fun h1 => b9_change_7 (fun h => no (fun q => h q.2)) (fun h2 => ?_)))
  rw [show oChange st x w k y = _ from cIf_pos ⟨h1, h2⟩ _ _]
  have h1' := h1
  obtain ⟨j, hj, rfl, ej, hR, hc, hn0⟩ := cl_map hS h1
  obtain ⟨i, hi, rfl, ei⟩ := in_j h2 (by decide)
  rw [ej, ei]
  have hm := hok.2.2 j hj
  have hN := MV_N hm.1
  have T := RMs_is (L := L) (xs := xs) hR
  obtain ⟨d1, d2, d3⟩ := cl_dr hS
  have TD := RMs_is (L := L) (xs := xs) d1
  have e1 : gI M (gR M 4 j) 1 = nI (pR (sM st j)) := hc.2.1
  have hap := RMs_apart hR d1 (d2 j hj)
  -- what is left once the draft stands
  have fin : ∀ (M1 : ME) (m' : PMp), Fr (tCl (M.2.2 1 4)) M M1 → PV m' → cM0 M1 (M.2.2 1 4) m' → chg (sM st j) w k = some m' → Wp (E0 L xs) (d + 4) m9_change 226 [.ref 1, .int (nI j), .int w, .int k, .int (nI i), .ref (gR M 4 j)] [] M1 (fun v' M' => ∃ r, v' = some (.int r) ∧ Co tab M (okp st i (chg (sM st j) w k)) r M') := by
    intro M1 m' f hv h0 ec
    have hS1 := ClsS_cl d1 d2 hS f
    rw [ec]
    refine b9_change_226 (finishDraft_ev (d := d) hS1 hi hv (by rw [show M1.2.2 1 4 = M.2.2 1 4 by rw [f.2]]; exact h0)) (fun r M2 hr => b9_change_232 ⟨_, rfl, ?_⟩)
    exact ⟨hr.1, hr.2.1, FrC_trans (tCl_C d1 f) hr.2.2⟩
  have sw : ∀ {w' : Int32}, w = w' → chg (sM st j) w k = chg (sM st j) w' k := fun h => by rw [h]
  refine b9_change_17 j rfl hj hn0 (fun h => ?_) (fun h => ?_) (fun h => ?_) (fun h => ?_) (fun h => ?_) (fun h => ?_) (fun h => b9_change_224 ⟨_, rfl, ?_⟩)
  · refine b9_change_64 (R' := fun M' => Fr (tRM (M.2.2 1 4)) M M' ∧ cM0 M' (M.2.2 1 4) (sM st j)) d3 T TD (by rw [e1]; exact becomeSame_ev (d := d + 2) d1 hR (Ne.symm (d2 j hj)) T.2.1 (by show M.2.2 4 j + 1 < M.2.2 1 4 ∨ M.2.2 1 4 + 6 < M.2.2 4 j + 1; omega) hm.1 hc hc.2.2.2.2.1) (fun M1 h3 => b9_change_83 (fin M1 _ (tCl_rm h3.1) hm.1 h3.2 ((sw h).trans rfl)))
  · refine b9_change_86 (mirrorIntoDraft_ev (d := d + 2) (b := M.2.2 1 4) hR d1 (Ne.symm (d2 j hj)) rfl hm.1 hc) (fun M1 h3 => b9_change_92 (fin M1 _ (tCl_rm h3.1) (mir_PV hm.1) h3.2 ((sw h).trans rfl)))
  · refine b9_change_95 (R' := fun M' => Fr (tRM (M.2.2 1 4)) M M' ∧ cM0 M' (M.2.2 1 4) (dual (sM st j))) d3 T TD (by rw [e1]; exact becomeSame_ev (d := d + 2) d1 hR (Ne.symm (d2 j hj)) T.2.2.1 (by show M.2.2 4 j + 2 < M.2.2 1 4 ∨ M.2.2 1 4 + 6 < M.2.2 4 j + 2; omega) hm.1 hc hc.2.2.2.2.2.1) (fun M1 h3 => b9_change_114 (fin M1 _ (tCl_rm h3.1) (dual_PV hm.1) h3.2 ((sw h).trans rfl)))
  · refine b9_change_117 (R' := fun M2 => Fr (tWc 61) M M2 ∧ (0 < pE (sM st j) → ∀ i, i < (cdL (sM st j) (pR (sM st j))).length → M2.1 61 i = cdV (sM st j) (pR (sM st j)) i)) T (by rw [e1]; exact writeCode_ev (d := d) hR (Or.inl rfl) hm.1 hc (rt_lt hm.1)) (fun M2 h3 => ?_)
    have ed : gR M2 1 4 = M.2.2 1 4 := by show M2.2.2 1 4 = _; rw [h3.1.2]
    have hcd : ∀ i, i < pN (sM st j) → M2.1 61 i = nI (cdN (sM st j) (pR (sM st j)) i) := fun i hi => by
      have hE : 0 < pE (sM st j) := by have : i < 2 * (sM st j).1 := hi; show 0 < (sM st j).1; omega
      have hr : pR (sM st j) < pN (sM st j) := by rcases rt_lt hm.1 with q | q; exact q; omega
      rw [h3.2 hE i (by rw [cdL_len hm.1 hm.2.1 hr]; exact hi), cdV_N hm.1 hm.2.1 hr hi]
    have hc2 : cM M2 (gR M 4 j) (sM st j) := cM_fr hc h3.1 (fun k j q1 q2 => tWc_f hR (Or.inl rfl) q1 q2)
    refine b9_change_135 (R' := fun M' => Fr (tRM (M.2.2 1 4)) M2 M' ∧ cM0 M' (M.2.2 1 4) (cdM (sM st j))) (by rw [ed]; exact d3) (by rw [ed]; exact TD) (by rw [ed]; exact becomeSame_ev (d := d + 2) (c := 61) (x := 0) d1 hR (Ne.symm (d2 j hj)) rfl (by rcases d1 with q | q | q | q | q <;> rw [q] <;> omega) hm.1 hc2 hcd) (fun M1 h4 => b9_change_149 (fin M1 _ (Fr_trans (tCl_sc (tWc_sc (Or.inl rfl) h3.1)) (tCl_rm h4.1)) (cdM_PV hm.1 hm.2.1) h4.2 ((sw h).trans rfl)))
  · refine b9_change_152 (noDart_ev hS hok) (fun r M1 hr => ?_)
    obtain ⟨hr, rfl⟩ := hr
    rw [ej] at hr
    rcases hr with ⟨rfl, -, h3⟩ | ⟨rfl, h3⟩
    · obtain ⟨k', hk', rfl, ek⟩ := in_j h3 (by omega)
      refine b9_change_158 (fun _ => b9_change_163 d3 T TD (becomeSame_ev (d := d + 2) d1 hR (Ne.symm (d2 j hj)) T.2.1 (by show M1.2.2 4 j + 1 < M1.2.2 1 4 ∨ M1.2.2 1 4 + 6 < M1.2.2 4 j + 1; omega) hm.1 hc hc.2.2.2.2.1) (fun M2 h4 => b9_change_178 (fin M2 ((sM st j).1, k', pX (sM st j)) (tCl_rm h4.1) ⟨hm.1.1, hm.1.2.1, Or.inl hk'⟩ h4.2 ((sw h).trans ?_)))) (fun h => absurd rfl h)
      have : chg (sM st j) 4 (nI k') = cIf (vp_in (nI k') (pN (sM st j))) (some ((sM st j).1, (nI k').toNatClampNeg, (sM st j).2.2)) none := rfl
      rw [this, cIf_pos h3, ek]
    · refine b9_change_158 (fun h => absurd h (by decide)) (fun _ => b9_change_161 ⟨_, rfl, ?_⟩)
      have : chg (sM st j) w k = none := (sw h).trans (by
        show cIf (vp_in k (pN (sM st j))) (some ((sM st j).1, k.toNatClampNeg, (sM st j).2.2)) none = none
        exact cIf_neg (fun q => h3 ⟨h1', q⟩) _ _)
      rw [this]; exact same
  · have e5 : chg (sM st j) 5 k = cIf (vp_in k (pN (sM st j)) ∧ pFo (sM st j) k.toNatClampNeg ≠ pFo (sM st j) (ox k.toNatClampNeg)) (some (del (sM st j) (k.toNatClampNeg / 2))) none := rfl
    have n5 : ¬ (vp_in k (pN (sM st j)) ∧ pFo (sM st j) k.toNatClampNeg ≠ pFo (sM st j) (ox k.toNatClampNeg)) → Co tab M (okp st i (chg (sM st j) w k)) (-1) M := fun hn => by
      rw [sw h, e5, cIf_neg hn]; exact same
    refine b9_change_181 (noDart_ev hS hok) (fun r M1 hr => ?_)
    obtain ⟨hr, rfl⟩ := hr
    rw [ej] at hr
    rcases hr with ⟨rfl, -, h3⟩ | ⟨rfl, h3⟩
    · obtain ⟨k', hk', rfl, ek⟩ := in_j h3 (by omega)
      rw [ek] at n5 e5
      have hox := ox_lt (n := (sM st j).1) hk'
      have hox' : ox k' < pN (sM st j) := hox
      have q1 : gI M1 (gR M1 4 j + 4) k' = nI (pFo (sM st j) k') := hc.2.2.2.2.2.2.2.1 k' hk'
      have q2 : gI M1 (gR M1 4 j + 4) (ox k') = nI (pFo (sM st j) (ox k')) := hc.2.2.2.2.2.2.2.1 (ox k') hox
      have p1 := pFo_ltF hm.1 hk'
      have p2 := pFo_ltF hm.1 hox'
      have p3 := pFn_le hm.1
      refine b9_change_187 (fun h => absurd rfl h) (fun _ => b9_change_190 T k' rfl (by omega) (ox k') (nI_ox (by omega)) (by omega) (fun h4 => b9_change_211 (R' := fun M' => Fr (tRM (M1.2.2 1 4)) M1 M' ∧ cM0 M' (M1.2.2 1 4) (del (sM st j) (k' / 2))) ?_ (fun M2 h5 => b9_change_221 ?_)) (fun h4 => b9_change_209 ⟨_, rfl, n5 (fun q => q.2 ?_)⟩))
      · rw [q1, q2] at h4
        rw [nI_and2 (by omega)]
        exact leaveEdge_ev (d := d + 2) hR d1 (Ne.symm (d2 j hj)) rfl hm.1 hm.2.1 hc hk' (fun z => h4 (by rw [z]))
      · rw [q1, q2] at h4
        have hf : pFo (sM st j) k' ≠ pFo (sM st j) (ox k') := fun z => h4 (by rw [z])
        exact fin M2 _ (tCl_rm h5.1) (del_PV hm.1 hm.2.1 hk' hf) h5.2 (by rw [sw h, e5, cIf_pos ⟨h3, hf⟩])
      · rw [q1, q2] at h4
        exact (nI_eq (by omega) (by omega)).mp h4
    · exact b9_change_187 (fun _ => b9_change_209 ⟨_, rfl, n5 (fun q => h3 ⟨h1', q.1⟩)⟩) (fun h => absurd h (by decide))
  · have : chg (sM st j) w k = none := by
      unfold chg
      rw [if_neg (sw_ne h 0 rfl (by decide) (by decide)), if_neg (sw_ne h 1 rfl (by decide) (by decide)), if_neg (sw_ne h 2 rfl (by decide) (by decide)), if_neg (sw_ne h 3 rfl (by decide) (by decide)), if_neg (sw_ne h 4 rfl (by decide) (by decide)), if_neg (sw_ne h 5 rfl (by decide) (by decide))]
    rw [this]; exact same
end COP
