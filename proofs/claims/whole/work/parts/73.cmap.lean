/-! the class: the text on the tape becomes a map -/
section CRM
variable {L : Nat} {xs : Nat → Int32} {d : Nat} {M : ME} {s : RSt} {p : Nat}
theorem takeSign_ev {c : Int32} (hR : RDC M s) (hI : RI s p) (hk : FK s) (hf : qF s = none) (hp : p < 300) : EvV (E0 L xs) (d + 3) m3_takeSign [.ref 12, .int c, .int (nI p)] M (fun M' => RDC M' (stp s c p) ∧ Fr tRdr M M') := by
  have nd : ¬ isDg c = true → Wp (E0 L xs) (d + 3) m3_takeSign 22 [.ref 12, .int c, .int (nI p)] [] M (fun v' M' => v' = none ∧ (RDC M' (stp s c p) ∧ Fr tRdr M M')) := fun hd => by
    refine b3_takeSign_22 (endNumber_ev (d := d) hR hI hf) (fun M1 h1 => ?_)
    obtain ⟨hR1, f1⟩ := h1
    have hI1 := eN_RI hI
    have hk1 := eN_FK hk
    refine b3_takeSign_26 (fun z => ?_) (fun z => b3_takeSign_33 ⟨rfl, ?_, f1⟩)
    · have hf1 := (RDC_0 hR1 hk1).mp z
      rw [show stp s c p = stO (eN s) c p from (if_pos hf).trans ((if_neg hd).trans (if_pos hf1))]
      generalize eN s = t at *
      obtain ⟨g1, g2, g3, g4⟩ := hI1.2.2 hf1
      obtain ⟨w1, w2, w3, w4, w5⟩ := hR1.2.2.2 hf1
      have e9 : gI M1 12 9 = nI (qW t) := w1
      have iw : ∀ k : Nat, k < 4 → (gI M1 12 9 = nI k ↔ qW t = k) := fun k hk => by
        rw [e9]
        constructor
        · intro e
          have a := (nI_leI (a := qW t) (b := k) (by omega) (by omega)).mp (by rw [e]; exact nI_le (Nat.le_refl _) (by omega))
          have b := (nI_leI (a := k) (b := qW t) (by omega) (by omega)).mp (by rw [e]; exact nI_le (Nat.le_refl _) (by omega))
          omega
        · intro e; rw [e]
      have last : ¬ (c = 40 ∧ qW t = 0) → ¬ (c = 41 ∧ qW t = 2) → Wp (E0 L xs) (d + 3) m3_takeSign 88 [.ref 12, .int c, .int (nI p)] [] M1 (fun v' M' => v' = none ∧ (RDC M' (stO t c p) ∧ Fr tRdr M M')) := fun q1 q2 => by
        refine b3_takeSign_88 (fun z => b3_takeSign_106 ⟨rfl, ?_, f1⟩) (fun z1 => b3_takeSign_94 (fun z => b3_takeSign_106 ⟨rfl, ?_, f1⟩) (fun z2 => b3_takeSign_100 (b3_takeSign_106 ⟨rfl, ?_, Fr_sI (Fr_sI f1 rfl) rfl⟩)))
        · rw [show stO t c p = t from (if_neg q1).trans ((if_neg q2).trans (if_pos (Or.inl z)))]; exact hR1
        · rw [show stO t c p = t from (if_neg q1).trans ((if_neg q2).trans (if_pos (Or.inr z)))]; exact hR1
        · rw [show stO t c p = (some (1, p, none), t.2) from (if_neg q1).trans ((if_neg q2).trans (if_neg (fun q => q.elim z1 z2)))]
          exact RDC_ref2 (k := 1) hR1 hf1
      have mid : ¬ (c = 40 ∧ qW t = 0) → Wp (E0 L xs) (d + 3) m3_takeSign 55 [.ref 12, .int c, .int (nI p)] [] M1 (fun v' M' => v' = none ∧ (RDC M' (stO t c p) ∧ Fr tRdr M M')) := fun q1 => by
        refine b3_takeSign_55 (fun z => last q1 (fun q => z q.1)) (fun z => b3_takeSign_61 (fun y => last q1 (fun q => y ((iw 2 (by omega)).mpr q.2))) (fun y => ?_))
        have hw := (iw 2 (by omega)).mp y
        obtain ⟨u1, u2, u3⟩ := w3 (by omega)
        have hcl : ∀ z, z ∈ qC t → z < 32 := fun z hz => hI1.2.1 z (List.mem_append_left _ hz)
        have hcn : (qC t).Nodup := (List.nodup_append.mp hI1.1).1
        refine b3_takeSign_69 (close_ev (n := 32) rfl rfl (by decide) hcl hcn u3) (fun M2 h2 => b3_takeSign_80 (b3_takeSign_106 ⟨rfl, ?_, ?_⟩))
        · rw [show stO t c p = (none, qC t :: qR t, [], 0, qP t, 0, 0) from (if_neg q1).trans (if_pos ⟨z, hw⟩)]
          obtain ⟨⟨h0, h1', h2', h3, h4⟩, hb, hc, -⟩ := hR1
          rw [hf1] at h0 h1' h2' h3 h4
          obtain ⟨a1, a2, a3⟩ := h2
          have O : ∀ k, k ≠ 13 → M2.1 k = M1.1 k := fun k hk => funext fun j => a2.1 k j (tR1_f hk)
          have E : ∀ j, j ≠ 9 → (sI M2 12 9 0).1 12 j = M1.1 12 j := fun j hj => by rw [sI_ne (Or.inr hj), O 12 (by decide)]
          have et : toL (none, qC t :: qR t, [], 0, qP t, 0, 0) = toL t := rfl
          refine ⟨⟨(E 0 (by decide)).trans h0, (E 1 (by decide)).trans h1', (E 2 (by decide)).trans h2', (E 3 (by decide)).trans h3, (E 4 (by decide)).trans h4⟩, ?_, (E 8 (by decide)).trans hc, fun _ => ⟨sI_eq _ _ _ _, ?_, fun z => absurd rfl z, fun z => absurd z (by show ¬ 0 = 3; omega), fun r hr x hx => ?_⟩⟩
          · rw [et, sI_row (by decide), O 14 (by decide)]; exact hb
          · rw [E 10 (by decide), w2, if_neg (by omega)]; rfl
          · rw [sI_ne (Or.inl (by decide))]
            rcases List.mem_cons.mp hr with e | e
            · rw [e] at hx ⊢; exact a1 x hx
            · have nx : x ∉ qC t := fun hxc => by
                have := (List.nodup_append.mp hI1.1).2.2 x hxc x (List.mem_flatten.mpr ⟨r, e, hx⟩)
                exact this rfl
              rw [a3 x nx]; exact w5 r e x hx
        · refine Fr_sI (Fr_trans f1 (Fr_mono h2.2.1 (fun k j q => tR1_f (fun e => ?_)))) rfl
          rw [e] at q; cases q
      refine b3_takeSign_34 (fun z => mid (fun q => z q.1)) (fun z => b3_takeSign_40 (fun y => mid (fun q => y ((iw 0 (by omega)).mpr q.2))) (fun y => b3_takeSign_47 (b3_takeSign_106 ⟨rfl, ?_, Fr_sI (Fr_sI (Fr_sI (Fr_sI (Fr_sI (Fr_sI f1 rfl) rfl) rfl) rfl) rfl) rfl⟩)))
      have hw := (iw 0 (by omega)).mp y
      rw [show stO t c p = (none, qR t, [], 1, p, 0, 0) from if_pos ⟨z, hw⟩]
      have et : toL (none, qR t, [], 1, p, 0, 0) = toL t := by unfold toL; rw [g2 hw]
      obtain ⟨⟨h0, h1', h2', h3, h4⟩, hb, hc, -⟩ := hR1
      rw [hf1] at h0 h1' h2' h3 h4
      have w2' : gI M1 12 10 + 1 = nI (qR t).length := by
        rw [show gI M1 12 10 = _ from w2, if_pos hw]
        exact Int32.sub_add_cancel _ _
      rw [w2']
      have E : ∀ j, j ≠ 9 → j ≠ 10 → j ≠ 11 → j ≠ 12 → (sI (sI (sI (sI (sI (sI M1 12 9 1) 12 10 (nI (qR t).length)) 12 11 (nI p)) 12 12 0) 15 0 (-1)) 15 1 (-1)).1 12 j = M1.1 12 j := fun j a b c d => by rw [sI_ne (Or.inl (by decide)), sI_ne (Or.inl (by decide)), sI_ne (Or.inr d), sI_ne (Or.inr c), sI_ne (Or.inr b), sI_ne (Or.inr a)]
      have O : ∀ k, k ≠ 12 → k ≠ 15 → (sI (sI (sI (sI (sI (sI M1 12 9 1) 12 10 (nI (qR t).length)) 12 11 (nI p)) 12 12 0) 15 0 (-1)) 15 1 (-1)).1 k = M1.1 k := fun k a b => by rw [sI_row b, sI_row b, sI_row a, sI_row a, sI_row a, sI_row a]
      refine ⟨⟨(E 0 (by decide) (by decide) (by decide) (by decide)).trans h0, (E 1 (by decide) (by decide) (by decide) (by decide)).trans h1', (E 2 (by decide) (by decide) (by decide) (by decide)).trans h2', (E 3 (by decide) (by decide) (by decide) (by decide)).trans h3, (E 4 (by decide) (by decide) (by decide) (by decide)).trans h4⟩, by rw [et, O 14 (by decide) (by decide)]; exact hb, by rw [et]; exact (E 8 (by decide) (by decide) (by decide) (by decide)).trans hc, fun _ => ⟨?_, ?_, fun _ => ⟨?_, ?_, fun _ => ?_, fun z => absurd rfl z, fun i hi => absurd hi (by show ¬ i + 1 < 0; omega)⟩, fun z => absurd z (by show ¬ 1 = 3; omega), by rw [O 13 (by decide) (by decide)]; exact w5⟩⟩
      · rw [sI_ne (Or.inl (by decide)), sI_ne (Or.inl (by decide)), sI_ne (Or.inr (by decide)), sI_ne (Or.inr (by decide)), sI_ne (Or.inr (by decide)), sI_eq]; rfl
      · rw [sI_ne (Or.inl (by decide)), sI_ne (Or.inl (by decide)), sI_ne (Or.inr (by decide)), sI_ne (Or.inr (by decide)), sI_eq, if_neg (by show ¬ 1 = 0; omega)]
        exact (nI_m1 _).symm
      · rw [sI_ne (Or.inl (by decide)), sI_ne (Or.inl (by decide)), sI_ne (Or.inr (by decide)), sI_eq]
      · rw [sI_ne (Or.inl (by decide)), sI_ne (Or.inl (by decide)), sI_eq]; rfl
      · rw [sI_ne (Or.inr (by decide)), sI_eq]
    · have hf1 : ¬ qF (eN s) = none := fun q => z ((RDC_0 hR1 hk1).mpr q)
      rw [show stp s c p = eN s from (if_pos hf).trans ((if_neg hd).trans (if_neg hf1))]
      exact hR1
  refine Ev_of k3_takeSign rfl (Nat.le_of_ble_eq_true rfl) (b3_takeSign_0 (fun z => nd (fun q => (dg_eq q).1 z)) (fun z1 => b3_takeSign_6 (fun z => nd (fun q => (dg_eq q).2.1 z)) (fun z2 => ?_)))
  have hd : isDg c = true := by unfold isDg; rw [decide_eq_false z1, decide_eq_false z2]; rfl
  refine b3_takeSign_12 (takeDigit_ev (d := d + 1) hR hI hf hd hp) (fun M1 h1 => b3_takeSign_21 ⟨rfl, ?_, h1.2⟩)
  rw [show stp s c p = stD s c p from (if_pos hf).trans (if_pos hd)]
  exact h1.1
theorem allTold_ev (hR : RDC M s) (hI : RI s p) : EvI (E0 L xs) d m3_allTold [.ref 12] M (fun r M' => r = b2i (allT s) ∧ M' = M) := by
  have hl := toL_len hI
  have e8 : gI M 12 8 = nI (toL s).length := hR.2.2.1
  have e8' : gI M 12 8 - gI M 12 8 / 2 * 2 = nI ((toL s).length % 2) := by rw [e8]; exact pk_rem (a := (toL s).length) (d := 2) (by omega) (by decide) (by decide)
  refine Ev_of k3_allTold rfl (Nat.le_of_ble_eq_true rfl) (b3_allTold_0 ?_)
  suffices ho : ∀ (q v : Nat), v + q = (toL s).length → (∀ i, i < v → i ∈ toL s) → Wp (E0 L xs) d m3_allTold 2 [.ref 12, .int (nI v)] [] M (fun v' M' => ∃ r, v' = some (.int r) ∧ (r = b2i (allT s) ∧ M' = M)) from ho (toL s).length 0 (by omega) (fun i hi => by omega)
  intro q
  induction q with
  | zero =>
    intro v hv ha
    refine b3_allTold_2 (fun _ => b3_allTold_27 (fun z => b3_allTold_40 (b3_allTold_41 rfl ⟨_, rfl, ?_, rfl⟩)) (fun z => b3_allTold_36 (b3_allTold_41 rfl ⟨_, rfl, ?_, rfl⟩))) (fun h => absurd (by rw [e8]; exact nI_le (by omega) (by omega)) h)
    · rw [e8'] at z
      have : allT s = false := by
        cases w : allT s with
        | false => rfl
        | true => exact absurd (by rw [((allT_iff hI.1).mp w).2]; rfl) z
      rw [this]; rfl
    · rw [e8'] at z
      have : allT s = true := (allT_iff hI.1).mpr ⟨told_all hI.1 (fun i hi => ha i (by omega)), by
        have := (nI_leI (a := (toL s).length % 2) (b := 0) (by omega) (by omega)).mp (by rw [z]; exact nI_le (a := 0) (b := 0) (by omega) (by omega))
        omega⟩
      rw [this]; rfl
  | succ q ih =>
    intro v hv ha
    refine b3_allTold_2 (fun h => absurd ((nI_leI (a := (toL s).length) (b := v) (by omega) (by omega)).mp (by rw [← e8]; exact h)) (by omega)) (fun _ => ?_)
    have e14 : gI M 14 v = if v ∈ toL s then 1 else 0 := hR.2.1 v (by omega)
    refine b3_allTold_10 v rfl (by omega) (fun z => b3_allTold_21 ?_) (fun z => b3_allTold_19 ⟨_, rfl, ?_, rfl⟩)
    · rw [nI_1]
      refine ih (v + 1) (by omega) (fun i hi => ?_)
      by_cases e : i = v
      · by_cases m : v ∈ toL s
        · rw [e]; exact m
        · exact absurd (by rw [e14, if_neg m]) z
      · exact ha i (by omega)
    · have m : v ∉ toL s := fun m => by rw [e14, if_pos m] at z; exact absurd z (by decide)
      have : allT s = false := by
        cases w : allT s with
        | false => rfl
        | true => exact absurd ((((allT_iff hI.1).mp w).1 v).mpr (by omega)) m
      rw [this]; rfl
theorem takeEnd_ev {len : Nat} (hR : RDC M s) (hI : RI s p) (hk : FK s) (hf : qF s = none) : EvV (E0 L xs) (d + 3) m3_takeEnd [.ref 12, .int (nI len)] M (fun M' => RDC M' (endS s len) ∧ Fr tRdr M M') := by
  refine Ev_of k3_takeEnd rfl (Nat.le_of_ble_eq_true rfl) (b3_takeEnd_0 (endNumber_ev (d := d) hR hI hf) (fun M1 h1 => ?_))
  obtain ⟨hR1, f1⟩ := h1
  have hI1 := eN_RI hI
  have hk1 := eN_FK hk
  refine b3_takeEnd_4 (fun z => ?_) (fun z => b3_takeEnd_11 ⟨rfl, ?_, f1⟩)
  · have hf1 := (RDC_0 hR1 hk1).mp z
    obtain ⟨w1, -⟩ := hR1.2.2.2 hf1
    obtain ⟨g1, -⟩ := hI1.2.2 hf1
    refine b3_takeEnd_12 (fun y => ?_) (fun y => b3_takeEnd_19 (b3_takeEnd_41 ⟨rfl, ?_, Fr_sI (Fr_sI f1 rfl) rfl⟩))
    · have hw : qW (eN s) = 0 := by
        have := (nI_leI (a := qW (eN s)) (b := 0) (by omega) (by omega)).mp (by rw [← w1, show M1.1 12 9 = 0 from y]; exact nI_le (a := 0) (b := 0) (by omega) (by omega))
        omega
      refine b3_takeEnd_28 (allTold_ev (d := d + 2) hR1 hI1) (fun r M2 hr => ?_)
      obtain ⟨rfl, rfl⟩ := hr
      refine b3_takeEnd_32 (fun x => b3_takeEnd_41 ⟨rfl, ?_, f1⟩) (fun x => b3_takeEnd_35 (b3_takeEnd_41 ⟨rfl, ?_, Fr_sI (Fr_sI f1 rfl) rfl⟩))
      · have ht : allT (eN s) = true := by
          cases w : allT (eN s) with
          | true => rfl
          | false => rw [w] at x; exact absurd rfl x
        rw [show endS s len = eN s from (if_pos hf1).trans ((if_pos hw).trans (if_pos ht))]
        exact hR1
      · have ht : ¬ allT (eN s) = true := fun w => by rw [w] at x; exact absurd x (by decide)
        rw [show endS s len = (some (4, len, none), (eN s).2) from (if_pos hf1).trans ((if_pos hw).trans (if_neg ht))]
        exact RDC_ref2 (k := 4) hR1 hf1
    · have hw : ¬ qW (eN s) = 0 := fun w => y (by show M1.1 12 9 = 0; rw [w1, w]; rfl)
      rw [show endS s len = (some (1, len, none), (eN s).2) from (if_pos hf1).trans (if_neg hw)]
      exact RDC_ref2 (k := 1) hR1 hf1
  · have hf1 : ¬ qF (eN s) = none := fun q => z ((RDC_0 hR1 hk1).mpr q)
    rw [show endS s len = eN s from if_neg hf1]
    exact hR1
theorem read_ev {tb : Nat → Int32} {len : Nat} (hl : len ≤ 300) (ht : ∀ i, i < len → M.1 2 i = tb i) (h0 : FE M (flV none)) : EvI (E0 L xs) (d + 4) m3_read [.ref 12, .ref 2, .int (nI len)] M (fun r M' => r = b2i (decide (qF (endS (run tb len) len) = none)) ∧ RDC M' (endS (run tb len) len) ∧ Fr tRdr M M') := by
  refine Ev_of k3_read rfl (Nat.le_of_ble_eq_true rfl) (b3_read_0 (fill_ev (n := 32) rfl (by decide)) (fun M1 h1 => b3_read_8 ?_))
  obtain ⟨f1, z1⟩ := h1
  have O : ∀ k, k ≠ 14 → M1.1 k = M.1 k := fun k hk => funext fun j => f1.1 k j (tR1_f hk)
  have f1' : Fr tRdr M M1 := Fr_mono f1 (fun k j q => tR1_f (fun e => by rw [e] at q; cases q))
  have stop : ∀ (M2 : ME) (v : Int32), RDC M2 (endS (run tb len) len) → Fr tRdr M M2 → Wp (E0 L xs) (d + 4) m3_read 69 [.ref 12, .ref 2, .int (nI len), .int v] [] M2 (fun v' M' => ∃ r, v' = some (.int r) ∧ (r = b2i (decide (qF (endS (run tb len) len) = none)) ∧ RDC M' (endS (run tb len) len) ∧ Fr tRdr M M')) := fun M2 v hR f => by
    have hz := RDC_0 hR (endS_FK (run_FK tb len))
    refine b3_read_69 (fun z => b3_read_80 (b3_read_81 rfl ⟨_, rfl, ?_, hR, f⟩)) (fun z => b3_read_76 (b3_read_81 rfl ⟨_, rfl, ?_, hR, f⟩))
    · rw [decide_eq_false (fun q => z (hz.mpr q))]; rfl
    · rw [decide_eq_true (hz.mp z)]; rfl
  suffices ho : ∀ (q i : Nat) (M2 : ME), i + q = len → RDC M2 (run tb i) → Fr tRdr M M2 → Wp (E0 L xs) (d + 4) m3_read 25 [.ref 12, .ref 2, .int (nI len), .int (nI i)] [] M2 (fun v' M' => ∃ r, v' = some (.int r) ∧ (r = b2i (decide (qF (endS (run tb len) len) = none)) ∧ RDC M' (endS (run tb len) len) ∧ Fr tRdr M M')) by
    refine ho len 0 _ (by omega) ?_ (Fr_sI (Fr_sI (Fr_sI f1' rfl) rfl) rfl)
    have E : ∀ j, j < 5 → (sI (sI (sI M1 12 8 0) 12 9 0) 12 10 (-1)).1 12 j = M.1 12 j := fun j hj => by rw [sI_ne (Or.inr (by omega)), sI_ne (Or.inr (by omega)), sI_ne (Or.inr (by omega)), O 12 (by decide)]
    refine ⟨⟨(E 0 (by decide)).trans h0.1, (E 1 (by decide)).trans h0.2.1, (E 2 (by decide)).trans h0.2.2.1, (E 3 (by decide)).trans h0.2.2.2.1, (E 4 (by decide)).trans h0.2.2.2.2⟩, fun v hv => ?_, ?_, fun _ => ⟨?_, ?_, fun z => absurd rfl z, fun z => absurd z (by show ¬ 0 = 3; omega), fun r hr => (by cases hr)⟩⟩
    · rw [sI_ne (Or.inl (by decide)), sI_ne (Or.inl (by decide)), sI_ne (Or.inl (by decide)), z1 v hv, if_neg (show ¬ v ∈ toL (run tb 0) from fun z => (by cases z))]
    · rw [sI_ne (Or.inr (by decide)), sI_ne (Or.inr (by decide)), sI_eq]; rfl
    · rw [sI_ne (Or.inr (by decide)), sI_eq]; rfl
    · rw [sI_eq]; show (-1 : Int32) = nI 0 - 1; decide
  intro q
  induction q with
  | zero =>
    intro i M2 hi hR f
    have : i = len := by omega
    subst this
    have hz := RDC_0 hR (run_FK tb i)
    refine b3_read_25 (fun _ => b3_read_57 (fun z => ?_) (fun z => ?_)) (fun h => absurd (nI_le (Nat.le_refl _) (by omega)) h)
    · have hf : qF (run tb i) ≠ none := fun q => z (hz.mpr q)
      refine stop M2 _ ?_ f
      rw [show endS (run tb i) i = run tb i by unfold endS; rw [eN_F hf, if_neg hf]]
      exact hR
    · have hf := hz.mp z
      exact b3_read_64 (takeEnd_ev (d := d) (len := i) hR (run_RI tb i) (run_FK tb i) hf) (fun M3 h3 => stop M3 _ h3.1 (Fr_trans f h3.2))
  | succ q ih =>
    intro i M2 hi hR f
    have hz := RDC_0 hR (run_FK tb i)
    refine b3_read_25 (fun h => absurd ((nI_leI (a := len) (b := i) (by omega) (by omega)).mp h) (by omega)) (fun _ => b3_read_30 (n1 := 300) rfl (by decide) (fun h => absurd ((nI_leI (a := 300) (b := i) (by omega) (by omega)).mp h) (by omega)) (fun _ => b3_read_36 (fun z => b3_read_57 (fun _ => ?_) (fun y => absurd y z)) (fun z => ?_)))
    · have hf : qF (run tb i) ≠ none := fun q => z (hz.mpr q)
      refine stop M2 _ ?_ f
      have e := run_st hf (len - i)
      rw [show i + (len - i) = len by omega] at e
      rw [e, show endS (run tb i) len = run tb i by unfold endS; rw [eN_F hf, if_neg hf]]
      exact hR
    · have hf := hz.mp z
      have et : gI M2 2 i = tb i := by show M2.1 2 i = _; rw [f.1 2 i rfl]; exact ht i (by omega)
      refine b3_read_43 (R' := fun M' => RDC M' (stp (run tb i) (tb i) i) ∧ Fr tRdr M2 M') (n1 := 300) rfl (by decide) i rfl (by omega) (by rw [et]; exact takeSign_ev (d := d) hR (run_RI tb i) (run_FK tb i) hf (by omega)) (fun M3 h3 => b3_read_51 ?_)
      rw [nI_1]
      exact ih (i + 1) M3 (by omega) h3.1 (Fr_trans f h3.2)
end CRM
