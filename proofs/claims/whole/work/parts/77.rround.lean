/-! the reference: darts and rounds are read -/
section RRN
variable {L : Nat} {xs : Nat → Int32} {d : Nat} {M : ME} {tb : Nat → Int32} {len : Nat}
theorem eN_none {s : RSt} (h : qF (eN s) = none) : qF s = none := by
  by_cases q : qF s = none
  · exact q
  · rw [eN_F q] at h; exact h
theorem sgn_lt {i : Nat} (h : i < len) : sgn tb len i = tb i := if_pos h
theorem sgn_dg {i : Nat} (h : isDg (sgn tb len i) = true) : i < len ∧ isDg (tb i) = true := by
  by_cases q : i < len
  · rw [sgn_lt q] at h; exact ⟨q, h⟩
  · unfold sgn at h; rw [if_neg q] at h; exact absurd h (by decide)
theorem readsDart_ev {s : RSt} {i : Nat} (hB : Bas tb len M) (hs : s = eN (run tb i)) (hf : qF s = none) (hw : qW s = 1 ∨ qW s = 2) (hb : ¬ isBl (sgn tb len i)) (hc : qW s = 2 → sgn tb len i ≠ 41) (hp : Pnd tb len i) (hR : RDR len s i M) (e28 : M.1 110 28 = nI (qP s)) (e29 : M.1 110 29 = nI (qC s).length) : EvI (E0 L xs) (d + 2) m10_readsDart [.ref 110] M (DaQ tb len s i M) := by
  have hl : len ≤ 300 := hB.1
  have hi := hR.1
  have a24 : gI M 110 24 = nI i := hR.2.1
  have aF := hR.2.2.1
  have hrf : qF (run tb i) = none := eN_none (by rw [← hs]; exact hf)
  have bad : ∀ (k : Nat) (v : Int32) (M1 : ME), RFin tb len M1 → Fr tRd M M1 → i + k ≤ len → M1.1 110 24 = nI (i + k) → Wp (E0 L xs) (d + 2) m10_readsDart 20 [.ref 110, .int (nI i), .int v] [] M1 (fun v' M' => ∃ r, v' = some (.int r) ∧ DaQ tb len s i M r M') := fun k v M1 hF f1 hk e1 => by
    have o : Wp (E0 L xs) (d + 2) m10_readsDart 91 [.ref 110, .int (nI i), .int v] [] M1 (fun v' M' => ∃ r, v' = some (.int r) ∧ DaQ tb len s i M r M') := b10_readsDart_91 (fun z => absurd z hF.2) (fun _ => b10_readsDart_116 (fun z => absurd z hF.2) (fun _ => b10_readsDart_123 ⟨_, rfl, f1, Or.inr ⟨hF, i + k, hk, e1⟩⟩))
    refine b10_readsDart_20 (fun z => absurd z hF.2) (fun _ => b10_readsDart_79 (fun _ => o) (fun _ => b10_readsDart_85 (faulty_n (k := 2) hF.2) (fun M2 h2 => ?_)))
    subst h2
    exact o
  have k24 : ∀ {M1 : ME}, Fr t24 M M1 → ∀ k, k ≠ 24 → M1.1 110 k = M.1 110 k := fun f k hk => f.1 110 k (t24_f (Or.inr hk))
  have fF : ∀ {M1 : ME}, Fr t24 M M1 → RN M1 := fun f => RN_fr aF (fun j h1 => k24 f j (by omega))
  have step : ∀ (k v : Nat) (M1 : ME), k < 2 → i + k < len → isDg (tb (i + k)) = true → Fr t24 M M1 → M1.1 110 24 = nI (i + k) → (∀ M2, Fr t24 M M2 → M2.1 110 24 = nI (i + (k + 1)) → Wp (E0 L xs) (d + 2) m10_readsDart 20 [.ref 110, .int (nI i), .int (nI (10 * v + dgC (tb (i + k))))] [] M2 (fun v' M' => ∃ r, v' = some (.int r) ∧ DaQ tb len s i M r M')) → Wp (E0 L xs) (d + 2) m10_readsDart 20 [.ref 110, .int (nI i), .int (nI v)] [] M1 (fun v' M' => ∃ r, v' = some (.int r) ∧ DaQ tb len s i M r M') := fun k v M1 hk hkl hdg f1 e1 next => by
    have hB1 := Bas_fr hB (t24_r f1)
    refine b10_readsDart_20 (fun _ => b10_readsDart_27 (isDigit_ev (d := d) hB1 (by omega) e1) (fun r M2 hr => ?_)) (fun z => absurd (fF f1).1 z)
    obtain ⟨rfl, rfl⟩ := hr
    rw [sgn_lt hkl, hdg]
    refine b10_readsDart_31 (fun z => absurd z (by decide)) (fun _ => b10_readsDart_34 (fun _ => b10_readsDart_53 (see_ev (d := d + 1) hB1 (by omega) e1) (fun r M3 hr => ?_)) (fun z => ?_))
    · obtain ⟨rfl, rfl⟩ := hr
      refine b10_readsDart_61 ?_
      rw [sgn_lt hkl, dg_step hdg, show gI M3 110 24 = _ from e1, nI_1]
      exact next _ (Fr_sI f1 rfl) (sI_eq _ _ _ _)
    · rw [show gI M2 110 24 = _ from e1, i_sub (show i ≤ i + k by omega)] at z
      have := (nI_leI (a := 2) (b := i + k - i) (by omega) (by omega)).mp (by rw [z]; exact nI_le (a := 2) (b := 2) (by omega) (by omega))
      omega
  have stop : ∀ (k v : Nat) (M1 : ME), 0 < k → i + k ≤ len → ¬ isDg (sgn tb len (i + k)) = true → Fr t24 M M1 → M1.1 110 24 = nI (i + k) → v < 100 → run tb (i + k) = (none, qR s, qC s, 3, qP s, v, i) → Wp (E0 L xs) (d + 2) m10_readsDart 20 [.ref 110, .int (nI i), .int (nI v)] [] M1 (fun v' M' => ∃ r, v' = some (.int r) ∧ DaQ tb len s i M r M') := fun k v M1 hk hkl hdg f1 e1 hv hrun => by
    have hB1 := Bas_fr hB (t24_r f1)
    have hdone := rd_done (L := L) (xs := xs) (d := d) hB (t24_d f1) (show i < i + k by omega) hkl e1 hs hrun hv (fun hlt hd => hdg (by rw [sgn_lt hlt]; exact hd)) hR (k24 f1) e28 e29
    refine b10_readsDart_20 (fun _ => b10_readsDart_27 (isDigit_ev (d := d) hB1 (by omega) e1) (fun r M2 hr => ?_)) (fun z => absurd (fF f1).1 z)
    obtain ⟨rfl, rfl⟩ := hr
    have hz : isDg (sgn tb len (i + k)) = false := by
      cases w : isDg (sgn tb len (i + k)) with
      | false => rfl
      | true => exact absurd w hdg
    rw [hz]
    exact b10_readsDart_31 (fun _ => hdone) (fun z => absurd rfl z)
  refine Ev_of k10_readsDart rfl (Nat.le_of_ble_eq_true rfl) (b10_readsDart_0 (isDigit_ev (d := d) hB hi a24) (fun r M1 hr => ?_))
  obtain ⟨rfl, rfl⟩ := hr
  rw [a24]
  by_cases hd0 : isDg (sgn tb len i) = true
  · obtain ⟨hil, hdi⟩ := sgn_dg hd0
    have hnw := hp hil hdi
    have hse : s = run tb i := by rw [hs]; exact eN_id (fun q => hnw q.2)
    have r1 : run tb (i + 1) = (none, qR s, qC s, 3, qP s, dgC (tb i), i) := by
      show stp (run tb i) (tb i) i = _
      rw [← hse]
      unfold stp
      rw [if_pos hf, if_pos hdi]
      unfold stD
      rw [if_neg (fun q => by rcases q with q | q <;> omega), if_neg (by omega)]
    have g1 := (dg_eq hdi).2.2.2.1
    rw [hd0]
    refine b10_readsDart_11 (fun _ => ?_) (fun z => absurd z (by decide))
    refine step 0 0 M1 (by omega) hil hdi (Fr_refl _ _) a24 (fun M2 f2 e2 => ?_)
    rw [show 10 * 0 + dgC (tb (i + 0)) = dgC (tb i) by rw [Nat.add_zero]; omega]
    by_cases hd1 : isDg (sgn tb len (i + 1)) = true
    · obtain ⟨hil1, hdi1⟩ := sgn_dg hd1
      have g2 := (dg_eq hdi1).2.2.2.1
      have r2 : run tb (i + 2) = (none, qR s, qC s, 3, qP s, 10 * dgC (tb i) + dgC (tb (i + 1)), i) := by
        show stp (run tb (i + 1)) (tb (i + 1)) (i + 1) = _
        rw [r1]
        unfold stp
        rw [if_pos rfl, if_pos hdi1]
        unfold stD
        rw [if_neg (fun q => by
          rcases q with q | q
          · exact absurd q (by show ¬ 3 = 0; omega)
          · have : 2 ≤ i + 1 - i := q.2
            omega), if_pos rfl]
      refine step 1 (dgC (tb i)) M2 (by omega) hil1 hdi1 f2 e2 (fun M3 f3 e3 => ?_)
      by_cases hd2 : isDg (sgn tb len (i + 2)) = true
      · obtain ⟨hil2, hdi2⟩ := sgn_dg hd2
        have hB3 := Bas_fr hB (t24_r f3)
        refine b10_readsDart_20 (fun _ => b10_readsDart_27 (isDigit_ev (d := d) hB3 (by omega) e3) (fun r M4 hr => ?_)) (fun z => absurd (fF f3).1 z)
        obtain ⟨rfl, rfl⟩ := hr
        rw [show i + (1 + 1) = i + 2 from rfl, hd2]
        refine b10_readsDart_31 (fun z => absurd z (by decide)) (fun _ => b10_readsDart_34 (fun z => absurd ?_ z) (fun _ => b10_readsDart_44 (R' := fun M5 => Fr tFa M4 M5 ∧ M5.1 110 24 = M4.1 110 24 ∧ RF M5 (if 1 = 2 ∨ 1 = 3 then (nI 1, nI (i + 2), M4.1 110 27, M4.1 110 28, M4.1 110 29) else flV (some (1, i + 2, none)))) ?_ (fun M5 h5 => ?_)))
        · rw [show gI M4 110 24 = _ from e3, i_sub (show i ≤ i + (1 + 1) by omega), show i + (1 + 1) - i = 2 by omega]; rfl
        · rw [show gI M4 110 24 = _ from e3]
          exact faulty_ev (k := 1) (p := i + 2) (by omega) (fF f3)
        · obtain ⟨f5, e5, h5⟩ := h5
          rw [if_neg (by omega)] at h5
          have r3 : run tb (i + 3) = (some (1, i + 2, none), (run tb (i + 2)).2) := by
            show stp (run tb (i + 2)) (tb (i + 2)) (i + 2) = _
            rw [r2]
            unfold stp
            rw [if_pos rfl, if_pos hdi2]
            unfold stD
            rw [if_pos (Or.inr ⟨rfl, (show 2 ≤ i + 2 - i by omega)⟩)]
          have hF : RFin tb len M5 := RFin_of h5 (by rw [fin_run (i := i + 3) (by rw [r3]; exact fun z => (by cases z)) (by omega), r3])
          have hB5 := Bas_fr hB3 (tFa_r f5)
          have e5' : M5.1 110 24 = nI (i + 2) := e5.trans e3
          refine b10_readsDart_53 (see_ev (d := d + 1) hB5 (by omega) e5') (fun r M6 hr => ?_)
          obtain ⟨rfl, rfl⟩ := hr
          refine b10_readsDart_61 ?_
          rw [show gI M6 110 24 = _ from e5', nI_1]
          have f6 : Fr t24 M6 (sI M6 110 24 (nI (i + 2 + 1))) := Fr_sI (Fr_refl _ _) rfl
          exact bad 3 _ _ (RFin_24 hF f6) (Fr_trans (t24_d f3) (Fr_trans (tFa_d f5) (t24_d f6))) (by omega) (sI_eq _ _ _ _)
      · exact stop 2 _ M3 (by omega) (by omega) hd2 f3 e3 (by omega) r2
    · exact stop 1 _ M2 (by omega) (by omega) hd1 f2 e2 (by omega) r1
  · have hz : isDg (sgn tb len i) = false := by
      cases w : isDg (sgn tb len i) with
      | false => rfl
      | true => exact absurd w hd0
    rw [hz]
    refine b10_readsDart_11 (fun z => absurd rfl z) (fun _ => b10_readsDart_14 (faulty_ev (d := d + 1) (k := 1) (p := i) (by omega) aF) (fun M2 h2 => ?_))
    obtain ⟨f2, e2, h2⟩ := h2
    rw [if_neg (by omega)] at h2
    have hF : RFin tb len M2 := by
      refine RFin_of h2 ?_
      by_cases q : i < len
      · have r1 : run tb (i + 1) = (some (1, i, none), s.2) := by
          show stp (run tb i) (tb i) i = _
          unfold stp
          rw [if_pos hrf, if_neg (show ¬ isDg (tb i) = true by rw [← sgn_lt (tb := tb) q]; exact hd0), ← hs, if_pos hf]
          unfold stO
          rw [if_neg (fun z => by rcases hw with w | w <;> omega), if_neg (fun z => hc z.2 (by rw [sgn_lt q]; exact z.1)), if_neg (fun z => hb (by rw [sgn_lt q]; exact z))]
        rw [fin_run (i := i + 1) (by rw [r1]; exact fun z => (by cases z)) (by omega), r1]
      · have : i = len := by omega
        subst this
        unfold endS
        rw [← hs, if_pos hf, if_neg (by omega)]
    exact bad 0 _ M2 hF (tFa_d f2) (by omega) (e2.trans a24)
end RRN
