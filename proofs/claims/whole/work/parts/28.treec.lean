/-! the class's trees -/
/-- edges, steps, labels of a Tree at cell a -/
def cT0 (M : ME) (a : Nat) (t : PTr) : Prop := M.1 a 0 = nI (tn t) ∧ (∀ i, i < 2 * tn t → M.1 (a + 1) i = nI (ts t i)) ∧ ∀ v, v ≤ tn t → M.1 (a + 2) v = tl t v
def cTc (M : ME) (a : Nat) (t : PTr) : Prop := M.1 (a + 3) 0 = -1 ∧ (∀ v, 1 ≤ v → v ≤ tn t → M.1 (a + 3) v = nI (tP t v)) ∧ ∀ c, c < tC t → M.1 (a + 4) c = nI (tA t c)
def cT (M : ME) (a : Nat) (t : PTr) : Prop := cT0 M a t ∧ cTc M a t ∧ ∀ c, c < tC t → M.1 (a + 5) c = hrV t c
theorem cT0_fr {f : Nat → Nat → Bool} {M M' : ME} {a : Nat} {t : PTr} (h : cT0 M a t) (hF : Fr f M M') (hf : ∀ k j, (k = a ∨ k = a + 1 ∨ k = a + 2) → f k j = false) : cT0 M' a t :=
  ⟨(hF.1 _ _ (hf _ _ (Or.inl rfl))).trans h.1, fun i hi => (hF.1 _ _ (hf _ _ (Or.inr (Or.inl rfl)))).trans (h.2.1 i hi), fun v hv => (hF.1 _ _ (hf _ _ (Or.inr (Or.inr rfl)))).trans (h.2.2 v hv)⟩
theorem cTc_fr {f : Nat → Nat → Bool} {M M' : ME} {a : Nat} {t : PTr} (h : cTc M a t) (hF : Fr f M M') (hf : ∀ k j, (k = a + 3 ∨ k = a + 4) → f k j = false) : cTc M' a t :=
  ⟨(hF.1 _ _ (hf _ _ (Or.inl rfl))).trans h.1, fun v h1 h2 => (hF.1 _ _ (hf _ _ (Or.inl rfl))).trans (h.2.1 v h1 h2), fun c hc => (hF.1 _ _ (hf _ _ (Or.inr rfl))).trans (h.2.2 c hc)⟩
theorem cT_fr {f : Nat → Nat → Bool} {M M' : ME} {a : Nat} {t : PTr} (h : cT M a t) (hF : Fr f M M') (hf : ∀ k j, a ≤ k → k ≤ a + 5 → f k j = false) : cT M' a t :=
  ⟨cT0_fr h.1 hF (fun k j q => hf k j (by omega) (by omega)), cTc_fr h.2.1 hF (fun k j q => hf k j (by omega) (by omega)), fun c hc => (hF.1 _ _ (hf _ _ (by omega) (by omega))).trans (h.2.2 c hc)⟩
section PC
variable {E : EN} {d : Nat}
theorem placeCorners_ev {a : Nat} {t : PTr} {M0 : ME} (T : isTR E a) (hv : TV t) (hr : cT0 M0 a t) : EvV E d m8_placeCorners [.ref a] M0 (fun M => Fr (tR2 (a + 3) (a + 4)) M0 M ∧ cTc M a t) := by
  have hn : t.1 ≤ 8 := hv.1
  have frM : ∀ M, Fr (tR2 (a + 3) (a + 4)) M0 M → cT0 M a t := fun M hF => cT0_fr hr hF (fun k j q => tR2_f (by omega) (by omega))
  refine Ev_of k8_placeCorners rfl (Nat.le_of_ble_eq_true rfl) (b8_placeCorners_0 T 0 rfl (by decide) 0 rfl (by decide) ?_)
  suffices hloop : ∀ (k i : Nat) (M : ME), i + k = 2 * tn t → Fr (tR2 (a + 3) (a + 4)) M0 M → M.1 (a + 3) 0 = -1 → M.1 (a + 4) 0 = 0 → (∀ v, 1 ≤ v → v ≤ (tw (ts t) i).2.1 → M.1 (a + 3) v = nI ((tw (ts t) i).2.2 v)) → (∀ c, c < i → M.1 (a + 4) c = nI (tA t c)) → Wp E d m8_placeCorners 20 [.ref a, .int (nI (tA t i)), .int (nI (tw (ts t) i).2.1), .int (nI i)] [] M (fun v M' => v = none ∧ (Fr (tR2 (a + 3) (a + 4)) M0 M' ∧ cTc M' a t)) by
    refine hloop (2 * tn t) 0 _ (by omega) (Fr_sI (Fr_sI (Fr_refl _ _) (by simp [tR2])) (by simp [tR2])) (sI_eq _ _ _ _) ?_ (fun v h1 h2 => absurd h2 (by show ¬ v ≤ 0; omega)) (fun c hc => absurd hc (Nat.not_lt_zero _))
    rw [sI_ne (Or.inl (by omega))]; exact sI_eq _ _ _ _
  intro k
  induction k with
  | zero =>
    intro i M hi hF h0 h00 hp hc
    have hin : i = 2 * t.1 := hi
    have hM := frM M hF
    have e2 : 2 * gI M a 0 = nI (2 * t.1) := by rw [show gI M a 0 = _ from hM.1]; exact pk_mul 2 _
    have hup : (tw (ts t) i).2.1 = tn t := by
      obtain ⟨dp, h1, -⟩ := tw_inv hv.2.1 i (by omega)
      rw [h1, hin]; exact Dyck_ups hv.2.1
    refine b8_placeCorners_20 T (fun _ => ?_) (fun h => absurd (by rw [e2, hin]; exact nI_le (Nat.le_refl _) (by omega)) h)
    have hp' : ∀ v, 1 ≤ v → v ≤ tn t → M.1 (a + 3) v = nI (tP t v) := fun v h1 h2 => by rw [hp v h1 (by omega), hin]
    refine b8_placeCorners_87 ⟨rfl, hF, h0, hp', fun c hcc => ?_⟩
    by_cases h : tn t = 0
    · unfold tC at hcc
      rw [if_pos h] at hcc
      have hc0 : c = 0 := by omega
      subst hc0
      exact h00
    · unfold tC at hcc
      rw [if_neg h] at hcc
      exact hc c (by rw [hin]; exact hcc)
  | succ k ih =>
    intro i M hi hF h0 h00 hp hc
    have hi2 : i + (k + 1) = 2 * t.1 := hi
    have hM := frM M hF
    have e2 : 2 * gI M a 0 = nI (2 * t.1) := by rw [show gI M a 0 = _ from hM.1]; exact pk_mul 2 _
    obtain ⟨dp, g1, g2, g3, g4, g5, g6⟩ := tw_inv hv.2.1 i (by show i ≤ 2 * t.1; omega)
    have hle2 : ups (ts t) i ≤ t.1 := Dyck_le hv.2.1 (show i ≤ 2 * t.1 by omega)
    have hst := hv.2.1.1 i (by show i < 2 * t.1; omega)
    have hF1 : Fr (tR2 (a + 3) (a + 4)) M0 (sI M (a + 4) i (nI (tA t i))) := Fr_sI hF (by simp [tR2])
    have hM1 := frM _ hF1
    have es : gI (sI M (a + 4) i (nI (tA t i))) (a + 1) i = nI (ts t i) := hM1.2.1 i (by show i < 2 * t.1; omega)
    have hc1 : ∀ c, c < i + 1 → (sI M (a + 4) i (nI (tA t i))).1 (a + 4) c = nI (tA t c) := fun c hcc => by
      rw [sI_at]
      by_cases ec : c = i
      · rw [if_pos ⟨rfl, ec⟩, ec]
      · rw [if_neg (fun q => ec q.2)]; exact hc c (by omega)
    have h001 : (sI M (a + 4) i (nI (tA t i))).1 (a + 4) 0 = 0 := by
      rw [hc1 0 (by omega)]; rfl
    have h01 : (sI M (a + 4) i (nI (tA t i))).1 (a + 3) 0 = -1 := by rw [sI_ne (Or.inl (by omega))]; exact h0
    have hp1 : ∀ v, 1 ≤ v → v ≤ (tw (ts t) i).2.1 → (sI M (a + 4) i (nI (tA t i))).1 (a + 3) v = nI ((tw (ts t) i).2.2 v) := fun v v1 v2 => by rw [sI_ne (Or.inl (by omega))]; exact hp v v1 v2
    refine b8_placeCorners_20 T (fun h => ?_) (fun _ => b8_placeCorners_30 T i rfl (by omega) i rfl (by omega) (fun h => ?_) (fun h => ?_))
    · rw [e2] at h
      exact absurd ((nI_leI (by omega) (by omega)).mp h) (by omega)
    · have hs1 : ¬ ts t i = 1 := fun q => h (by rw [es, q]; rfl)
      have e : tw (ts t) (i + 1) = ((tw (ts t) i).2.2 (tw (ts t) i).1, (tw (ts t) i).2.1, (tw (ts t) i).2.2) := if_neg hs1
      have hat : 1 ≤ (tw (ts t) i).1 := by
        rcases Nat.eq_zero_or_pos (tw (ts t) i).1 with q | q
        · exfalso
          have hh := hv.2.1.2.1 (i + 1) (by show i + 1 ≤ 2 * t.1; omega)
          have eh : hgt (ts t) (i + 1) = hgt (ts t) i - 1 := if_neg hs1
          rw [q, g4] at g6
          omega
        · exact q
      refine b8_placeCorners_70 (fun h2 => ?_) (fun _ => b8_placeCorners_74 T (tA t i) rfl (by show (tw (ts t) i).1 < 9; omega) (b8_placeCorners_81 ?_))
      · exact absurd ((nI_leI (b := 0) (by show (tw (ts t) i).1 < _; omega) (by decide)).mp h2) (by show ¬ (tw (ts t) i).1 ≤ 0; omega)
      · have e6 : gI (sI M (a + 4) i (nI (tA t i))) (a + 3) (tA t i) = nI (tA t (i + 1)) := by
          show (sI M (a + 4) i (nI (tA t i))).1 (a + 3) (tw (ts t) i).1 = nI (tw (ts t) (i + 1)).1
          rw [hp1 _ hat g2, e]
        rw [e6, nI_1]
        have := ih (i + 1) _ (by omega) hF1 h01 h001 (by rw [e]; exact hp1) hc1
        rw [show (tw (ts t) (i + 1)).2.1 = (tw (ts t) i).2.1 from by rw [e]] at this
        exact this
    · have hs1 : ts t i = 1 := by
        rw [es] at h
        rcases hst with q | q
        · rw [q] at h; exact absurd h (by decide)
        · exact q
      have e : tw (ts t) (i + 1) = ((tw (ts t) i).2.1 + 1, (tw (ts t) i).2.1 + 1, va_up (tw (ts t) i).2.2 ((tw (ts t) i).2.1 + 1) (tw (ts t) i).1) := if_pos hs1
      have hlt2 : ups (ts t) i < t.1 := Dyck_lt hv.2.1 (show i < 2 * t.1 by omega) hs1
      refine b8_placeCorners_47 T (fun h2 => ?_) (fun _ => b8_placeCorners_55 T ((tw (ts t) i).2.1 + 1) (nI_1 _) (by omega) (b8_placeCorners_81 ?_))
      · rw [show gI _ a 0 = _ from hM1.1] at h2
        exact absurd ((nI_leI (by show t.1 < _; omega) (by omega)).mp h2) (by show ¬ t.1 ≤ _; omega)
      · rw [nI_1, nI_1]
        have := ih (i + 1) (sI (sI M (a + 4) i (nI (tA t i))) (a + 3) ((tw (ts t) i).2.1 + 1) (nI (tA t i))) (by omega) (Fr_sI hF1 (by simp [tR2])) (by rw [sI_ne (Or.inr (by omega))]; exact h01) (by rw [sI_ne (Or.inl (by omega))]; exact h001) (by
          rw [e]
          intro v v1 v2
          have v2' : v ≤ (tw (ts t) i).2.1 + 1 := v2
          rw [sI_at]
          show _ = nI (va_up _ _ _ v)
          by_cases ev : v = (tw (ts t) i).2.1 + 1
          · rw [if_pos ⟨rfl, ev⟩, ev, show va_up (tw (ts t) i).2.2 ((tw (ts t) i).2.1 + 1) (tw (ts t) i).1 ((tw (ts t) i).2.1 + 1) = (tw (ts t) i).1 from if_pos rfl]
          · rw [if_neg (fun q => ev q.2), show va_up (tw (ts t) i).2.2 ((tw (ts t) i).2.1 + 1) (tw (ts t) i).1 v = (tw (ts t) i).2.2 v from if_neg ev]
            exact hp1 v v1 (by omega)) (fun c hcc => by rw [sI_ne (Or.inl (by omega))]; exact hc1 c hcc)
        rw [show tA t (i + 1) = (tw (ts t) i).2.1 + 1 from by show (tw (ts t) (i + 1)).1 = _; rw [e], show (tw (ts t) (i + 1)).2.1 = (tw (ts t) i).2.1 + 1 from by rw [e]] at this
        exact this
theorem ccorners_ev {a : Nat} {t : PTr} {M0 : ME} (T : isTR E a) (hv : TV t) (hr : M0.1 a 0 = nI (tn t)) : EvI E d m8_corners [.ref a] M0 (fun r M => r = nI (tC t) ∧ M = M0) := by
  have hn : t.1 ≤ 8 := hv.1
  refine Ev_of k8_corners rfl (Nat.le_of_ble_eq_true rfl) (b8_corners_0 T (fun h => b8_corners_11 T (b8_corners_17 ⟨_, rfl, ?_, rfl⟩)) (fun h => b8_corners_7 (b8_corners_17 ⟨_, rfl, ?_, rfl⟩)))
  · rw [show gI M0 a 0 = _ from hr] at h ⊢
    have : tn t ≠ 0 := fun q => h (by rw [q]; rfl)
    unfold tC; rw [if_neg this]; exact pk_mul 2 _
  · rw [show gI M0 a 0 = _ from hr] at h
    have : tn t = 0 := (nI_eq (b := 0) (by show t.1 < _; omega) (by decide)).mp h
    unfold tC; rw [if_pos this]; rfl
theorem heirOf_ev {a c : Nat} {t : PTr} {M0 : ME} (T : isTR E a) (hv : TV t) (hr : cT0 M0 a t) (hc : cTc M0 a t) (hcc : c < tC t) : EvI E (d + 1) m8_heirOf [.ref a, .int (nI c)] M0 (fun r M => r = hrV t c ∧ M = M0) := by
  have hC := tC_le hv
  have hn : t.1 ≤ 8 := hv.1
  have hA : tA t c ≤ t.1 := tA_le hv hcc
  refine Ev_of k8_heirOf rfl (Nat.le_of_ble_eq_true rfl) (b8_heirOf_0 T c rfl (by omega) (tA t c) (hc.2.2 c hcc) (by omega) ?_)
  rw [show gI M0 (a + 2) (tA t c) = _ from hr.2.2 _ hA]
  suffices hloop : ∀ (f k : Nat), k + f = tC t → 1 ≤ k → hrV t c = hrK t c k f → Wp E (d + 1) m8_heirOf 19 [.ref a, .int (nI c), .int (tl t (tA t c) - 1), .int (nI ((c + (k - 1)) % tC t)), .int (nI k)] [] M0 (fun v M' => ∃ r, v = some (.int r) ∧ (r = hrV t c ∧ M' = M0)) by
    have := hloop (tC t - 1) 1 (by have := tC_pos t; omega) (Nat.le_refl _) rfl
    rw [show (c + (1 - 1)) % tC t = c from Nat.mod_eq_of_lt hcc] at this
    exact this
  intro f
  induction f with
  | zero =>
    intro k hk h1 he
    refine b8_heirOf_19 T (ccorners_ev T hv hr.1) (fun r M1 h1 => ?_)
    obtain ⟨rfl, rfl⟩ := h1
    exact b8_heirOf_25 (fun _ => b8_heirOf_69 ⟨_, rfl, he.symm, rfl⟩) (fun h => absurd (nI_le (by omega) (by omega)) h)
  | succ f ih =>
    intro k hk h1 he
    have hpos := tC_pos t
    have hmod := Nat.mod_lt (c + k) hpos
    have hmod0 := Nat.mod_lt (c + (k - 1)) hpos
    have hA2 : tA t ((c + k) % tC t) ≤ t.1 := tA_le hv hmod
    have emod : (c + k) % tC t = if (c + (k - 1)) % tC t + 1 = tC t then 0 else (c + (k - 1)) % tC t + 1 := by
      have : c + k = c + (k - 1) + 1 := by omega
      rw [this, Nat.add_mod]
      by_cases q : (c + (k - 1)) % tC t + 1 = tC t
      · rw [if_pos q]
        by_cases q1 : tC t = 1
        · rw [q1]; exact Nat.mod_one _
        · rw [Nat.mod_eq_of_lt (show 1 < tC t by omega), q, Nat.mod_self]
      · rw [if_neg q]
        rw [Nat.mod_eq_of_lt (show 1 < tC t by omega), Nat.mod_eq_of_lt (by omega)]
    refine b8_heirOf_19 T (ccorners_ev T hv hr.1) (fun r M1 h1 => ?_)
    obtain ⟨rfl, rfl⟩ := h1
    refine b8_heirOf_25 (fun h => absurd ((nI_leI (by omega) (by omega)).mp h) (by omega)) (fun _ => b8_heirOf_28 T (ccorners_ev T hv hr.1) (fun r M2 h2 => ?_))
    obtain ⟨rfl, rfl⟩ := h2
    have hgo : Wp E (d + 1) m8_heirOf 45 [.ref a, .int (nI c), .int (tl t (tA t c) - 1), .int (nI ((c + (k - 1)) % tC t)), .int (nI k)] [.int (nI ((c + k) % tC t))] M2 (fun v M' => ∃ r, v = some (.int r) ∧ (r = hrV t c ∧ M' = M2)) := by
      refine b8_heirOf_45 T ((c + k) % tC t) rfl (by omega) (tA t ((c + k) % tC t)) (hc.2.2 _ hmod) (by omega) (fun h => b8_heirOf_63 ?_) (fun h => b8_heirOf_61 ⟨_, rfl, ?_, rfl⟩)
      · rw [show gI M2 (a + 2) _ = _ from hr.2.2 _ hA2] at h
        rw [nI_1]
        refine ih (k + 1) (by omega) (by omega) (he.trans ?_)
        show (if _ then _ else _) = _
        rw [if_neg h]
      · rw [show gI M2 (a + 2) _ = _ from hr.2.2 _ hA2] at h
        rw [he]
        show _ = (if _ then _ else _)
        rw [if_pos h]
    refine b8_heirOf_35 (fun h => b8_heirOf_42 ?_) (fun h => b8_heirOf_38 ?_)
    · rw [nI_1] at h ⊢
      have q : ¬ (c + (k - 1)) % tC t + 1 = tC t := fun q => h (by rw [q])
      rw [if_neg q] at emod
      rw [← emod]; exact hgo
    · rw [nI_1] at h
      have q : (c + (k - 1)) % tC t + 1 = tC t := (nI_eq (by omega) (by omega)).mp h
      rw [if_pos q] at emod
      rw [emod] at hgo
      exact hgo
theorem findHeirs_ev {a : Nat} {t : PTr} {M0 : ME} (T : isTR E a) (hv : TV t) (hr : cT0 M0 a t) (hc : cTc M0 a t) : EvV E (d + 2) m8_findHeirs [.ref a] M0 (fun M => Fr (tR1 (a + 5)) M0 M ∧ cT M a t) := by
  have hC := tC_le hv
  refine Ev_of k8_findHeirs rfl (Nat.le_of_ble_eq_true rfl) (b8_findHeirs_0 ?_)
  refine lpN (tC t) (fun i M => Fr (tR1 (a + 5)) M0 M ∧ cT0 M a t ∧ cTc M a t ∧ ∀ c, c < i → M.1 (a + 5) c = hrV t c) (fun i M => Wp E (d + 2) m8_findHeirs 2 [.ref a, .int (nI i)] [] M _) ?_ ?_ 0 M0 (Nat.zero_le _) ⟨Fr_refl _ _, hr, hc, fun c h => absurd h (Nat.not_lt_zero _)⟩
  · intro M ⟨hF, h1, h2, h3⟩
    refine b8_findHeirs_2 T (ccorners_ev T hv h1.1) (fun r M1 hh => ?_)
    obtain ⟨rfl, rfl⟩ := hh
    exact b8_findHeirs_7 (fun _ => b8_findHeirs_27 ⟨rfl, hF, h1, h2, h3⟩) (fun h => absurd (nI_le (Nat.le_refl _) (by omega)) h)
  · intro i M hi ⟨hF, h1, h2, h3⟩ ih
    refine b8_findHeirs_2 T (ccorners_ev T hv h1.1) (fun r M1 hh => ?_)
    obtain ⟨rfl, rfl⟩ := hh
    refine b8_findHeirs_7 (fun h => absurd ((nI_leI (by omega) (by omega)).mp h) (by omega)) (fun _ => b8_findHeirs_10 T (heirOf_ev T hv h1 h2 hi) (fun r M2 hh => ?_))
    obtain ⟨rfl, rfl⟩ := hh
    refine b8_findHeirs_20 T.2.2.2.2.2 (by decide) i rfl (by omega) ?_
    rw [nI_1]
    have hF2 : Fr (tR1 (a + 5)) M2 (sI M2 (a + 5) i (hrV t i)) := Fr_sI (Fr_refl _ _) (by simp [tR1])
    refine ih _ ⟨Fr_trans hF hF2, cT0_fr h1 hF2 (fun k j q => tR1_f (by omega)), cTc_fr h2 hF2 (fun k j q => tR1_f (by omega)), fun c hc => ?_⟩
    rw [sI_at]
    by_cases e : c = i
    · rw [if_pos ⟨rfl, e⟩, e]
    · rw [if_neg (fun q => e q.2)]; exact h3 c (by omega)
end PC
