/-! the reference: a text is read -/
theorem sh_e : ∀ v, v < 32 → ((nI v).toUInt32 &&& Int32.toUInt32 31) = UInt32.ofNat v := by decide
theorem bt_val (w : Int32) {v : Nat} (hv : v < 32) : (((w.toUInt32 >>> ((nI v).toUInt32 &&& Int32.toUInt32 31)).toInt32) &&& 1) = if w.toBitVec.getLsbD v = true then 1 else 0 := by
  rw [sh_e v hv, ← Int32.toBitVec_inj, Int32.toBitVec_and]
  have e : ((w.toUInt32 >>> UInt32.ofNat v).toInt32).toBitVec = w.toBitVec >>> v := by
    show (w.toUInt32 >>> UInt32.ofNat v).toBitVec = _
    rw [UInt32.toBitVec_shiftRight]
    show w.toBitVec >>> ((BitVec.ofNat 32 v) % 32) = _
    rw [BitVec.ushiftRight_eq']
    congr 1
    simp [BitVec.toNat_umod]
    omega
  rw [e]
  show w.toBitVec >>> v &&& 1#32 = _
  rw [BitVec.and_one_eq_setWidth_ofBool_getLsbD, BitVec.getLsbD_ushiftRight, Nat.add_zero]
  cases w.toBitVec.getLsbD v <;> decide
theorem bt_test (w : Int32) {v : Nat} (hv : v < 32) : (((w.toUInt32 >>> ((nI v).toUInt32 &&& Int32.toUInt32 31)).toInt32) &&& 1) = 1 ↔ w.toBitVec.getLsbD v = true := by
  rw [bt_val w hv]
  cases w.toBitVec.getLsbD v <;> decide
theorem bt_set (w : Int32) {v u : Nat} (hv : v < 32) (hu : u < 32) : (w ||| ((1 : Int32) <<< (nI v &&& 31))).toBitVec.getLsbD u = (w.toBitVec.getLsbD u || decide (u = v)) := by
  rw [Int32.toBitVec_or, BitVec.getLsbD_or]
  congr 1
  have h : ∀ v, v < 32 → ∀ u, u < 32 → ((1 : Int32) <<< (nI v &&& 31)).toBitVec.getLsbD u = decide (u = v) := by decide
  exact h v hv u hu
/-! pure: blanks, faults -/
def isBl (c : Int32) : Prop := c = 32 ∨ c = 10
theorem bl_nd {c : Int32} (h : isBl c) : ¬ isDg c = true := by rcases h with rfl | rfl <;> decide
theorem stp_bl {s : RSt} {c : Int32} {p : Nat} (h : isBl c) : stp s c p = eN s := by
  unfold stp
  by_cases hf : qF s = none
  · rw [if_pos hf, if_neg (bl_nd h)]
    by_cases hf2 : qF (eN s) = none
    · rw [if_pos hf2]
      have n1 : ¬ (c = 40 ∧ qW (eN s) = 0) := fun q => by rcases h with e | e <;> rw [e] at q <;> exact absurd q.1 (by decide)
      have n2 : ¬ (c = 41 ∧ qW (eN s) = 2) := fun q => by rcases h with e | e <;> rw [e] at q <;> exact absurd q.1 (by decide)
      exact (if_neg n1).trans ((if_neg n2).trans (if_pos h))
    · rw [if_neg hf2]
  · rw [if_neg hf, eN_F hf]
theorem run_bl {tb : Nat → Int32} {i : Nat} : ∀ k, (∀ j, i ≤ j → j < i + k → isBl (tb j)) → eN (run tb (i + k)) = eN (run tb i) ∧ (0 < k → run tb (i + k) = eN (run tb i))
  | 0, _ => ⟨rfl, fun h => absurd h (Nat.lt_irrefl _)⟩
  | k + 1, h => by
    have ih := run_bl k (fun j h1 h2 => h j h1 (by omega))
    have e : run tb (i + (k + 1)) = eN (run tb (i + k)) := stp_bl (h (i + k) (by omega) (by omega))
    have e2 : run tb (i + (k + 1)) = eN (run tb i) := by rw [e, ih.1]
    exact ⟨by rw [e2, eN_eN], fun _ => e2⟩
theorem fin_run {tb : Nat → Int32} {i len : Nat} (h : qF (run tb i) ≠ none) (hi : i ≤ len) : qF (endS (run tb len) len) = qF (run tb i) := by
  have e := run_st h (len - i)
  rw [show i + (len - i) = len by omega] at e
  rw [e]
  unfold endS
  rw [eN_F h, if_neg h]
/-- a fault found when a number ends -/
theorem fin_eN {tb : Nat → Int32} {i len : Nat} (h : qF (run tb i) = none) (h2 : qF (eN (run tb i)) ≠ none) (hi : i ≤ len) (hd : i < len → ¬ isDg (tb i) = true) : qF (endS (run tb len) len) = qF (eN (run tb i)) := by
  by_cases q : i = len
  · subst q
    unfold endS
    rw [if_neg h2]
  · have e : run tb (i + 1) = eN (run tb i) := by
      show stp (run tb i) (tb i) i = _
      unfold stp
      rw [if_pos h, if_neg (hd (by omega)), if_neg h2]
    have := fin_run (tb := tb) (i := i + 1) (len := len) (by rw [e]; exact h2) (by omega)
    rw [this, e]
section RRD
variable {L : Nat} {xs : Nat → Int32} {d : Nat} {M : ME} {tb : Nat → Int32} {len : Nat}
def tRr (k j : Nat) : Bool := match k with
  | 110 => Nat.ble 24 j && Nat.ble j 32
  | 111 => Nat.ble 128 j && Nat.ble j 159
  | _ => false
theorem tRr_f {k j : Nat} (h : k ≠ 110) (h2 : k ≠ 111) : tRr k j = false := by
  unfold tRr
  split
  all_goals first | omega | rfl
def t24 (k j : Nat) : Bool := k == 110 && j == 24
theorem t24_f {k j : Nat} (h : k ≠ 110 ∨ j ≠ 24) : t24 k j = false := by
  unfold t24
  rcases h with h | h <;> simp [h]
theorem t24_r {M' : ME} (f : Fr t24 M M') : Fr tRr M M' := Fr_mono f (fun k j q => t24_f (by
  by_cases a : k = 110
  · by_cases b : j = 24
    · rw [a, b] at q; cases q
    · exact Or.inr b
  · exact Or.inl a))
def Bas (tb : Nat → Int32) (len : Nat) (M : ME) : Prop := len ≤ 300 ∧ M.1 110 23 = nI len ∧ ∀ i, i < len → M.1 125 i = tb i
theorem Bas_fr {M' : ME} (h : Bas tb len M) (f : Fr tRr M M') : Bas tb len M' := ⟨h.1, (f.1 110 23 rfl).trans h.2.1, fun i hi => (f.1 125 i rfl).trans (h.2.2 i hi)⟩
def sgn (tb : Nat → Int32) (len i : Nat) : Int32 := if i < len then tb i else -1
theorem see_ev {i : Nat} (hB : Bas tb len M) (hi : i ≤ len) (e : M.1 110 24 = nI i) : EvI (E0 L xs) d m10_see [.ref 110] M (fun r M' => r = sgn tb len i ∧ M' = M) := by
  obtain ⟨hl, e2, e3⟩ := hB
  have e' : gI M 110 24 = nI i := e
  have e2' : gI M 110 23 = nI len := e2
  refine Ev_of k10_see rfl (Nat.le_of_ble_eq_true rfl) (b10_see_0 (fun h => b10_see_23 (b10_see_24 ⟨_, rfl, ?_, rfl⟩)) (fun h => ?_))
  · rw [e', e2'] at h
    have := (nI_leI (a := len) (b := i) (by omega) (by omega)).mp h
    exact (if_neg (by omega)).symm
  · have hlt : i < len := by
      by_cases q : i < len
      · exact q
      · exact absurd (by rw [e', e2']; exact nI_le (by omega) (by omega)) h
    refine b10_see_11 i e' (by omega) (b10_see_24 ⟨_, rfl, ?_, rfl⟩)
    rw [show sgn tb len i = tb i from if_pos hlt]
    exact e3 i hlt
theorem isDigit_ev {i : Nat} (hB : Bas tb len M) (hi : i ≤ len) (e : M.1 110 24 = nI i) : EvI (E0 L xs) (d + 1) m10_isDigit [.ref 110] M (fun r M' => r = b2i (isDg (sgn tb len i)) ∧ M' = M) := by
  refine Ev_of k10_isDigit rfl (Nat.le_of_ble_eq_true rfl) (b10_isDigit_0 (see_ev (d := d) hB hi e) (fun r M1 hr => ?_))
  obtain ⟨rfl, rfl⟩ := hr
  refine b10_isDigit_4 (fun z => b10_isDigit_22 (b10_isDigit_23 rfl ⟨_, rfl, ?_, rfl⟩)) (fun z1 => b10_isDigit_9 (see_ev (d := d) hB hi e) (fun r M2 hr => ?_))
  · unfold isDg; rw [decide_eq_true z]; rfl
  · obtain ⟨rfl, rfl⟩ := hr
    refine b10_isDigit_13 (fun z => b10_isDigit_22 (b10_isDigit_23 rfl ⟨_, rfl, ?_, rfl⟩)) (fun z => b10_isDigit_18 (b10_isDigit_23 rfl ⟨_, rfl, ?_, rfl⟩))
    · unfold isDg; rw [decide_eq_true z, decide_eq_false z1]; rfl
    · unfold isDg; rw [decide_eq_false z, decide_eq_false z1]; rfl
theorem skips_ev {i : Nat} (hB : Bas tb len M) (hi : i ≤ len) (e : M.1 110 24 = nI i) : EvV (E0 L xs) (d + 1) m10_skips [.ref 110] M (fun M' => Fr t24 M M' ∧ ∃ k, i + k ≤ len ∧ M'.1 110 24 = nI (i + k) ∧ (∀ j, i ≤ j → j < i + k → isBl (tb j)) ∧ ¬ isBl (sgn tb len (i + k))) := by
  refine Ev_of k10_skips rfl (Nat.le_of_ble_eq_true rfl) ?_
  suffices ho : ∀ (q k : Nat) (M1 : ME), i + k + q = len → Fr t24 M M1 → M1.1 110 24 = nI (i + k) → (∀ j, i ≤ j → j < i + k → isBl (tb j)) → Wp (E0 L xs) (d + 1) m10_skips 0 [.ref 110] [] M1 (fun v' M' => v' = none ∧ (Fr t24 M M' ∧ ∃ k, i + k ≤ len ∧ M'.1 110 24 = nI (i + k) ∧ (∀ j, i ≤ j → j < i + k → isBl (tb j)) ∧ ¬ isBl (sgn tb len (i + k)))) from ho (len - i) 0 M (by omega) (Fr_refl _ _) e (fun j h1 h2 => by omega)
  intro q
  induction q with
  | zero =>
    intro k M1 hk f e1 hb
    have hB1 := Bas_fr hB (t24_r f)
    have es : sgn tb len (i + k) = -1 := if_neg (by omega)
    refine b10_skips_0 (see_ev (d := d) hB1 (by omega) e1) (fun r M2 hr => ?_)
    obtain ⟨rfl, rfl⟩ := hr
    refine b10_skips_4 (fun z => absurd z (by rw [es]; decide)) (fun z => b10_skips_9 (see_ev (d := d) hB1 (by omega) e1) (fun r M3 hr => ?_))
    obtain ⟨rfl, rfl⟩ := hr
    refine b10_skips_13 (fun y => b10_skips_31 ⟨rfl, f, k, by omega, e1, hb, fun w => w.elim z y⟩) (fun y => absurd y (by rw [es]; decide))
  | succ q ih =>
    intro k M1 hk f e1 hb
    have hB1 := Bas_fr hB (t24_r f)
    have es : sgn tb len (i + k) = tb (i + k) := if_pos (by omega)
    have go : isBl (sgn tb len (i + k)) → Wp (E0 L xs) (d + 1) m10_skips 18 [.ref 110] [] M1 (fun v' M' => v' = none ∧ (Fr t24 M M' ∧ ∃ k, i + k ≤ len ∧ M'.1 110 24 = nI (i + k) ∧ (∀ j, i ≤ j → j < i + k → isBl (tb j)) ∧ ¬ isBl (sgn tb len (i + k)))) := fun hbl => by
      refine b10_skips_18 ?_
      rw [show gI M1 110 24 = _ from e1, nI_1]
      refine ih (k + 1) _ (by omega) (Fr_sI f rfl) (sI_eq _ _ _ _) (fun j h1 h2 => ?_)
      by_cases ej : j = i + k
      · rw [ej, ← es]; exact hbl
      · exact hb j h1 (by omega)
    refine b10_skips_0 (see_ev (d := d) hB1 (by omega) e1) (fun r M2 hr => ?_)
    obtain ⟨rfl, rfl⟩ := hr
    refine b10_skips_4 (fun z => go (Or.inl z)) (fun z => b10_skips_9 (see_ev (d := d) hB1 (by omega) e1) (fun r M3 hr => ?_))
    obtain ⟨rfl, rfl⟩ := hr
    exact b10_skips_13 (fun y => b10_skips_31 ⟨rfl, f, k, by omega, e1, hb, fun w => w.elim z y⟩) (fun y => go (Or.inr y))
/-- what fault tells of the reference -/
def RF (M : ME) (F : Int32 × Int32 × Int32 × Int32 × Int32) : Prop := M.1 110 25 = F.1 ∧ M.1 110 26 = F.2.1 ∧ ((M.1 110 30 = 0 ∧ F.2.2 = (-1, -1, -1)) ∨ (M.1 110 30 = 1 ∧ F.2.2 = (M.1 110 27, M.1 110 28, M.1 110 29)))
def RN (M : ME) : Prop := M.1 110 25 = 0 ∧ M.1 110 26 = -1 ∧ M.1 110 30 = 0
theorem RN_RF (h : RN M) : RF M (flV none) := ⟨h.1, h.2.1, Or.inl ⟨h.2.2, rfl⟩⟩
theorem RN_fr {M' : ME} (h : RN M) (e : ∀ j, (j = 25 ∨ j = 26 ∨ j = 30) → M'.1 110 j = M.1 110 j) : RN M' := by
  unfold RN at *
  rw [e 25 (by decide), e 26 (by decide), e 30 (by decide)]
  exact h
def RFin (tb : Nat → Int32) (len : Nat) (M : ME) : Prop := RF M (flV (qF (endS (run tb len) len))) ∧ M.1 110 25 ≠ 0
theorem RFin_fr {M' : ME} {t : Nat → Nat → Bool} (h : RFin tb len M) (f : Fr t M M') (ht : ∀ j, 25 ≤ j → j ≤ 30 → t 110 j = false) : RFin tb len M' := by
  have e : ∀ j, 25 ≤ j → j ≤ 30 → M'.1 110 j = M.1 110 j := fun j h1 h2 => f.1 110 j (ht j h1 h2)
  unfold RFin RF at *
  rw [e 25 (by decide) (by decide), e 26 (by decide) (by decide), e 27 (by decide) (by decide), e 28 (by decide) (by decide), e 29 (by decide) (by decide), e 30 (by decide) (by decide)]
  exact h
theorem RFin_24 {M' : ME} (h : RFin tb len M) (f : Fr t24 M M') : RFin tb len M' := RFin_fr h f (fun j h1 h2 => t24_f (Or.inr (by omega)))
def tFa (k j : Nat) : Bool := k == 110 && (j == 25 || j == 26 || j == 30)
theorem tFa_f {k j : Nat} (h : k ≠ 110 ∨ (j ≠ 25 ∧ j ≠ 26 ∧ j ≠ 30)) : tFa k j = false := by
  unfold tFa
  rcases h with h | ⟨h1, h2, h3⟩
  · simp [h]
  · simp [h1, h2, h3]
theorem tFa_r {M' : ME} (f : Fr tFa M M') : Fr tRr M M' := Fr_mono f (fun k j q => tFa_f (by
  by_cases a : k = 110
  · refine Or.inr ⟨fun b => ?_, fun b => ?_, fun b => ?_⟩ <;> rw [a, b] at q <;> cases q
  · exact Or.inl a))
theorem faulty_n {k : Nat} {p : Int32} (h : M.1 110 25 ≠ 0) : EvV (E0 L xs) d m10_faulty [.ref 110, .int (nI k), .int p] M (fun M' => M' = M) :=
  Ev_of k10_faulty rfl (Nat.le_of_ble_eq_true rfl) (b10_faulty_0 (fun z => absurd z h) (fun _ => b10_faulty_7 ⟨rfl, rfl⟩))
theorem faulty_ev {k p : Nat} (hk : k < 7) (h : RN M) : EvV (E0 L xs) d m10_faulty [.ref 110, .int (nI k), .int (nI p)] M (fun M' => Fr tFa M M' ∧ M'.1 110 24 = M.1 110 24 ∧ RF M' (if k = 2 ∨ k = 3 then (nI k, nI p, M.1 110 27, M.1 110 28, M.1 110 29) else flV (some (k, p, none)))) := by
  have ik : ∀ a : Nat, a < 7 → (nI k = nI a ↔ k = a) := fun a ha => by
    constructor
    · intro e
      have x := (nI_leI (a := k) (b := a) (by omega) (by omega)).mp (by rw [e]; exact nI_le (Nat.le_refl _) (by omega))
      have y := (nI_leI (a := a) (b := k) (by omega) (by omega)).mp (by rw [e]; exact nI_le (Nat.le_refl _) (by omega))
      omega
    · intro e; rw [e]
  have E : ∀ (v : Int32) j, j ≠ 25 → j ≠ 26 → j ≠ 30 → (sI (sI (sI M 110 25 (nI k)) 110 26 (nI p)) 110 30 v).1 110 j = M.1 110 j := fun v j a b c => by rw [sI_ne (Or.inr c), sI_ne (Or.inr b), sI_ne (Or.inr a)]
  have yes : (k = 2 ∨ k = 3) → Wp (E0 L xs) d m10_faulty 29 [.ref 110, .int (nI k), .int (nI p)] [.ref 110] (sI (sI M 110 25 (nI k)) 110 26 (nI p)) (fun v' M' => v' = none ∧ (Fr tFa M M' ∧ M'.1 110 24 = M.1 110 24 ∧ RF M' (if k = 2 ∨ k = 3 then (nI k, nI p, M.1 110 27, M.1 110 28, M.1 110 29) else flV (some (k, p, none))))) := fun q => by
    refine b10_faulty_29 (b10_faulty_34 rfl rfl ⟨rfl, Fr_sI (Fr_sI (Fr_sI (Fr_refl _ _) rfl) rfl) rfl, E _ 24 (by decide) (by decide) (by decide), ?_⟩)
    rw [if_pos q]
    refine ⟨by rw [sI_ne (Or.inr (by decide)), sI_ne (Or.inr (by decide)), sI_eq], by rw [sI_ne (Or.inr (by decide)), sI_eq], Or.inr ⟨sI_eq _ _ _ _, ?_⟩⟩
    rw [E _ 27 (by decide) (by decide) (by decide), E _ 28 (by decide) (by decide) (by decide), E _ 29 (by decide) (by decide) (by decide)]
  refine Ev_of k10_faulty rfl (Nat.le_of_ble_eq_true rfl) (b10_faulty_0 (fun _ => b10_faulty_8 (fun z => yes (Or.inl ((ik 2 (by omega)).mp z))) (fun z2 => b10_faulty_24 (fun z3 => b10_faulty_33 (b10_faulty_34 rfl rfl ⟨rfl, Fr_sI (Fr_sI (Fr_sI (Fr_refl _ _) rfl) rfl) rfl, E _ 24 (by decide) (by decide) (by decide), ?_⟩)) (fun z => yes (Or.inr ((ik 3 (by omega)).mp z))))) (fun z => absurd h.1 z))
  rw [if_neg (fun q => q.elim (fun e => z2 ((ik 2 (by omega)).mpr e)) (fun e => z3 ((ik 3 (by omega)).mpr e)))]
  exact ⟨by rw [sI_ne (Or.inr (by decide)), sI_ne (Or.inr (by decide)), sI_eq]; rfl, by rw [sI_ne (Or.inr (by decide)), sI_eq]; rfl, Or.inl ⟨sI_eq _ _ _ _, rfl⟩⟩
end RRD
