/-! the reference: is it whole; map -/
section RMW
variable {L : Nat} {xs : Nat → Int32} {d : Nat} {M : ME} {tb : Nat → Int32} {len : Nat}
def okN (s : RSt) (k : Nat) : Bool := decide ((toL s).length % 2 = 0) && alB (fun v => decide (decide (v ∈ toL s) = decide (v < (toL s).length))) k
theorem okN_iff {s : RSt} {p : Nat} (hI : RI s p) : okN s 32 = allT s := by
  have h : okN s 32 = true ↔ allT s = true := by
    rw [allT_iff hI.1]
    unfold okN
    rw [Bool.and_eq_true, alB_iff, decide_eq_true_eq]
    constructor
    · rintro ⟨h1, h2⟩
      refine ⟨fun v => ?_, h1⟩
      have hl := toL_len hI
      by_cases q : v < 32
      · have := of_decide_eq_true (h2 v q)
        exact decide_eq_decide.mp this
      · exact ⟨fun z => absurd (hI.2.1 v z) q, fun z => by omega⟩
    · rintro ⟨h1, h2⟩
      exact ⟨h2, fun v _ => decide_eq_true (decide_eq_decide.mpr (h1 v))⟩
  cases a : okN s 32 <;> cases b : allT s <;> rw [a, b] at h <;> simp_all
def tMa (k j : Nat) : Bool := tSr k j || (k == 110 && (Nat.ble 22 j && Nat.ble j 32))
theorem tMa_s {M' : ME} (f : Fr tSr M M') : Fr tMa M M' := Fr_mono f (fun k j q => by
  have q2 : (tSr k j || (k == 110 && (Nat.ble 22 j && Nat.ble j 32))) = false := q
  rw [Bool.or_eq_false_iff] at q2; exact q2.1)
theorem tMa_110 {j : Nat} (h : 22 ≤ j) (h2 : j ≤ 32) : tMa 110 j = true := by
  show (tSr 110 j || (true && (Nat.ble 22 j && Nat.ble j 32))) = true
  rw [bleb h h2]; simp
theorem tMa_r {M' : ME} (f : Fr tRr M M') : Fr tMa M M' := Fr_mono f (fun k j q => by
  unfold tRr
  split
  · by_cases w : 24 ≤ j ∧ j ≤ 32
    · rw [tMa_110 (by omega) (by omega)] at q; cases q
    · exact bleb_f (by omega)
  · by_cases w : 128 ≤ j
    · have : tMa 111 j = true := by
        show (Nat.ble 128 j || _) = true
        rw [show Nat.ble 128 j = true from Nat.ble_eq_true_of_le w]; rfl
      rw [this] at q; cases q
    · exact bleb_f (by omega)
  · rfl)
theorem tMa_a {M' : ME} (f : Fr tFa M M') : Fr tMa M M' := tMa_r (tFa_r f)
theorem tMa_R {M' : ME} (f : Fr tMa M M') : FrR M M' := FrR_of f (fun k j hk => by
  show (tSr k j || (k == 110 && _)) = false
  rw [tSr_f hk, show (k == 110) = false by simp; omega]; rfl)
theorem RF_n {F : Int32 × Int32 × Int32 × Int32 × Int32} {M' : ME} {t : Nat → Nat → Bool} (h : RF M F) (f : Fr t M M') (ht : ∀ j, 25 ≤ j → j ≤ 30 → t 110 j = false) : RF M' F := RF_fr h (fun j h1 h2 => f.1 110 j (ht j h1 h2))
/-- the fault at last, and the map -/
def WhQ (tb : Nat → Int32) (len : Nat) (M : ME) : ME → Prop := fun M' => Fr tMa M M' ∧ M'.1 110 22 = M.1 110 22 ∧ M'.1 110 23 = M.1 110 23 ∧ ((rdF tb len = none ∧ RN M' ∧ rM M' 4 (rdM tb len)) ∨ (rdF tb len ≠ none ∧ RF M' (flV (rdF tb len)) ∧ M'.1 110 25 ≠ 0))
theorem rdF_FK {f : Nat × Nat × Option (Nat × Nat × Nat)} (h : rdF tb len = some f) : (flV (some f)).1 ≠ 0 := by
  have : 1 ≤ f.1 ∧ f.1 ≤ 6 := by
    unfold rdF at h
    by_cases h1 : qF (endS (run tb len) len) = none
    · rw [if_pos h1] at h
      by_cases h2 : lost (mpO (endS (run tb len) len)) = true
      · rw [if_pos h2] at h; cases h; exact ⟨by show 1 ≤ 5; decide, by show 5 ≤ 6; decide⟩
      · rw [if_neg h2] at h
        by_cases h3 : pVn (mpO (endS (run tb len) len)) + pFn (mpO (endS (run tb len) len)) = pE (mpO (endS (run tb len) len)) + 2
        · rw [if_pos h3] at h; cases h
        · rw [if_neg h3] at h; cases h; exact ⟨by show 1 ≤ 6; decide, by show 6 ≤ 6; decide⟩
    · rw [if_neg h1] at h
      exact endS_FK (run_FK tb len) f h
  exact fk_ne this.1 this.2
theorem WhQ_bad {M1 : ME} {k : Nat} (hk : ¬ (k = 2 ∨ k = 3)) (f : Fr tMa M M1) (e1 : M1.1 110 22 = M.1 110 22) (e2 : M1.1 110 23 = M.1 110 23) (h : RF M1 (if k = 2 ∨ k = 3 then (nI k, nI len, M.1 110 27, M.1 110 28, M.1 110 29) else flV (some (k, len, none)))) (hr : rdF tb len = some (k, len, none)) : WhQ tb len M M1 := by
  rw [if_neg hk] at h
  refine ⟨f, e1, e2, Or.inr ⟨by rw [hr]; exact fun z => (by cases z), by rw [hr]; exact h, ?_⟩⟩
  rw [h.1]; exact rdF_FK hr
theorem isWhole_ev (hB : Bas tb len M) (hf : qF (run tb len) = none) (hw : qW (run tb len) = 0) (hR : RDR len (run tb len) len M) (h0 : M.1 113 4 = nI 0) : EvV (E0 L xs) (d + 3) m10_isWhole [.ref 110] M (WhQ tb len M) := by
  have hl300 : len ≤ 300 := hB.1
  have hI := run_RI tb len
  have hll := toL_len hI
  have e23 : gI M 110 23 = nI len := hB.2.1
  have eN0 : eN (run tb len) = run tb len := eN_id (fun q => by omega)
  obtain ⟨-, a24, aF, a27, a31, a32, aN⟩ := hR
  have e32 : gI M 110 32 = nI (toL (run tb len)).length := a32
  have hC0 : qC (run tb len) = [] := (hI.2.2 hf).2.1 hw
  have hend : endS (run tb len) len = if allT (run tb len) = true then run tb len else (some (4, len, none), (run tb len).2) := by
    unfold endS; rw [eN0, if_pos hf, if_pos hw]
  generalize hs : run tb len = s at *
  refine Ev_of k10_isWhole rfl (Nat.le_of_ble_eq_true rfl) ?_
  suffices ho : ∀ (q k : Nat), k + q = 32 → Wp (E0 L xs) (d + 3) m10_isWhole 17 [.ref 110, .int (b2i (okN s k)), .int (nI k)] [] M (fun v' M' => v' = none ∧ WhQ tb len M M') by
    have := ho 32 0 (by omega)
    have em : gI M 110 32 - gI M 110 32 / 2 * 2 = nI ((toL s).length % 2) := by rw [e32]; exact pk_rem (a := (toL s).length) (d := 2) (by omega) (by decide) (by decide)
    have ok0 : okN s 0 = decide ((toL s).length % 2 = 0) := Bool.and_true _
    rw [ok0] at this
    refine b10_isWhole_0 (fun z => b10_isWhole_13 (b10_isWhole_14 ?_)) (fun z => b10_isWhole_9 (b10_isWhole_14 ?_))
    · rw [em] at z
      rw [decide_eq_false (fun e => z (by rw [e]; rfl))] at this; exact this
    · rw [em] at z
      have e : (toL s).length % 2 = 0 := by
        have := (nI_leI (a := (toL s).length % 2) (b := 0) (by omega) (by omega)).mp (by rw [z]; exact nI_le (a := 0) (b := 0) (by omega) (by omega))
        omega
      rw [decide_eq_true e] at this; exact this
  intro q
  induction q with
  | succ q ih =>
    intro k hk
    have hk32 : k < 32 := by omega
    have nxt := ih (k + 1) (by omega)
    have okS : okN s (k + 1) = (okN s k && decide (decide (k ∈ toL s) = decide (k < (toL s).length))) := by
      unfold okN
      rw [Bool.and_assoc]; rfl
    have bit := bt_val (M.1 110 31) hk32
    rw [a31 k hk32] at bit
    have fin : ∀ (s0 s1 : Int32), s0 = (if decide (k ∈ toL s) = true then 1 else 0) → s1 = (if k < (toL s).length then 1 else 0) → Wp (E0 L xs) (d + 3) m10_isWhole 44 [.ref 110, .int (b2i (okN s k)), .int (nI k)] [.int s1, .int s0] M (fun v' M' => v' = none ∧ WhQ tb len M M') := fun s0 s1 h0 h1 => by
      have same : s0 = s1 ↔ decide (k ∈ toL s) = decide (k < (toL s).length) := by
        rw [h0, h1]
        by_cases m : k ∈ toL s <;> by_cases n : k < (toL s).length
        · rw [if_pos (decide_eq_true m), if_pos n, decide_eq_true m, decide_eq_true n]; simp
        · rw [if_pos (decide_eq_true m), if_neg n, decide_eq_true m, decide_eq_false n]; decide
        · rw [if_neg (by rw [decide_eq_false m]; decide), if_pos n, decide_eq_false m, decide_eq_true n]; decide
        · rw [if_neg (by rw [decide_eq_false m]; decide), if_neg n, decide_eq_false m, decide_eq_false n]; simp
      refine b10_isWhole_44 (fun z => b10_isWhole_49 ?_) (fun z => b10_isWhole_47 (b10_isWhole_49 ?_))
      · rw [nI_1]
        rw [okS, decide_eq_true (same.mp z), Bool.and_true] at nxt
        exact nxt
      · rw [nI_1]
        rw [okS, decide_eq_false (fun e => z (same.mpr e)), Bool.and_false] at nxt
        exact nxt
    refine b10_isWhole_17 (fun h => absurd ((nI_leI (a := 32) (b := k) (by omega) (by omega)).mp h) (by omega)) (fun _ => b10_isWhole_23 (fun h => b10_isWhole_43 (fin _ _ bit ?_)) (fun h => b10_isWhole_39 (fin _ _ bit ?_)))
    · rw [e32] at h
      have := (nI_leI (a := (toL s).length) (b := k) (by omega) (by omega)).mp h
      rw [if_neg (by omega)]
    · rw [e32] at h
      by_cases n : k < (toL s).length
      · rw [if_pos n]
      · exact absurd (nI_le (by omega) (by omega)) h
  | zero =>
    intro k hk
    have : k = 32 := by omega
    subst this
    rw [okN_iff hI]
    refine b10_isWhole_17 (fun _ => ?_) (fun h => absurd (by decide) h)
    by_cases hA : allT s = true
    · rw [hA]
      refine b10_isWhole_55 (fun _ => b10_isWhole_68 (fun _ => ?_) (fun z => absurd aF.1 z)) (fun z => absurd z (by decide))
      rw [if_pos hA] at hend
      have hfe : qF (endS (run tb len) len) = none := by rw [hs, hend]; exact hf
      have hP := mpO_PV (run_RI tb len) hfe
      rw [hs, hend] at hP
      obtain ⟨hm, hNm⟩ := hP
      have hrm : rdM tb len = mpO s := by unfold rdM; rw [hs, hend]
      have et : toL s = (qR s).flatten := by unfold toL; rw [hC0]; rfl
      have r0 : rM (sI M 112 4 (gI M 110 32 / 2)) 4 (mpO s) := by
        refine ⟨?_, (sI_ne (Or.inl (by decide))).trans h0, fun x hx => ?_⟩
        · rw [sI_eq, e32]; exact half_e (by omega)
        · rw [hNm] at hx
          rw [sI_ne (Or.inl (by decide))]
          have hmx := (((allT_iff hI.1).mp hA).1 x).mpr hx
          rw [et] at hmx
          obtain ⟨r, hr, hxr⟩ := List.mem_flatten.mp hmx
          rw [show 32 * 4 + x = 128 + x from rfl, aN r hr x hxr]
          exact congrArg nI (rX_eq (by rw [← et]; exact hI.1) hr hxr).symm
      have f0 : Fr tSr M (sI M 112 4 (gI M 110 32 / 2)) := Fr_sI (Fr_refl _ _) rfl
      refine b10_isWhole_76 4 rfl (by decide) (lays_ev (d := d) (s := 4) (by decide) hm r0) (fun M1 h1 => ?_)
      obtain ⟨f1, l1⟩ := h1
      have r1 : rM M1 4 (mpO s) := rM_fr r0 f1 rfl rfl (fun _ _ => rfl)
      refine b10_isWhole_93 (laysFar_ev (d := d + 1) (s := 4) (w := 0) (by decide) (by decide) hm r1 l1.1 l1.2.2.1) (fun M2 h2 => b10_isWhole_99 ?_)
      obtain ⟨f2, v2⟩ := h2
      have fS : Fr tSr M M2 := Fr_trans f0 (Fr_trans (tL_sr f1) (t117_sr f2))
      have r2 : rM M2 4 (mpO s) := rM_fr r1 f2 rfl rfl (fun _ _ => rfl)
      have F2 : RN M2 := RN_fr aF (fun j h => fS.1 110 j (by rcases h with rfl | rfl | rfl <;> rfl))
      have V2 : M2.1 110 7 = nI (pVn (mpO s)) := (f2.1 110 7 rfl).trans l1.1
      have W2 : M2.1 110 8 = nI (pFn (mpO s)) := (f2.1 110 8 rfl).trans l1.2.1
      have hV := pVn_le hm
      have hFn := pFn_le hm
      have hE : (mpO s).1 ≤ 16 := hm.1
      have c22 : M2.1 110 22 = M.1 110 22 := fS.1 110 22 rfl
      have c23 : M2.1 110 23 = M.1 110 23 := fS.1 110 23 rfl
      -- what comes behind the vertices
      have last : ∀ (M3 : ME) (x : Int32), Fr tFa M2 M3 → ((RN M3 ∧ lost (mpO s) = false) ∨ (lost (mpO s) = true ∧ RF M3 (flV (some (5, len, none))) ∧ M3.1 110 25 ≠ 0)) → Wp (E0 L xs) (d + 3) m10_isWhole 134 [.ref 110, .int 1, .int x] [] M3 (fun v' M' => v' = none ∧ WhQ tb len M M') := fun M3 x f3 hc => by
        have fM : Fr tMa M M3 := Fr_trans (tMa_s fS) (tMa_a f3)
        have g7 : gI M3 110 7 = nI (pVn (mpO s)) := (f3.1 110 7 rfl).trans V2
        have g8 : gI M3 110 8 = nI (pFn (mpO s)) := (f3.1 110 8 rfl).trans W2
        have g4 : gI M3 112 4 = nI (pE (mpO s)) := (f3.1 112 4 rfl).trans r2.1
        have d22 : M3.1 110 22 = M.1 110 22 := (f3.1 110 22 rfl).trans c22
        have d23 : M3.1 110 23 = M.1 110 23 := (f3.1 110 23 rfl).trans c23
        have g23 : gI M3 110 23 = nI len := d23.trans e23
        have r3 : rM M3 4 (mpO s) := rM_fr r2 f3 rfl rfl (fun _ _ => rfl)
        have eu : (gI M3 110 7 + gI M3 110 8 = gI M3 112 4 + 2) ↔ pVn (mpO s) + pFn (mpO s) = pE (mpO s) + 2 := by
          rw [g7, g8, g4, nI_add, show nI (pE (mpO s)) + 2 = nI (pE (mpO s) + 2) from nI_add _ 2]
          constructor
          · intro y
            have a := (nI_leI (a := pVn (mpO s) + pFn (mpO s)) (b := pE (mpO s) + 2) (by omega) (by show (mpO s).1 + 2 < _; omega)).mp (by rw [y]; exact nI_le (Nat.le_refl _) (by show (mpO s).1 + 2 < _; omega))
            have b := (nI_leI (a := pE (mpO s) + 2) (b := pVn (mpO s) + pFn (mpO s)) (by show (mpO s).1 + 2 < _; omega) (by omega)).mp (by rw [y]; exact nI_le (Nat.le_refl _) (by show (mpO s).1 + 2 < _; omega))
            omega
          · intro y; rw [y]
        rcases hc with ⟨hN3, hlo⟩ | ⟨hlo, hF3, hz⟩
        · refine b10_isWhole_134 4 rfl (by decide) (fun y => b10_isWhole_164 ⟨rfl, fM, d22, d23, Or.inl ⟨?_, hN3, by rw [hrm]; exact r3⟩⟩) (fun y => b10_isWhole_154 (R' := fun M4 => Fr tFa M3 M4 ∧ M4.1 110 24 = M3.1 110 24 ∧ RF M4 (if 6 = 2 ∨ 6 = 3 then (nI 6, nI len, M3.1 110 27, M3.1 110 28, M3.1 110 29) else flV (some (6, len, none)))) (by rw [g23]; exact faulty_ev (d := d + 2) (k := 6) (by omega) hN3) (fun M4 h4 => b10_isWhole_164 ⟨rfl, ?_⟩))
          · unfold rdF
            rw [if_pos hfe, hs, hend, hlo, if_neg (by decide), if_pos (eu.mp y)]
          · obtain ⟨f4, -, h4⟩ := h4
            rw [if_neg (by omega)] at h4
            refine WhQ_bad (k := 6) (by omega) (Fr_trans fM (tMa_a f4)) ((f4.1 110 22 rfl).trans d22) ((f4.1 110 23 rfl).trans d23) (by rw [if_neg (by omega)]; exact h4) ?_
            unfold rdF
            rw [if_pos hfe, hs, hend, hlo, if_neg (by decide), if_neg (fun e => y (eu.mpr e))]
        · have hrd : rdF tb len = some (5, len, none) := by
            unfold rdF
            rw [if_pos hfe, hs, hend, if_pos hlo]
          refine b10_isWhole_134 4 rfl (by decide) (fun y => b10_isWhole_164 ⟨rfl, ?_⟩) (fun y => b10_isWhole_154 (faulty_n (k := 6) hz) (fun M4 h4 => b10_isWhole_164 ⟨rfl, ?_⟩))
          · exact WhQ_bad (k := 5) (by omega) fM d22 d23 (by rw [if_neg (by omega)]; exact hF3) hrd
          · subst h4
            exact WhQ_bad (k := 5) (by omega) fM d22 d23 (by rw [if_neg (by omega)]; exact hF3) hrd
      suffices hv : ∀ (q v : Nat) (M3 : ME), v + q = pVn (mpO s) → Fr tFa M2 M3 → ((RN M3 ∧ ∀ u, u < v → rch (mpO s) 0 (pVn (mpO s)) u = true) ∨ (lost (mpO s) = true ∧ RF M3 (flV (some (5, len, none))) ∧ M3.1 110 25 ≠ 0)) → Wp (E0 L xs) (d + 3) m10_isWhole 101 [.ref 110, .int 1, .int (nI v)] [] M3 (fun v' M' => v' = none ∧ WhQ tb len M M') from hv _ 0 M2 (Nat.zero_add _) (Fr_refl _ _) (Or.inl ⟨F2, fun u hu => by omega⟩)
      intro q
      induction q with
      | zero =>
        intro v M3 hv f3 hc
        have g7 : gI M3 110 7 = nI (pVn (mpO s)) := (f3.1 110 7 rfl).trans V2
        refine b10_isWhole_101 (fun _ => last M3 _ f3 ?_) (fun h => absurd (by rw [g7]; exact nI_le (by omega) (by omega)) h)
        rcases hc with ⟨h1, h2⟩ | h
        · exact Or.inl ⟨h1, lost_f.mpr (fun u hu => h2 u (by omega))⟩
        · exact Or.inr h
      | succ q ih =>
        intro v M3 hv f3 hc
        have g7 : gI M3 110 7 = nI (pVn (mpO s)) := (f3.1 110 7 rfl).trans V2
        have g117 : gI M3 117 v = dsV (mpO s) 0 v := (f3.1 117 v rfl).trans (v2 v (by omega))
        have d23 : gI M3 110 23 = nI len := ((f3.1 110 23 rfl).trans c23).trans e23
        have key : gI M3 117 v = -1 ↔ ¬ rch (mpO s) 0 (pVn (mpO s)) v = true := by
          rw [g117]
          unfold dsV fvR
          have := dsA_le (mpO s) 0 (pVn (mpO s)) v
          by_cases w : rch (mpO s) 0 (pVn (mpO s)) v = true
          · rw [if_pos w]; exact ⟨fun e => absurd e (nI_ne1 (by omega)), fun e => absurd w e⟩
          · rw [if_neg w]; exact ⟨fun _ => w, fun _ => rfl⟩
        refine b10_isWhole_101 (fun h => absurd ((nI_leI (a := pVn (mpO s)) (b := v) (by omega) (by omega)).mp (by rw [← g7]; exact h)) (by omega)) (fun _ => b10_isWhole_109 v rfl (by omega) (fun z => b10_isWhole_128 ?_) (fun z => ?_))
        · rw [nI_1]
          refine ih (v + 1) M3 (by omega) f3 ?_
          rcases hc with ⟨h1, h2⟩ | h
          · refine Or.inl ⟨h1, fun u hu => ?_⟩
            by_cases e : u = v
            · rw [e]
              by_cases w : rch (mpO s) 0 (pVn (mpO s)) v = true
              · exact w
              · exact absurd (key.mpr w) z
            · exact h2 u (by omega)
          · exact Or.inr h
        · have hlo : lost (mpO s) = true := by
            cases w : lost (mpO s) with
            | true => rfl
            | false => exact absurd (lost_f.mp w v (by omega)) (key.mp z)
          rcases hc with ⟨h1, h2⟩ | ⟨h1, h2, h3⟩
          · refine b10_isWhole_119 (R' := fun M4 => Fr tFa M3 M4 ∧ M4.1 110 24 = M3.1 110 24 ∧ RF M4 (if 5 = 2 ∨ 5 = 3 then (nI 5, nI len, M3.1 110 27, M3.1 110 28, M3.1 110 29) else flV (some (5, len, none)))) (by rw [d23]; exact faulty_ev (d := d + 2) (k := 5) (by omega) h1) (fun M4 h4 => b10_isWhole_128 ?_)
            obtain ⟨f4, -, h4⟩ := h4
            rw [if_neg (by omega)] at h4
            rw [nI_1]
            exact ih (v + 1) M4 (by omega) (Fr_trans f3 f4) (Or.inr ⟨hlo, h4, by rw [h4.1]; exact fk_ne (by show 1 ≤ 5; decide) (by show 5 ≤ 6; decide)⟩)
          · refine b10_isWhole_119 (faulty_n (k := 5) h3) (fun M4 h4 => b10_isWhole_128 ?_)
            subst h4
            rw [nI_1]
            exact ih (v + 1) M4 (by omega) f3 (Or.inr ⟨h1, h2, h3⟩)
    · have hA' : allT s = false := by
        cases w : allT s with
        | false => rfl
        | true => exact absurd w hA
      rw [hA']
      rw [if_neg hA] at hend
      refine b10_isWhole_55 (fun z => absurd rfl z) (fun _ => b10_isWhole_59 (R' := fun M4 => Fr tFa M M4 ∧ M4.1 110 24 = M.1 110 24 ∧ RF M4 (if 4 = 2 ∨ 4 = 3 then (nI 4, nI len, M.1 110 27, M.1 110 28, M.1 110 29) else flV (some (4, len, none)))) (by rw [e23]; exact faulty_ev (d := d + 2) (k := 4) (by omega) aF) (fun M4 h4 => ?_))
      obtain ⟨f4, -, h4⟩ := h4
      have hrd : rdF tb len = some (4, len, none) := by
        unfold rdF
        rw [hs, hend, if_neg (fun z => by cases z)]
      have hq := WhQ_bad (tb := tb) (k := 4) (by omega) (tMa_a f4) (f4.1 110 22 rfl) (f4.1 110 23 rfl) h4 hrd
      rw [if_neg (by omega)] at h4
      exact b10_isWhole_68 (fun z => absurd z (by rw [show gI M4 110 25 = _ from h4.1]; exact fk_ne (by show 1 ≤ 4; decide) (by show 4 ≤ 6; decide))) (fun _ => b10_isWhole_75 ⟨rfl, hq⟩)
/-- tape emptied, fault set -/
theorem RefS_rd {st : ST} {F : Int32 × Int32 × Int32 × Int32 × Int32} {M' : ME} (hok : StOK st) (h : RefS M st) (f : Fr tMa M M') (h1 : M'.1 110 22 = nI 0) (hF : RF M' F) : RefS M' (clr st F) := by
  obtain ⟨-, -, ⟨-, -, -, h17⟩, h6, h7⟩ := h
  have b1 : ∀ s, s < 4 → (s == 4) = false := fun s hs => by simp; omega
  refine ⟨h1, fun i hi => absurd hi (Nat.not_lt_zero _), ⟨hF.1, hF.2.1, hF.2.2, (f.1 110 17 rfl).trans h17⟩, fun s hs => rT_fr (h6 s hs) f rfl (fun _ _ => rfl) (fun _ _ => rfl), fun s hs => ?_⟩
  refine rM_fr (h7 s hs) f ?_ ?_ (fun x hx => ?_)
  · show ((s == 4) || _) = false
    rw [b1 s hs]; rfl
  · show ((s == 4) || _) = false
    rw [b1 s hs]; rfl
  · have hN : pN (sM st s) ≤ 32 := MV_N (ok_PV hok s hs)
    have hx' : x < pN (sM st s) := hx
    show (Nat.ble 128 (32 * s + x) || _) = false
    cases q : Nat.ble 128 (32 * s + x) with
    | false => rfl
    | true => exact absurd (Nat.le_of_ble_eq_true q) (by omega)
theorem r_map {st : ST} (hS : RefS M st) (hok : StOK st) {x : Int32} : EvI (E0 L xs) (d + 4) m10_map [.ref 110, .int x] M (Ro M (oMap st x)) := by
  have hl : sTl st ≤ 300 := hok.1
  have e22 : gI M 110 22 = nI (sTl st) := hS.1
  generalize hM0 : sI (sI (sI (sI (sI (sI M 110 0 0) 110 23 (gI M 110 22)) 110 22 0) 110 25 0) 110 26 (-1)) 110 30 0 = M0
  have f0 : Fr tMa M M0 := by subst hM0; exact Fr_sI (Fr_sI (Fr_sI (Fr_sI (Fr_sI (Fr_sI (Fr_refl _ _) rfl) rfl) rfl) rfl) rfl) rfl
  have F0 : RN M0 := by
    subst hM0
    refine ⟨?_, ?_, sI_eq _ _ _ _⟩
    · rw [sI_ne (Or.inr (by decide)), sI_ne (Or.inr (by decide)), sI_eq]
    · rw [sI_ne (Or.inr (by decide)), sI_eq]
  have t0 : M0.1 110 22 = nI 0 := by
    subst hM0
    rw [sI_ne (Or.inr (by decide)), sI_ne (Or.inr (by decide)), sI_ne (Or.inr (by decide)), sI_eq]; rfl
  have u0 : M0.1 110 23 = nI (sTl st) := by
    subst hM0
    rw [sI_ne (Or.inr (by decide)), sI_ne (Or.inr (by decide)), sI_ne (Or.inr (by decide)), sI_ne (Or.inr (by decide)), sI_eq]; exact e22
  refine Ev_of k10_map rfl (Nat.le_of_ble_eq_true rfl) (b10_map_0 (fun h => ?_) (fun h => ?_))
  · rw [hM0, show oMap st x = _ from cIf_pos h _ _]
    obtain ⟨j, hj, rfl, ej⟩ := in_j h (by decide)
    rw [ej]
    generalize hM1 : sI (sI (sI (sI (sI M0 110 24 0) 110 27 0) 110 31 0) 110 32 0) 113 4 0 = M1
    have f1 : Fr tMa M M1 := by subst hM1; exact Fr_sI (Fr_sI (Fr_sI (Fr_sI (Fr_sI f0 rfl) rfl) rfl) rfl) rfl
    have k1 : ∀ k, k ≠ 24 → k ≠ 27 → k ≠ 31 → k ≠ 32 → M1.1 110 k = M0.1 110 k := fun k a b c d => by
      subst hM1
      rw [sI_ne (Or.inl (by decide)), sI_ne (Or.inr d), sI_ne (Or.inr c), sI_ne (Or.inr b), sI_ne (Or.inr a)]
    have m24 : M1.1 110 24 = nI 0 := by
      subst hM1
      rw [sI_ne (Or.inl (by decide)), sI_ne (Or.inr (by decide)), sI_ne (Or.inr (by decide)), sI_ne (Or.inr (by decide)), sI_eq]; rfl
    have m27 : M1.1 110 27 = nI 0 := by
      subst hM1
      rw [sI_ne (Or.inl (by decide)), sI_ne (Or.inr (by decide)), sI_ne (Or.inr (by decide)), sI_eq]; rfl
    have m31 : M1.1 110 31 = 0 := by
      subst hM1
      rw [sI_ne (Or.inl (by decide)), sI_ne (Or.inr (by decide)), sI_eq]
    have m32 : M1.1 110 32 = nI 0 := by
      subst hM1
      rw [sI_ne (Or.inl (by decide)), sI_eq]; rfl
    have m113 : M1.1 113 4 = nI 0 := by subst hM1; rw [sI_eq]; rfl
    have hB1 : Bas (sTb st) (sTl st) M1 := by
      refine ⟨hl, (k1 23 (by decide) (by decide) (by decide) (by decide)).trans u0, fun i hi => ?_⟩
      rw [f1.1 125 i rfl]; exact hS.2.1 i hi
    have F1 : RN M1 := RN_fr F0 (fun j h => k1 j (by omega) (by omega) (by omega) (by omega))
    refine b10_map_44 4 rfl (by decide) (R' := fun M2 => Fr t24 M1 M2 ∧ ∃ k, 0 + k ≤ sTl st ∧ M2.1 110 24 = nI (0 + k) ∧ (∀ x, 0 ≤ x → x < 0 + k → isBl (sTb st x)) ∧ ¬ isBl (sgn (sTb st) (sTl st) (0 + k))) (by rw [hM1]; exact skips_ev (d := d + 2) hB1 (by omega) m24) (fun M2 h2 => ?_)
    obtain ⟨f2, k, b1, b2, b3, b4⟩ := h2
    obtain ⟨q1, q2⟩ := run_bl k b3
    have rk : run (sTb st) (0 + k) = (none, [], [], 0, 0, 0, 0) := by
      by_cases k0 : k = 0
      · subst k0; rfl
      · rw [q2 (by omega)]; rfl
    have k2 : ∀ x, x ≠ 24 → M2.1 110 x = M1.1 110 x := fun x hx => f2.1 110 x (t24_f (Or.inr hx))
    have hR2 : RDR (sTl st) (run (sTb st) (0 + k)) (0 + k) M2 := by
      rw [rk]
      refine ⟨b1, b2, RN_fr F1 (fun j h => k2 j (by omega)), (k2 27 (by decide)).trans m27, fun u hu => ?_, (k2 32 (by decide)).trans m32, fun r hr => (by cases hr)⟩
      rw [k2 31 (by decide), m31, decide_eq_false (fun z => by cases z)]
      have : ∀ u, u < 32 → (0 : Int32).toBitVec.getLsbD u = false := by decide
      exact this u hu
    -- after reading
    have done : ∀ M3, Fr tMa M M3 → M3.1 110 22 = nI 0 → ((rdF (sTb st) (sTl st) = none ∧ RN M3 ∧ rM M3 4 (rdM (sTb st) (sTl st))) ∨ (rdF (sTb st) (sTl st) ≠ none ∧ RF M3 (flV (rdF (sTb st) (sTl st))) ∧ M3.1 110 25 ≠ 0)) → Wp (E0 L xs) (d + 4) m10_map 111 [.ref 110, .int (nI j)] [] M3 (fun v' M' => ∃ r, v' = some (.int r) ∧ Ro M (if rdF (sTb st) (sTl st) = none then (nI (pE (rdM (sTb st) (sTl st))), setM (clr st (flV none)) j (rdM (sTb st) (sTl st))) else (-1, clr st (flV (rdF (sTb st) (sTl st))))) r M') := fun M3 f3 e3 hc => by
      rcases hc with ⟨hr, hN, hm4⟩ | ⟨hr, hF, hz⟩
      · rw [if_pos hr]
        have hMV := rdM_MV hr
        have hS3 : RefS M3 (clr st (flV none)) := RefS_rd hok hS f3 e3 (RN_RF hN)
        have hok3 : StOK (clr st (flV none)) := ⟨Nat.zero_le _, hok.2.1, hok.2.2⟩
        refine b10_map_111 (fun _ => b10_map_120 (copies_ev (d := d + 2) (s := 4) (t := j) (by decide) (by omega) hMV.1 hm4) (fun M4 h4 => b10_map_126 j rfl (by omega) ⟨_, rfl, ?_⟩)) (fun z => absurd hN.1 z)
        exact ⟨h4.2.1, RefS_mp hj hok3 hS3 (tMp_c h4.1) h4.2, FrR_trans (tMa_R f3) (tMp_R (y := j) (tMp_c h4.1))⟩
      · rw [if_neg hr]
        exact b10_map_111 (fun z => absurd z hz) (fun _ => b10_map_118 ⟨_, rfl, rfl, RefS_rd hok hS f3 e3 hF, tMa_R f3⟩)
    have bad : ∀ M3, Fr tMa M M3 → M3.1 110 22 = nI 0 → RFin (sTb st) (sTl st) M3 → Wp (E0 L xs) (d + 4) m10_map 75 [.ref 110, .int (nI j)] [] M3 (fun v' M' => ∃ r, v' = some (.int r) ∧ Ro M (if rdF (sTb st) (sTl st) = none then (nI (pE (rdM (sTb st) (sTl st))), setM (clr st (flV none)) j (rdM (sTb st) (sTl st))) else (-1, clr st (flV (rdF (sTb st) (sTl st))))) r M') := fun M3 f3 e3 hF => by
      have hne : qF (endS (run (sTb st) (sTl st)) (sTl st)) ≠ none := fun z => by
        have := hF.1.1
        rw [z] at this
        exact hF.2 this
      have hrd : rdF (sTb st) (sTl st) = qF (endS (run (sTb st) (sTl st)) (sTl st)) := if_neg hne
      exact b10_map_75 (fun z => absurd z hF.2) (fun _ => b10_map_100 (fun z => absurd z hF.2) (fun _ => done M3 f3 e3 (Or.inr ⟨by rw [hrd]; exact hne, by rw [hrd]; exact hF.1, hF.2⟩)))
    suffices ho : ∀ (q i : Nat) (M3 : ME), i + q = sTl st → Fr tMa M M3 → Bas (sTb st) (sTl st) M3 → M3.1 110 22 = nI 0 → M3.1 113 4 = nI 0 → qF (run (sTb st) i) = none → qW (run (sTb st) i) = 0 → RDR (sTl st) (run (sTb st) i) i M3 → ¬ isBl (sgn (sTb st) (sTl st) i) → Wp (E0 L xs) (d + 4) m10_map 75 [.ref 110, .int (nI j)] [] M3 (fun v' M' => ∃ r, v' = some (.int r) ∧ Ro M (if rdF (sTb st) (sTl st) = none then (nI (pE (rdM (sTb st) (sTl st))), setM (clr st (flV none)) j (rdM (sTb st) (sTl st))) else (-1, clr st (flV (rdF (sTb st) (sTl st))))) r M') from ho (sTl st - (0 + k)) (0 + k) M2 (by omega) (Fr_trans f1 (tMa_r (t24_r f2))) (Bas_fr hB1 (t24_r f2)) ((k2 22 (by decide)).trans ((k1 22 (by decide) (by decide) (by decide) (by decide)).trans t0)) ((f2.1 113 4 (t24_f (Or.inl (by decide)))).trans m113) (by rw [rk]) (by rw [rk]) hR2 b4
    intro q
    induction q using Nat.strongRecOn with
    | _ q ih =>
    intro i M3 hi f3 hB3 e3 e113 c1 c2 c3 c4
    have g23 : gI M3 110 23 = nI (sTl st) := hB3.2.1
    have g24 : gI M3 110 24 = nI i := c3.2.1
    refine b10_map_75 (fun _ => b10_map_82 (fun z => ?_) (fun z => ?_)) (fun z => absurd c3.2.2.1.1 z)
    · rw [g23, g24] at z
      have : sTl st ≤ i := (nI_leI (a := sTl st) (b := i) (by omega) (by omega)).mp z
      have : i = sTl st := by omega
      subst this
      refine b10_map_100 (fun _ => b10_map_107 (isWhole_ev (d := d) hB3 c1 c2 c3 e113) (fun M4 h4 => ?_)) (fun z => absurd c3.2.2.1.1 z)
      exact done M4 (Fr_trans f3 h4.1) (h4.2.1.trans e3) h4.2.2.2
    · rw [g23, g24] at z
      have hlt : i < sTl st := by
        by_cases w : i < sTl st
        · exact w
        · exact absurd (nI_le (by omega) (by omega)) z
      refine b10_map_93 (readsRound_ev (d := d) hB3 c1 c2 hlt c4 c3) (fun M4 h4 => b10_map_97 ?_)
      obtain ⟨f4, h4⟩ := h4
      have fM := Fr_trans f3 (tMa_r f4)
      have e4 : M4.1 110 22 = nI 0 := (f4.1 110 22 rfl).trans e3
      rcases h4 with ⟨i', g1, g2, g3, g4, g5⟩ | ⟨g1, g2⟩
      · exact ih (sTl st - i') (by have := g4.1; omega) i' M4 (by have := g4.1; omega) fM (Bas_fr hB3 f4) e4 ((f4.1 113 4 rfl).trans e113) g2 g3 g4 g5
      · exact bad M4 fM e4 g1
  · rw [hM0]
    refine b10_map_41 ⟨_, rfl, ?_⟩
    rw [show oMap st x = _ from cIf_neg h _ _]
    exact ⟨rfl, RefS_rd hok hS f0 t0 (RN_RF F0), tMa_R f0⟩
end RMW
