/-! the reference: a dart is read -/
theorem dg_step {v : Nat} {c : Int32} (h : isDg c = true) : 10 * nI v + c - 48 = nI (10 * v + dgC c) := by
  rw [show (10 : Int32) * nI v = nI (10 * v) from pk_mul 10 _]
  obtain ⟨-, -, -, -, e⟩ := dg_eq h
  generalize dgC c = g at e ⊢
  rw [e, nI_add]
  have : nI (10 * v + (48 + g)) - 48 = nI (10 * v + (48 + g) - 48) := i_sub (show 48 ≤ 10 * v + (48 + g) by omega)
  rw [this]
  congr 1
  omega
theorem eN_2 {R : List (List Nat)} {C : List Nat} {P v i : Nat} (h : 32 ≤ v) : eN (none, R, C, 3, P, v, i) = (some (2, i, some (R.length, P, C.length)), R, C, 2, P, v, i) := (if_pos ⟨rfl, rfl⟩).trans (if_pos h)
theorem eN_3 {R : List (List Nat)} {C : List Nat} {P v i : Nat} (h : v < 32) (hm : v ∈ C ++ R.flatten) : eN (none, R, C, 3, P, v, i) = (some (3, i, some (R.length, P, C.length)), R, C, 2, P, v, i) := (if_pos ⟨rfl, rfl⟩).trans ((if_neg (show ¬ 32 ≤ v by omega)).trans (if_pos hm))
theorem eN_ok {R : List (List Nat)} {C : List Nat} {P v i : Nat} (h : v < 32) (hm : v ∉ C ++ R.flatten) : eN (none, R, C, 3, P, v, i) = (none, R, C ++ [v], 2, P, v, i) := (if_pos ⟨rfl, rfl⟩).trans ((if_neg (show ¬ 32 ≤ v by omega)).trans (if_neg hm))
section RDT
variable {L : Nat} {xs : Nat → Int32} {d : Nat} {M : ME} {tb : Nat → Int32} {len : Nat}
def RDR (len : Nat) (s : RSt) (i : Nat) (M : ME) : Prop := i ≤ len ∧ M.1 110 24 = nI i ∧ RN M ∧ M.1 110 27 = nI (qR s).length ∧ (∀ v, v < 32 → (M.1 110 31).toBitVec.getLsbD v = decide (v ∈ toL s)) ∧ M.1 110 32 = nI (toL s).length ∧ ∀ r, r ∈ qR s → ∀ x, x ∈ r → M.1 111 (128 + x) = nI (nxL r x)
def Pnd (tb : Nat → Int32) (len i : Nat) : Prop := i < len → isDg (tb i) = true → qW (run tb i) ≠ 3
def tRd (k j : Nat) : Bool := k == 110 && (j == 24 || j == 25 || j == 26 || j == 30 || j == 31 || j == 32)
theorem tRd_o {k j : Nat} (h : k ≠ 110) : tRd k j = false := by unfold tRd; simp [h]
theorem tRd_r {M' : ME} (f : Fr tRd M M') : Fr tRr M M' := Fr_mono f (fun k j q => by
  by_cases a : k = 110
  · subst a
    unfold tRd
    have q' : (Nat.ble 24 j && Nat.ble j 32) = false := q
    have : j < 24 ∨ 32 < j := by
      by_cases w : 24 ≤ j ∧ j ≤ 32
      · rw [bleb w.1 w.2] at q'; cases q'
      · omega
    simp
    omega
  · exact tRd_o a)
theorem t24_d {M' : ME} (f : Fr t24 M M') : Fr tRd M M' := Fr_mono f (fun k j q => t24_f (by
  by_cases a : k = 110
  · by_cases b : j = 24
    · rw [a, b] at q; cases q
    · exact Or.inr b
  · exact Or.inl a))
theorem tFa_d {M' : ME} (f : Fr tFa M M') : Fr tRd M M' := Fr_mono f (fun k j q => tFa_f (by
  by_cases a : k = 110
  · refine Or.inr ⟨fun b => ?_, fun b => ?_, fun b => ?_⟩ <;> rw [a, b] at q <;> cases q
  · exact Or.inl a))
theorem RF_fr {M' : ME} {F : Int32 × Int32 × Int32 × Int32 × Int32} (h : RF M F) (e : ∀ j, 25 ≤ j → j ≤ 30 → M'.1 110 j = M.1 110 j) : RF M' F := by
  unfold RF at *
  rw [e 25 (by decide) (by decide), e 26 (by decide) (by decide), e 27 (by decide) (by decide), e 28 (by decide) (by decide), e 29 (by decide) (by decide), e 30 (by decide) (by decide)]
  exact h
theorem fk_ne {f : Nat × Nat × Option (Nat × Nat × Nat)} (h : 1 ≤ f.1) (h2 : f.1 ≤ 6) : (flV (some f)).1 ≠ 0 := by
  obtain ⟨k, p, r⟩ := f
  have e : (flV (some (k, p, r))).1 = nI k := by cases r <;> rfl
  rw [e]
  intro z
  have h : 1 ≤ k := h
  have h2 : k ≤ 6 := h2
  have := (nI_leI (a := k) (b := 0) (by omega) (by omega)).mp (by rw [z]; exact nI_le (a := 0) (b := 0) (by omega) (by omega))
  omega
theorem RFin_of {f : Nat × Nat × Option (Nat × Nat × Nat)} (h : RF M (flV (some f))) (e : qF (endS (run tb len) len) = some f) : RFin tb len M := by
  have hk := endS_FK (len := len) (run_FK tb len) f e
  refine ⟨by rw [e]; exact h, ?_⟩
  rw [h.1]
  exact fk_ne hk.1 hk.2
def DaQ (tb : Nat → Int32) (len : Nat) (s : RSt) (i : Nat) (M : ME) : Int32 → ME → Prop := fun r M' => Fr tRd M M' ∧ ((∃ v i', r = nI v ∧ v < 32 ∧ i < i' ∧ qF (eN (run tb i')) = none ∧ qR (eN (run tb i')) = qR s ∧ qC (eN (run tb i')) = qC s ++ [v] ∧ qW (eN (run tb i')) = 2 ∧ qP (eN (run tb i')) = qP s ∧ RDR len (eN (run tb i')) i' M' ∧ ¬ isBl (sgn tb len i') ∧ Pnd tb len i') ∨ (RFin tb len M' ∧ ∃ i', i' ≤ len ∧ M'.1 110 24 = nI i'))
/-- after a fault: nothing -/
theorem readsDart_f {i : Nat} (hB : Bas tb len M) (hi : i ≤ len) (e : M.1 110 24 = nI i) (hf : M.1 110 25 ≠ 0) : EvI (E0 L xs) (d + 2) m10_readsDart [.ref 110] M (fun _ M' => M' = M) := by
  have go : Wp (E0 L xs) (d + 2) m10_readsDart 20 [.ref 110, .int (gI M 110 24), .int 0] [] M (fun v' M' => ∃ r, v' = some (.int r) ∧ M' = M) := b10_readsDart_20 (fun z => absurd z hf) (fun _ => b10_readsDart_79 (fun _ => b10_readsDart_91 (fun z => absurd z hf) (fun _ => b10_readsDart_116 (fun z => absurd z hf) (fun _ => b10_readsDart_123 ⟨_, rfl, rfl⟩))) (fun z => absurd (by decide) z))
  refine Ev_of k10_readsDart rfl (Nat.le_of_ble_eq_true rfl) (b10_readsDart_0 (isDigit_ev (d := d) hB hi e) (fun r M1 hr => ?_))
  obtain ⟨rfl, rfl⟩ := hr
  refine b10_readsDart_11 (fun _ => go) (fun _ => b10_readsDart_14 (faulty_n (k := 1) hf) (fun M2 h2 => ?_))
  subst h2
  exact go
/-- the number has ended: at 79 -/
theorem rd_done {s : RSt} {i j v : Nat} {M1 : ME} (hB : Bas tb len M) (f1 : Fr tRd M M1) (hij : i < j) (hj : j ≤ len) (e24 : M1.1 110 24 = nI j) (hs : s = eN (run tb i)) (hrun : run tb j = (none, qR s, qC s, 3, qP s, v, i)) (hv : v < 100) (hd : j < len → ¬ isDg (tb j) = true) (hR : RDR len s i M) (h24 : ∀ k, k ≠ 24 → M1.1 110 k = M.1 110 k) (e28 : M.1 110 28 = nI (qP s)) (e29 : M.1 110 29 = nI (qC s).length) : Wp (E0 L xs) (d + 2) m10_readsDart 79 [.ref 110, .int (nI i), .int (nI v)] [] M1 (fun v' M' => ∃ r, v' = some (.int r) ∧ DaQ tb len s i M r M') := by
  obtain ⟨hi, a24, aF, a27, a31, a32, aN⟩ := hR
  have aF1 : RN M1 := RN_fr aF (fun j h1 => h24 j (by omega))
  have z25 : gI M1 110 25 = 0 := aF1.1
  have hB1 := Bas_fr hB (tRd_r f1)
  have hI := run_RI tb i
  have hrf : qF (run tb j) = none := by rw [hrun]
  have hlen : (toL s).length < 33 := by rw [hs]; have := toL_len (eN_RI hI); omega
  have htL : toL (run tb j) = toL s := by rw [hrun]; rfl
  have bad : ∀ k : Nat, (k = 2 ∨ k = 3) → qF (eN (run tb j)) = some (k, i, some ((qR s).length, qP s, (qC s).length)) → ∀ M2, (Fr tFa M1 M2 ∧ M2.1 110 24 = M1.1 110 24 ∧ RF M2 (if k = 2 ∨ k = 3 then (nI k, nI i, M1.1 110 27, M1.1 110 28, M1.1 110 29) else flV (some (k, i, none)))) → RFin tb len M2 := fun k hk hq M2 h2 => by
    have h3 := h2.2.2
    rw [if_pos hk] at h3
    refine RFin_of (f := (k, i, some ((qR s).length, qP s, (qC s).length))) ?_ ?_
    · rw [h24 27 (by decide), h24 28 (by decide), h24 29 (by decide), a27, e28, e29] at h3
      exact h3
    · rw [← hq]
      exact fin_eN hrf (by rw [hq]; exact fun z => (by cases z)) hj hd
  have out : ∀ M2, RFin tb len M2 → Fr tRd M M2 → M2.1 110 24 = nI j → Wp (E0 L xs) (d + 2) m10_readsDart 116 [.ref 110, .int (nI i), .int (nI v)] [] M2 (fun v' M' => ∃ r, v' = some (.int r) ∧ DaQ tb len s i M r M') := fun M2 h2 f2 e2 => b10_readsDart_116 (fun z => absurd z h2.2) (fun _ => b10_readsDart_123 ⟨_, rfl, f2, Or.inr ⟨h2, j, hj, e2⟩⟩)
  refine b10_readsDart_79 (fun z => ?_) (fun z => b10_readsDart_85 (faulty_ev (d := d + 1) (k := 2) (by omega) aF1) (fun M2 h2 => ?_))
  · have hv32 : v < 32 := by
      have := (nI_leI (a := v) (b := 31) (by omega) (by omega)).mp z
      omega
    refine b10_readsDart_91 (fun _ => b10_readsDart_98 (fun y => b10_readsDart_116 (fun _ => ?_) (fun w => absurd z25 w)) (fun y => b10_readsDart_110 (faulty_ev (d := d + 1) (k := 3) (by omega) aF1) (fun M2 h2 => ?_))) (fun w => absurd z25 w)
    · have hm : v ∉ toL s := fun m => y ((bt_test _ hv32).mpr (by rw [show gI M1 110 31 = M.1 110 31 from h24 31 (by decide), a31 v hv32, decide_eq_true m]))
      have hE : eN (run tb j) = (none, qR s, qC s ++ [v], 2, qP s, v, i) := by rw [hrun, eN_ok hv32 hm]
      generalize hM2 : sI (sI M1 110 31 (gI M1 110 31 ||| (1 <<< (nI v &&& 31)))) 110 32 (gI M1 110 32 + 1) = M2
      have fd2 : Fr tRd M M2 := by subst hM2; exact Fr_sI (Fr_sI f1 rfl) rfl
      have k2 : ∀ k, k ≠ 24 → k ≠ 31 → k ≠ 32 → M2.1 110 k = M.1 110 k := fun k a b c => by
        subst hM2; rw [sI_ne (Or.inr c), sI_ne (Or.inr b)]; exact h24 k a
      have m24 : M2.1 110 24 = nI j := by subst hM2; rw [sI_ne (Or.inr (by decide)), sI_ne (Or.inr (by decide))]; exact e24
      have m31 : ∀ u, u < 32 → (M2.1 110 31).toBitVec.getLsbD u = decide (u ∈ qC s ++ [v] ++ (qR s).flatten) := fun u hu => by
        subst hM2
        rw [sI_ne (Or.inr (by decide)), sI_eq, bt_set _ hv32 hu, show gI M1 110 31 = M.1 110 31 from h24 31 (by decide), a31 u hu]
        have : (u ∈ qC s ++ [v] ++ (qR s).flatten) ↔ (u ∈ toL s ∨ u = v) := by
          unfold toL
          rw [List.append_assoc, List.mem_append, List.mem_append, List.mem_append, List.mem_singleton]
          constructor
          · rintro (a | a | a)
            · exact Or.inl (Or.inl a)
            · exact Or.inr a
            · exact Or.inl (Or.inr a)
          · rintro ((a | a) | a)
            · exact Or.inl a
            · exact Or.inr (Or.inr a)
            · exact Or.inr (Or.inl a)
        rw [decide_eq_decide.mpr this, Bool.decide_or]
      have m32 : M2.1 110 32 = nI (qC s ++ [v] ++ (qR s).flatten).length := by
        subst hM2
        rw [sI_eq, show gI M1 110 32 = M.1 110 32 from h24 32 (by decide), a32, nI_1]
        unfold toL
        simp only [List.length_append, List.length_singleton]
        congr 1; omega
      have hB2 := Bas_fr hB (tRd_r fd2)
      refine b10_readsDart_125 (R' := fun M3 => Fr t24 M2 M3 ∧ ∃ k, j + k ≤ len ∧ M3.1 110 24 = nI (j + k) ∧ (∀ x, j ≤ x → x < j + k → isBl (tb x)) ∧ ¬ isBl (sgn tb len (j + k))) (by rw [hM2]; exact skips_ev (d := d) hB2 hj m24) (fun M3 h3 => b10_readsDart_151 ⟨_, rfl, ?_, Or.inl ⟨v, ?_⟩⟩)
      · exact Fr_trans fd2 (t24_d h3.1)
      · obtain ⟨f3, k, b1, b2, b3, b4⟩ := h3
        obtain ⟨r1, r2⟩ := run_bl k b3
        have k3 : ∀ x, x ≠ 24 → M3.1 110 x = M2.1 110 x := fun x hx => f3.1 110 x (t24_f (Or.inr hx))
        refine ⟨j + k, rfl, hv32, by omega, ?_⟩
        rw [r1, hE]
        refine ⟨rfl, rfl, rfl, rfl, rfl, ⟨b1, b2, RN_fr aF (fun x h1 => (k3 x (by omega)).trans (k2 x (by omega) (by omega) (by omega))), ?_, fun u hu => ?_, ?_, fun r hr x hx => ?_⟩, b4, fun hl hdg => ?_⟩
        · rw [k3 27 (by decide), k2 27 (by decide) (by decide) (by decide)]; exact a27
        · rw [k3 31 (by decide)]; exact m31 u hu
        · rw [k3 32 (by decide)]; exact m32
        · have : M3.1 111 (128 + x) = M.1 111 (128 + x) := (f3.1 111 _ (t24_f (Or.inl (by decide)))).trans (fd2.1 111 _ (tRd_o (by decide)))
          rw [this]; exact aN r hr x hx
        · by_cases k0 : k = 0
          · subst k0
            exact absurd hdg (hd (by omega))
          · rw [r2 (by omega), hE]
            show ¬ 2 = 3
            omega
    · have hm : v ∈ toL s := by
        have := (bt_test _ hv32).mp y
        rw [show gI M1 110 31 = M.1 110 31 from h24 31 (by decide), a31 v hv32] at this
        exact of_decide_eq_true this
      refine out M2 (bad 3 (Or.inr rfl) ?_ M2 h2) (Fr_trans f1 (tFa_d h2.1)) (h2.2.1.trans e24)
      rw [hrun, eN_3 hv32 hm]
  · have hv32 : 32 ≤ v := by
      by_cases q : 32 ≤ v
      · exact q
      · exact absurd (nI_le (a := v) (b := 31) (by omega) (by omega)) z
    have hF := bad 2 (Or.inl rfl) (by rw [hrun, eN_2 hv32]) M2 h2
    exact b10_readsDart_91 (fun w => absurd w hF.2) (fun _ => out M2 hF (Fr_trans f1 (tFa_d h2.1)) (h2.2.1.trans e24))
end RDT
