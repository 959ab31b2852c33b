/-! the map that rounds tell -/
theorem fl_nd {rs : List (List Nat)} (h : rs.flatten.Nodup) : (∀ r, r ∈ rs → r.Nodup) ∧ ∀ i j x, i < rs.length → j < rs.length → x ∈ rs.getD i [] → x ∈ rs.getD j [] → i = j := by
  induction rs with
  | nil => exact ⟨fun r hr => (by cases hr), fun i j x hi => absurd hi (by simp)⟩
  | cons a rs ih =>
    rw [List.flatten_cons, List.nodup_append] at h
    obtain ⟨h1, h2, h3⟩ := h
    obtain ⟨i1, i2⟩ := ih h2
    have inn : ∀ {k x}, k < rs.length → x ∈ rs.getD k [] → x ∈ rs.flatten := fun {k x} hk hx => by
      refine List.mem_flatten.mpr ⟨rs.getD k [], ?_, hx⟩
      simp [List.getD, List.getElem?_eq_getElem hk]
    refine ⟨fun r hr => ?_, fun i j x hi hj hx hy => ?_⟩
    · rcases List.mem_cons.mp hr with e | e
      · rw [e]; exact h1
      · exact i1 r e
    · cases i with
      | zero =>
        cases j with
        | zero => rfl
        | succ j => exact absurd rfl (h3 x hx x (inn (k := j) (by simp at hj; omega) hy))
      | succ i =>
        cases j with
        | zero => exact absurd rfl (h3 x hy x (inn (k := i) (by simp at hi; omega) hx))
        | succ j => rw [i2 i j x (by simp at hi; omega) (by simp at hj; omega) hx hy]
theorem fI_in {rs : List (List Nat)} {x : Nat} (h : x ∈ rs.flatten) : rs.findIdx (fun r => decide (x ∈ r)) < rs.length ∧ x ∈ rs.getD (rs.findIdx (fun r => decide (x ∈ r))) [] := by
  obtain ⟨r, hr, hx⟩ := List.mem_flatten.mp h
  have h1 : rs.findIdx (fun r => decide (x ∈ r)) < rs.length := List.findIdx_lt_length_of_exists ⟨r, hr, by simp [hx]⟩
  refine ⟨h1, ?_⟩
  have := List.findIdx_getElem (w := h1)
  simp only [decide_eq_true_eq] at this
  simpa [List.getD, List.getElem?_eq_getElem h1] using this
theorem fI_eq {rs : List (List Nat)} (hn : rs.flatten.Nodup) {x i : Nat} (hi : i < rs.length) (hx : x ∈ rs.getD i []) : rs.findIdx (fun r => decide (x ∈ r)) = i := by
  have hm : rs.getD i [] ∈ rs := by simp [List.getD, List.getElem?_eq_getElem hi]
  obtain ⟨h1, h2⟩ := fI_in (List.mem_flatten.mpr ⟨_, hm, hx⟩)
  exact (fl_nd hn).2 _ _ x h1 hi h2 hx
theorem rX_eq {rs : List (List Nat)} (hn : rs.flatten.Nodup) {r : List Nat} {x : Nat} (hr : r ∈ rs) (hx : x ∈ r) : rX rs x = nxL r x := by
  obtain ⟨i, hi, e⟩ := List.getElem_of_mem hr
  have e' : rs.getD i [] = r := by simp [List.getD, List.getElem?_eq_getElem hi, e]
  unfold rX
  rw [fI_eq hn hi (by rw [e']; exact hx), e']
theorem rs_Rds {rs : List (List Nat)} {N : Nat} (hn : rs.flatten.Nodup) (h : ∀ x, x ∈ rs.flatten ↔ x < N) : Rds (fun i => rs.getD i []) (fun x => rs.findIdx (fun r => decide (x ∈ r))) N := fun x hx => by
  obtain ⟨h1, h2⟩ := fI_in ((h x).mpr hx)
  have hm : rs.getD (rs.findIdx (fun r => decide (x ∈ r))) [] ∈ rs := by simp [List.getD, List.getElem?_eq_getElem h1]
  exact ⟨h2, (fl_nd hn).1 _ hm, fun z hz => ⟨(h z).mp (List.mem_flatten.mpr ⟨_, hm, hz⟩), fI_eq hn h1 hz⟩⟩
/-- told: each of 0 .. n - 1 -/
theorem told_all {l : List Nat} (hn : l.Nodup) (h : ∀ v, v < l.length → v ∈ l) : ∀ v, v ∈ l ↔ v < l.length := fun v => by
  refine ⟨fun hv => ?_, h v⟩
  by_cases q : v < l.length
  · exact q
  · exfalso
    have : ((List.range l.length) ++ [v]).length ≤ l.length := by
      refine List.Nodup.length_le_of_subset ?_ (fun z hz => ?_)
      · rw [List.nodup_append]
        refine ⟨List.nodup_range, List.nodup_cons.mpr ⟨(fun z => by cases z), List.nodup_nil⟩, fun a ha b hb e => ?_⟩
        rw [List.mem_singleton] at hb
        rw [List.mem_range] at ha
        omega
      · rcases List.mem_append.mp hz with e | e
        · exact h z (List.mem_range.mp e)
        · rw [List.mem_singleton] at e; rw [e]; exact hv
    simp at this
    omega
theorem allT_iff {s : RSt} (hn : (toL s).Nodup) : allT s = true ↔ (∀ v, v ∈ toL s ↔ v < (toL s).length) ∧ (toL s).length % 2 = 0 := by
  unfold allT
  rw [Bool.and_eq_true, alB_iff, decide_eq_true_eq]
  constructor
  · rintro ⟨h1, h2⟩
    exact ⟨told_all hn (fun v hv => of_decide_eq_true (h1 v hv)), h2⟩
  · rintro ⟨h1, h2⟩
    exact ⟨fun v hv => decide_eq_true ((h1 v).mpr hv), h2⟩
theorem endS_ok {s : RSt} {p len : Nat} (hI : RI s p) (h : qF (endS s len) = none) : endS s len = eN s ∧ qF (eN s) = none ∧ qW (eN s) = 0 ∧ qC (eN s) = [] ∧ allT (eN s) = true := by
  unfold endS at *
  by_cases h1 : qF (eN s) = none
  · rw [if_pos h1] at h ⊢
    by_cases h2 : qW (eN s) = 0
    · rw [if_pos h2] at h ⊢
      by_cases h3 : allT (eN s) = true
      · rw [if_pos h3] at h ⊢
        exact ⟨rfl, h1, h2, ((eN_RI hI).2.2 h1).2.1 h2, h3⟩
      · rw [if_neg h3] at h; cases h
    · rw [if_neg h2] at h; cases h
  · rw [if_neg h1] at h; exact absurd h h1
theorem mpO_PV {s : RSt} {p len : Nat} (hI : RI s p) (h : qF (endS s len) = none) : PV (mpO (endS s len)) ∧ pN (mpO (endS s len)) = (toL (endS s len)).length := by
  obtain ⟨e, h1, h2, h3, h4⟩ := endS_ok hI h
  rw [e]
  have hI2 := eN_RI hI
  obtain ⟨a1, a2⟩ := (allT_iff hI2.1).mp h4
  have hl := toL_len hI2
  have eN' : pN (mpO (eN s)) = (toL (eN s)).length := by
    show 2 * ((toL (eN s)).length / 2) = _
    omega
  have et : toL (eN s) = (qR (eN s)).flatten := by unfold toL; rw [h3]; rfl
  refine ⟨⟨by show (toL (eN s)).length / 2 ≤ 16; omega, ?_, ?_⟩, eN'⟩
  · rw [eN']
    have := rs_Rds (rs := qR (eN s)) (N := (toL (eN s)).length) (by rw [← et]; exact hI2.1) (by rw [← et]; exact a1)
    exact rds_perm this
  · show 0 < 2 * ((toL (eN s)).length / 2) ∨ ((toL (eN s)).length / 2 = 0 ∧ 0 = 0)
    omega
theorem run_st {tb : Nat → Int32} {i : Nat} (h : qF (run tb i) ≠ none) : ∀ k, run tb (i + k) = run tb i
  | 0 => rfl
  | k + 1 => by
    show stp (run tb (i + k)) _ _ = _
    rw [run_st h k]
    exact if_neg h
theorem rdM_PV {tb : Nat → Int32} {len : Nat} (h : qF (endS (run tb len) len) = none) : PV (rdM tb len) := (mpO_PV (run_RI tb len) h).1
theorem rdF_n {tb : Nat → Int32} {len : Nat} (h : rdF tb len = none) : qF (endS (run tb len) len) = none ∧ lost (rdM tb len) = false ∧ pVn (rdM tb len) + pFn (rdM tb len) = pE (rdM tb len) + 2 := by
  unfold rdF at h
  by_cases h1 : qF (endS (run tb len) len) = none
  · rw [if_pos h1] at h
    by_cases h2 : lost (mpO (endS (run tb len) len)) = true
    · rw [if_pos h2] at h; cases h
    · rw [if_neg h2] at h
      by_cases h3 : pVn (mpO (endS (run tb len) len)) + pFn (mpO (endS (run tb len) len)) = pE (mpO (endS (run tb len) len)) + 2
      · exact ⟨h1, by cases q : lost (mpO (endS (run tb len) len)) with
          | false => exact q
          | true => exact absurd q h2, h3⟩
      · rw [if_neg h3] at h; cases h
  · rw [if_neg h1] at h; exact absurd h h1
theorem lost_f {m : PMp} : lost m = false ↔ ∀ v, v < pVn m → rch m 0 (pVn m) v = true := by
  constructor
  · intro h v hv
    cases q : rch m 0 (pVn m) v with
    | true => rfl
    | false =>
      have : lost m = true := anB_iff.mpr ⟨v, hv, by rw [q]; rfl⟩
      rw [h] at this; cases this
  · intro h
    cases q : lost m with
    | false => rfl
    | true =>
      obtain ⟨v, hv, e⟩ := anB_iff.mp q
      rw [h v hv] at e; cases e
/-- what is read is a map -/
theorem rdM_MV {tb : Nat → Int32} {len : Nat} (h : rdF tb len = none) : MV (rdM tb len) := by
  obtain ⟨h1, h2, h3⟩ := rdF_n h
  exact ⟨rdM_PV h1, rch_conn (rdM_PV h1) (lost_f.mp h2), h3⟩
