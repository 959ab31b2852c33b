/-! distances: round by round -/
def anB (P : Nat → Bool) : Nat → Bool
  | 0 => false
  | n + 1 => anB P n || P n
theorem anB_iff {P : Nat → Bool} : ∀ {n : Nat}, anB P n = true ↔ ∃ i, i < n ∧ P i = true
  | 0 => Iff.intro (fun h => Bool.noConfusion h) (fun ⟨j, hj, _⟩ => absurd hj (Nat.not_lt_zero j))
  | n + 1 => by
    show (anB P n || P n) = true ↔ _
    rw [Bool.or_eq_true, anB_iff]
    constructor
    · rintro (⟨j, h1, h2⟩ | h)
      · exact ⟨j, by omega, h2⟩
      · exact ⟨n, by omega, h⟩
    · rintro ⟨j, h1, h2⟩
      by_cases e : j = n
      · subst e; exact Or.inr h2
      · exact Or.inl ⟨j, by omega, h2⟩
/-- v is reached from vertex w within t steps; within t steps and one more by one of the first i darts -/
def rch (m : PMp) (w : Nat) : Nat → Nat → Bool
  | 0, v => decide (v = w)
  | t + 1, v => rch m w t v || anB (fun d => rch m w t (pVo m d) && decide (pVo m (ox d) = v)) (pN m)
def rcM (m : PMp) (w t i v : Nat) : Bool := anB (fun d => rch m w t (pVo m d) && decide (pVo m (ox d) = v)) i
def dsA (m : PMp) (w : Nat) : Nat → Nat → Nat
  | 0, _ => 0
  | t + 1, v => if rch m w t v = true then dsA m w t v else t + 1
/-- the row behind t rounds; behind t rounds and i darts -/
def fvR (m : PMp) (w t v : Nat) : Int32 := if rch m w t v = true then nI (dsA m w t v) else -1
def fvI (m : PMp) (w t i v : Nat) : Int32 := if rch m w t v = true then nI (dsA m w t v) else if rcM m w t i v = true then nI (t + 1) else -1
theorem rch_mono {m : PMp} {w t v : Nat} (h : rch m w t v = true) : rch m w (t + 1) v = true := by
  show (rch m w t v || _) = true
  rw [h]; rfl
theorem rch_le {m : PMp} {w v : Nat} {a b : Nat} (hab : a ≤ b) (h : rch m w a v = true) : rch m w b v = true := by
  induction b with
  | zero => rw [Nat.le_zero.mp hab] at h; exact h
  | succ b ih =>
    by_cases e : a = b + 1
    · rw [← e]; exact h
    · exact rch_mono (ih (by omega))
theorem rch_adj {m : PMp} {w t d : Nat} (hd : d < pN m) (h : rch m w t (pVo m d) = true) : rch m w (t + 1) (pVo m (ox d)) = true := by
  show (rch m w t _ || anB _ _) = true
  rw [Bool.or_eq_true]
  right
  exact anB_iff.mpr ⟨d, hd, by rw [h]; simp⟩
theorem dsA_le (m : PMp) (w : Nat) : ∀ t v, dsA m w t v ≤ t
  | 0, _ => Nat.le_refl _
  | t + 1, v => by
    show (if _ then _ else _) ≤ t + 1
    split
    · have := dsA_le m w t v; omega
    · exact Nat.le_refl _
theorem dsA_st {m : PMp} {w v : Nat} {a b : Nat} (hab : a ≤ b) (h : rch m w a v = true) : dsA m w b v = dsA m w a v := by
  induction b with
  | zero => rw [Nat.le_zero.mp hab]
  | succ b ih =>
    by_cases e : a = b + 1
    · rw [← e]
    · show (if _ then _ else _) = _
      rw [if_pos (rch_le (show a ≤ b by omega) h)]
      exact ih (by omega)
/-- reached before its round: its neighbours are reached within the round -/
theorem dsA_lt {m : PMp} {w : Nat} : ∀ {t v}, rch m w t v = true → dsA m w t v < t → rch m w (t - 1) v = true
  | 0, v, _, h => absurd h (Nat.not_lt_zero _)
  | t + 1, v, _, h => by
    by_cases q : rch m w t v = true
    · exact q
    · have : dsA m w (t + 1) v = t + 1 := if_neg q
      omega
theorem front {m : PMp} {w t d : Nat} (hd : d < pN m) (h1 : rch m w t (pVo m d) = true) (h2 : ¬ rch m w t (pVo m (ox d)) = true) : dsA m w t (pVo m d) = t := by
  have hle := dsA_le m w t (pVo m d)
  by_cases q : dsA m w t (pVo m d) < t
  · exfalso
    apply h2
    have h3 := rch_adj hd (dsA_lt h1 q)
    rw [show t - 1 + 1 = t by omega] at h3
    exact h3
  · omega
theorem fvI_0 {m : PMp} {w t v : Nat} : fvI m w t 0 v = fvR m w t v := by
  unfold fvI fvR
  by_cases h : rch m w t v = true
  · rw [if_pos h, if_pos h]
  · rw [if_neg h, if_neg h]; rfl
theorem fvI_N {m : PMp} {w t v : Nat} : fvI m w t (pN m) v = fvR m w (t + 1) v := by
  unfold fvI fvR
  by_cases h : rch m w t v = true
  · rw [if_pos h, if_pos (rch_mono h)]
    have : dsA m w (t + 1) v = dsA m w t v := if_pos h
    rw [this]
  · rw [if_neg h]
    have e : rch m w (t + 1) v = rcM m w t (pN m) v := by
      show (rch m w t v || _) = _
      rw [Bool.eq_false_iff.mpr h, Bool.false_or]; rfl
    have e2 : dsA m w (t + 1) v = t + 1 := if_neg h
    rw [e, e2]
theorem fvI_s {m : PMp} {w t i v : Nat} : fvI m w t (i + 1) v = if rch m w t (pVo m i) = true ∧ ¬ rch m w t v = true ∧ pVo m (ox i) = v then nI (t + 1) else fvI m w t i v := by
  by_cases h : rch m w t v = true
  · rw [if_neg (fun q => q.2.1 h)]
    unfold fvI
    rw [if_pos h, if_pos h]
  · by_cases h2 : rch m w t (pVo m i) = true ∧ pVo m (ox i) = v
    · rw [if_pos ⟨h2.1, h, h2.2⟩]
      unfold fvI
      rw [if_neg h, if_pos]
      show (anB _ i || _) = true
      rw [Bool.or_eq_true]; right
      show (rch m w t (pVo m i) && decide (pVo m (ox i) = v)) = true
      rw [h2.1, h2.2]; simp
    · rw [if_neg (fun q => h2 ⟨q.1, q.2.2⟩)]
      unfold fvI
      rw [if_neg h, if_neg h]
      have : rcM m w t (i + 1) v = rcM m w t i v := by
        show (anB _ i || _) = anB _ i
        have : (rch m w t (pVo m i) && decide (pVo m (ox i) = v)) = false := by
          rw [Bool.and_eq_false_iff, decide_eq_false_iff_not]
          by_cases q : rch m w t (pVo m i) = true
          · right; exact fun z => h2 ⟨q, z⟩
          · left; exact Bool.eq_false_iff.mpr q
        show (_ || (rch m w t (pVo m i) && decide (pVo m (ox i) = v))) = _
        rw [this, Bool.or_false]
      rw [this]
theorem fvI_eqt {m : PMp} {w t i v : Nat} (ht : t < 2 ^ 30) : fvI m w t i v = nI t ↔ rch m w t v = true ∧ dsA m w t v = t := by
  unfold fvI
  by_cases h : rch m w t v = true
  · rw [if_pos h, nI_eq (by have := dsA_le m w t v; omega) (by omega)]
    exact ⟨fun q => ⟨h, q⟩, fun q => q.2⟩
  · rw [if_neg h]
    by_cases h2 : rcM m w t i v = true
    · rw [if_pos h2, nI_eq (by omega) (by omega)]
      exact ⟨fun q => by omega, fun q => absurd q.1 h⟩
    · rw [if_neg h2]
      exact ⟨fun q => absurd q.symm (nI_ne1 (by omega)), fun q => absurd q.1 h⟩
theorem fvI_none {m : PMp} {w t i v : Nat} (ht : t < 2 ^ 30) : fvI m w t i v = -1 ↔ ¬ rch m w t v = true ∧ ¬ rcM m w t i v = true := by
  unfold fvI
  by_cases h : rch m w t v = true
  · rw [if_pos h]
    exact ⟨fun q => absurd q (nI_ne1 (by have := dsA_le m w t v; omega)), fun q => absurd h q.1⟩
  · rw [if_neg h]
    by_cases h2 : rcM m w t i v = true
    · rw [if_pos h2]
      exact ⟨fun q => absurd q (nI_ne1 (by omega)), fun q => absurd h2 q.2⟩
    · rw [if_neg h2]
      exact ⟨fun _ => ⟨h, h2⟩, fun _ => rfl⟩
/-- one dart: what the loop does is what fvI says -/
theorem fvI_go {m : PMp} {w t i v : Nat} (ht : t < 2 ^ 30) (hi : i < pN m) : fvI m w t (i + 1) v = if fvI m w t i (pVo m i) = nI t ∧ fvI m w t i (pVo m (ox i)) = -1 ∧ v = pVo m (ox i) then nI (t + 1) else fvI m w t i v := by
  rw [fvI_s]
  by_cases hv : v = pVo m (ox i)
  · subst hv
    by_cases h : rch m w t (pVo m i) = true ∧ ¬ rch m w t (pVo m (ox i)) = true
    · rw [if_pos ⟨h.1, h.2, rfl⟩]
      have h1 : fvI m w t i (pVo m i) = nI t := (fvI_eqt ht).mpr ⟨h.1, front hi h.1 h.2⟩
      by_cases h2 : rcM m w t i (pVo m (ox i)) = true
      · rw [if_neg (fun q => absurd h2 ((fvI_none ht).mp q.2.1).2)]
        unfold fvI
        rw [if_neg h.2, if_pos h2]
      · rw [if_pos ⟨h1, (fvI_none ht).mpr ⟨h.2, h2⟩, rfl⟩]
    · rw [if_neg (fun q => h ⟨q.1, q.2.1⟩), if_neg]
      rintro ⟨q1, q2, -⟩
      exact h ⟨((fvI_eqt ht).mp q1).1, ((fvI_none ht).mp q2).1⟩
  · rw [if_neg (fun q => hv q.2.2.symm), if_neg (fun q => hv q.2.2)]
/-- the distance of vertex v from w, as the rows have it -/
def dsV (m : PMp) (w v : Nat) : Int32 := fvR m w (pVn m) v
theorem pVo_lt {m : PMp} (hm : PV m) {x : Nat} (hx : x < pN m) : pVo m x < 32 := by
  have h1 := lbO_lt hm.2.1 hx
  have h2 := ctO_le (pX m) (pN m)
  have h3 : 2 * m.1 ≤ 32 := by have := hm.1; omega
  exact Nat.lt_of_lt_of_le h1 (Nat.le_trans h2 h3)
theorem pVo_ltV {m : PMp} (hm : PV m) {x : Nat} (hx : x < pN m) : pVo m x < pVn m := by
  have h1 := lbO_lt hm.2.1 hx
  have h0 : m.1 ≠ 0 := fun q => by have h9 : x < 2 * m.1 := hx; omega
  unfold pVn
  rw [if_neg h0]
  exact h1
theorem pVn_le {m : PMp} (hm : PV m) : pVn m ≤ 32 := by
  unfold pVn
  have h2 := ctO_le (pX m) (pN m)
  have h3 : pN m ≤ 32 := by have := hm.1; show 2 * m.1 ≤ 32; omega
  split <;> omega
theorem pFo_ltF {m : PMp} (hm : PV m) {x : Nat} (hx : x < pN m) : pFo m x < pFn m := by
  have h1 := lbO_lt (pF_perm hm.2.1) hx
  have h0 : m.1 ≠ 0 := fun q => by have h9 : x < 2 * m.1 := hx; omega
  unfold pFn
  rw [if_neg h0]
  exact h1
theorem pFn_le {m : PMp} (hm : PV m) : pFn m ≤ 32 := by
  unfold pFn
  have h2 := ctO_le (pF m) (pN m)
  have h3 : pN m ≤ 32 := by have := hm.1; show 2 * m.1 ≤ 32; omega
  split <;> omega
section Far
variable {L : Nat} {xs : Nat → Int32} {d : Nat}
/-- the reference: laysFar -/
theorem laysFar_ev {s w : Nat} {m : PMp} {M0 : ME} (hs : s < 5) (hw : w < 32) (hm : PV m) (hr : rM M0 s m) (hV : M0.1 110 7 = nI (pVn m)) (hVo : ∀ x, x < pN m → M0.1 114 x = nI (pVo m x)) : EvV (E0 L xs) (d + 1) m10_laysFar [.ref 110, .int (nI s), .int (nI w)] M0 (fun M => Fr (tR1 117) M0 M ∧ ∀ v, v < 32 → M.1 117 v = dsV m w v) := by
  have hN : 2 * m.1 ≤ 32 := by have := hm.1; omega
  have hVn := pVn_le hm
  have frM : ∀ M, Fr (tR1 117) M0 M → rM M s m := fun M hF => rM_fr hr hF rfl rfl (fun _ _ => rfl)
  refine Ev_of k10_laysFar rfl (Nat.le_of_ble_eq_true rfl) (b10_laysFar_0 ?_)
  refine lpN 32 (fun i M => Fr (tR1 117) M0 M ∧ ∀ v, v < i → M.1 117 v = -1) (fun i M => Wp (E0 L xs) (d + 1) m10_laysFar 2 [.ref 110, .int (nI s), .int (nI w), .int (nI i), .null, .null] [] M _) ?_ ?_ 0 _ (by decide) ⟨Fr_refl _ _, fun x hx => absurd hx (Nat.not_lt_zero _)⟩
  · intro M ⟨hF, hz⟩
    refine b10_laysFar_2 (fun _ => b10_laysFar_21 w rfl hw ?_) (fun h => absurd (by decide) h)
    refine lpN (pVn m) (fun t M => Fr (tR1 117) M0 M ∧ ∀ v, v < 32 → M.1 117 v = fvR m w t v) (fun t M => Wp (E0 L xs) (d + 1) m10_laysFar 30 [.ref 110, .int (nI s), .int (nI w), .int (nI t), .null, .null] [] M _) ?_ ?_ 0 _ (Nat.zero_le _) ⟨Fr_sI hF rfl, fun v hv => ?_⟩
    · intro M ⟨hF, hM⟩
      have e7 : gI M 110 7 = nI (pVn m) := (hF.1 110 7 rfl).trans hV
      exact b10_laysFar_30 (fun _ => b10_laysFar_111 ⟨rfl, hF, hM⟩) (fun h => absurd (by rw [e7]; exact nI_le (Nat.le_refl _) (by omega)) h)
    · intro t M ht ⟨hF, hM⟩ ih
      have e7 : gI M 110 7 = nI (pVn m) := (hF.1 110 7 rfl).trans hV
      refine b10_laysFar_30 (fun h => ?_) (fun _ => b10_laysFar_38 ?_)
      · rw [e7] at h
        exact absurd ((nI_leI (by omega) (by omega)).mp h) (by omega)
      · refine lpN (pN m) (fun i M => Fr (tR1 117) M0 M ∧ ∀ v, v < 32 → M.1 117 v = fvI m w t i v) (fun i M => Wp (E0 L xs) (d + 1) m10_laysFar 41 [.ref 110, .int (nI s), .int (nI w), .int (nI t), .int (nI i), .null] [] M _) ?_ ?_ 0 M (Nat.zero_le _) ⟨hF, fun v hv => by rw [hM v hv, fvI_0]⟩
        · intro M ⟨hF, hM⟩
          have e2 : 2 * gI M 112 s = nI (pN m) := by rw [show gI M 112 s = _ from (frM M hF).1]; exact pk_mul 2 _
          refine b10_laysFar_41 s rfl hs (fun _ => b10_laysFar_105 ?_) (fun h => absurd (by rw [e2]; exact nI_le (Nat.le_refl _) (by show 2 * m.1 < _; omega)) h)
          rw [nI_1]
          exact ih M ⟨hF, fun v hv => by rw [hM v hv, fvI_N]⟩
        · intro i M hi ⟨hF, hM⟩ ih2
          have hi2 : i < 2 * m.1 := hi
          have e2 : 2 * gI M 112 s = nI (pN m) := by rw [show gI M 112 s = _ from (frM M hF).1]; exact pk_mul 2 _
          have hVo2 : ∀ x, x < pN m → M.1 114 x = nI (pVo m x) := fun x hx => (hF.1 114 x rfl).trans (hVo x hx)
          have ho : ox i < 2 * m.1 := ox_lt hi2
          have ht9 : t < 2 ^ 30 := by omega
          have hnext : ∀ M' : ME, Fr (tR1 117) M0 M' → (∀ v, v < 32 → M'.1 117 v = fvI m w t (i + 1) v) → ∀ z : Int32, Wp (E0 L xs) (d + 1) m10_laysFar 99 [.ref 110, .int (nI s), .int (nI w), .int (nI t), .int (nI i), .int z] [] M' (fun v M' => v = none ∧ (Fr (tR1 117) M0 M' ∧ ∀ v, v < 32 → M'.1 117 v = dsV m w v)) := fun M' h1 h2 z => b10_laysFar_99 (by rw [nI_1]; exact ih2 M' ⟨h1, h2⟩)
          have hV1 := pVo_lt hm hi
          have hV2 := pVo_lt hm (x := ox i) ho
          refine b10_laysFar_41 s rfl hs (fun h => ?_) (fun _ => ?_)
          · rw [e2] at h
            exact absurd ((nI_leI (by show 2 * m.1 < _; omega) (by omega)).mp h) (by omega)
          · refine b10_laysFar_51 (ox i) (nI_ox (by omega)) (by omega) i rfl (by omega) (pVo m i) (hVo2 i hi) hV1 (fun h => ?_) (fun h => ?_)
            · refine hnext M hF (fun v hv => ?_) _
              rw [hM v hv, fvI_go ht9 hi, if_neg]
              rintro ⟨q, -⟩
              exact h ((hM _ hV1).trans q)
            · have h' : fvI m w t i (pVo m i) = nI t := (hM _ hV1).symm.trans h
              rw [show gI M 114 (ox i) = nI (pVo m (ox i)) from hVo2 _ ho]
              refine b10_laysFar_78 (pVo m (ox i)) rfl hV2 (fun h2 => ?_) (fun h2 => ?_)
              · refine hnext M hF (fun v hv => ?_) _
                rw [hM v hv, fvI_go ht9 hi, if_neg]
                rintro ⟨-, q, -⟩
                exact h2 ((hM _ hV2).trans q)
              · have h2' : fvI m w t i (pVo m (ox i)) = -1 := (hM _ hV2).symm.trans h2
                refine b10_laysFar_89 (pVo m (ox i)) rfl hV2 ?_
                rw [nI_1]
                refine hnext _ (Fr_sI hF rfl) (fun v hv => ?_) _
                rw [sI_at, fvI_go ht9 hi]
                by_cases e : v = pVo m (ox i)
                · rw [if_pos ⟨rfl, e⟩, if_pos ⟨h', h2', e⟩]
                · rw [if_neg (fun q => e q.2), if_neg (fun q => e q.2.2)]; exact hM v hv
    · rw [sI_at]
      by_cases e : v = w
      · rw [if_pos ⟨rfl, e⟩]
        have : rch m w 0 v = true := decide_eq_true e
        have h2 : fvR m w 0 v = nI (dsA m w 0 v) := if_pos this
        rw [h2]; rfl
      · rw [if_neg (fun q => e q.2), hz v hv]
        have : ¬ rch m w 0 v = true := fun q => e (of_decide_eq_true q)
        have h2 : fvR m w 0 v = -1 := if_neg this
        rw [h2]
  · intro i M hi ⟨hF, hz⟩ ih
    refine b10_laysFar_2 (fun h => absurd ((nI_leI (a := 32) (by decide) (by omega)).mp h) (by omega)) (fun _ => b10_laysFar_8 i rfl hi ?_)
    rw [nI_1]
    refine ih _ ⟨Fr_sI hF rfl, fun v hv => ?_⟩
    rw [sI_at]
    by_cases e : v = i
    · rw [if_pos ⟨rfl, e⟩]
    · rw [if_neg (fun q => e q.2)]; exact hz v (by omega)
end Far
theorem cnB_full {P : Nat → Bool} {V : Nat} : ∀ {n : Nat}, (∀ v, P v = true → v < V) → V ≤ cnB P n → ∀ v, v < V → P v = true := by
  have key : ∀ n, cnB P n ≤ n := cnB_le P
  -- the first n numbers below V
  have aux : ∀ (n : Nat), (∀ v, P v = true → v < V) → cnB P n ≤ min n V ∧ (cnB P n = min n V → ∀ v, v < n → v < V → P v = true) := by
    intro n hP
    induction n with
    | zero => exact ⟨Nat.zero_le _, fun _ v hv => absurd hv (Nat.not_lt_zero _)⟩
    | succ n ih =>
      obtain ⟨h1, h2⟩ := ih
      have e : cnB P (n + 1) = cnB P n + (if P n = true then 1 else 0) := rfl
      by_cases hn : P n = true
      · have hV := hP n hn
        rw [if_pos hn] at e
        refine ⟨by omega, fun q v hv hvV => ?_⟩
        by_cases ev : v = n
        · rw [ev]; exact hn
        · exact h2 (by omega) v (by omega) hvV
      · rw [if_neg hn] at e
        refine ⟨by omega, fun q v hv hvV => ?_⟩
        by_cases hnV : n < V
        · omega
        · exact h2 (by omega) v (by omega) hvV
  intro n hP hV v hv
  obtain ⟨h1, h2⟩ := aux n hP
  exact h2 (by omega) v (by omega) hv
theorem rch_ltV {m : PMp} (hm : PV m) {w : Nat} (hw : w < pVn m) : ∀ {t v : Nat}, rch m w t v = true → v < pVn m
  | 0, v, h => by rw [of_decide_eq_true h]; exact hw
  | t + 1, v, h => by
    have h2 : (rch m w t v || anB (fun d => rch m w t (pVo m d) && decide (pVo m (ox d) = v)) (pN m)) = true := h
    rw [Bool.or_eq_true] at h2
    rcases h2 with h2 | h2
    · exact rch_ltV hm hw h2
    · obtain ⟨i, hi, h3⟩ := anB_iff.mp h2
      rw [Bool.and_eq_true, decide_eq_true_iff] at h3
      rw [← h3.2]
      exact pVo_ltV hm (ox_lt hi)
theorem pVn_pos {m : PMp} (hm : PV m) : 0 < pVn m := by
  by_cases h : m.1 = 0
  · unfold pVn; rw [if_pos h]; exact Nat.one_pos
  · exact Nat.lt_of_le_of_lt (Nat.zero_le _) (pVo_ltV hm (x := 0) (by show 0 < 2 * m.1; omega))
theorem pFn_pos {m : PMp} (hm : PV m) : 0 < pFn m := by
  by_cases h : m.1 = 0
  · unfold pFn; rw [if_pos h]; exact Nat.one_pos
  · exact Nat.lt_of_le_of_lt (Nat.zero_le _) (pFo_ltF hm (x := 0) (by show 0 < 2 * m.1; omega))
/-- how many vertices are reached -/
def rcN (m : PMp) (w : Nat) : Nat := cnB (rch m w (pVn m)) 32
def rcI (m : PMp) (w t i v : Nat) : Bool := rch m w t v || rcM m w t i v
theorem rcI_N {m : PMp} {w t v : Nat} : rcI m w t (pN m) v = rch m w (t + 1) v := rfl
theorem rcI_0 {m : PMp} {w t v : Nat} : rcI m w t 0 v = rch m w t v := by unfold rcI; exact Bool.or_false _
theorem rcI_none {m : PMp} {w t i v : Nat} (ht : t < 2 ^ 30) : fvI m w t i v = -1 ↔ rcI m w t i v = false := by
  rw [fvI_none ht]; unfold rcI; rw [Bool.or_eq_false_iff, Bool.not_eq_true, Bool.not_eq_true]
theorem rcI_s {m : PMp} {w t i v : Nat} (ht : t < 2 ^ 30) (hi : i < pN m) : rcI m w t (i + 1) v = if fvI m w t i (pVo m i) = nI t ∧ fvI m w t i (pVo m (ox i)) = -1 ∧ v = pVo m (ox i) then true else rcI m w t i v := by
  have h := fvI_go (m := m) (w := w) (v := v) ht hi
  by_cases c : fvI m w t i (pVo m i) = nI t ∧ fvI m w t i (pVo m (ox i)) = -1 ∧ v = pVo m (ox i)
  · rw [if_pos c] at h ⊢
    cases q : rcI m w t (i + 1) v with
    | true => rfl
    | false =>
      rw [(rcI_none ht).mpr q] at h
      exact absurd h.symm (nI_ne1 (by omega))
  · rw [if_neg c] at h ⊢
    rw [Bool.eq_iff_iff]
    have a1 := rcI_none (m := m) (w := w) (t := t) (i := i + 1) (v := v) ht
    have a2 := rcI_none (m := m) (w := w) (t := t) (i := i) (v := v) ht
    rw [h, a2] at a1
    cases q1 : rcI m w t (i + 1) v <;> cases q2 : rcI m w t i v <;> simp_all
def tDs (k j : Nat) : Bool := match k with
  | 55 => true
  | 54 => j == 1
  | _ => false
def RMs (a : Nat) : Prop := a = 5 ∨ a = 82 ∨ a = 89 ∨ a = 96 ∨ a = 103
theorem RMs_is {L : Nat} {xs : Nat → Int32} {a : Nat} (h : RMs a) : isRM (E0 L xs) a := by
  rcases h with rfl | rfl | rfl | rfl | rfl <;> exact ⟨rfl, rfl, rfl, rfl, rfl, rfl, rfl⟩
theorem tDs_f {a k j : Nat} (h : RMs a) (h1 : a ≤ k) (h2 : k ≤ a + 6) : tDs k j = false := by
  have : k ≠ 55 ∧ k ≠ 54 := by rcases h with rfl | rfl | rfl | rfl | rfl <;> omega
  unfold tDs
  split
  · omega
  · omega
  · rfl
section Measure
variable {L : Nat} {xs : Nat → Int32} {d : Nat}
/-- the class: measure -/
theorem measure_wp {a w : Nat} {m : PMp} {M0 : ME} {R : Option Value → ME → Prop} (ha : RMs a) (hw : w < pVn m) (hm : PV m) (hc : cM M0 a m) (hR : ∀ M, Fr tDs M0 M → (∀ v, v < 32 → M.1 55 v = dsV m w v) → M.1 54 1 = nI (rcN m w) → R none M) : Wp (E0 L xs) (d + 1) m1_measure 0 [.ref 54, .ref a, .int (nI w), .null, .null, .null] [] M0 R := by
  have hN : 2 * m.1 ≤ 32 := by have := hm.1; omega
  have hVn := pVn_le hm
  have T := RMs_is (L := L) (xs := xs) ha
  have frM : ∀ M, Fr tDs M0 M → cM M a m := fun M hF => cM_fr hc hF (fun k j h1 h2 => tDs_f ha h1 h2)
  refine b1_measure_0 (fill_ev (n := 32) rfl (by decide)) (fun M1 h1 => b1_measure_8 w rfl (by omega) ?_)
  have hF1 : Fr tDs M0 M1 := Fr_mono h1.1 (fun k j q => tR1_f (fun z => by subst z; cases q))
  -- when the rows stand for good
  have hend : ∀ t M, t ≤ pVn m → Fr tDs M0 M → (∀ v, v < 32 → M.1 55 v = fvR m w t v) → M.1 54 1 = nI (cnB (rch m w t) 32) → (t = pVn m ∨ pVn m ≤ cnB (rch m w t) 32) → R none M := by
    intro t M ht hF hM hc1 hq
    rcases hq with rfl | hq
    · exact hR M hF hM hc1
    · have hall := cnB_full (P := rch m w t) (fun v hv => rch_ltV hm hw hv) hq
      have e : ∀ v, rch m w t v = rch m w (pVn m) v := fun v => by
        rw [Bool.eq_iff_iff]
        exact ⟨rch_le ht, fun q => hall v (rch_ltV hm hw q)⟩
      refine hR M hF (fun v hv => ?_) (by rw [hc1]; unfold rcN; rw [cnB_congr (fun i _ => e i)])
      rw [hM v hv]
      show fvR m w t v = fvR m w (pVn m) v
      unfold fvR
      rw [← e v]
      by_cases q : rch m w t v = true
      · rw [if_pos q, if_pos q, dsA_st ht q]
      · rw [if_neg q, if_neg q]
  have hcle : ∀ t, cnB (rch m w t) 32 ≤ 32 := fun t => cnB_le _ _
  suffices hloop : ∀ (k t : Nat) (M : ME), t + k = pVn m → Fr tDs M0 M → (∀ v, v < 32 → M.1 55 v = fvR m w t v) → M.1 54 1 = nI (cnB (rch m w t) 32) → Wp (E0 L xs) (d + 1) m1_measure 22 [.ref 54, .ref a, .int (nI w), .int (nI t), .null, .null] [] M R by
    refine hloop (pVn m) 0 _ (by omega) (Fr_sI (Fr_sI hF1 rfl) rfl) (fun v hv => ?_) ?_
    · rw [sI_ne (Or.inl (by decide)), sI_at]
      by_cases e : v = w
      · rw [if_pos ⟨rfl, e⟩]
        have h2 : fvR m w 0 v = nI (dsA m w 0 v) := if_pos (decide_eq_true e)
        rw [h2]; rfl
      · rw [if_neg (fun q => e q.2), h1.2 v hv]
        have h2 : fvR m w 0 v = -1 := if_neg (fun q => e (of_decide_eq_true q))
        rw [h2]
    · rw [sI_eq]
      have : cnB (rch m w 0) 32 = 1 := by
        rw [cnB_one (P := fun _ => false) (Q := rch m w 0) (a := w) rfl (decide_eq_true rfl) (fun i hi => decide_eq_false hi) (by omega), cnB_none (fun _ _ => rfl)]
      rw [this]; rfl
  intro k
  induction k with
  | zero =>
    intro t M ht hF hM hc1
    have htV : t = pVn m := by omega
    have e2 : gI M a 2 = nI (pVn m) := (frM M hF).2.2.1
    refine b1_measure_22 T (fun _ => b1_measure_123 (hend t M (by omega) hF hM hc1 (Or.inl htV))) (fun h => absurd (by rw [e2, htV]; exact nI_le (Nat.le_refl _) (by omega)) h)
  | succ k ih =>
    intro t M ht hF hM hc1
    have e2 : gI M a 2 = nI (pVn m) := (frM M hF).2.2.1
    refine b1_measure_22 T (fun h => ?_) (fun _ => b1_measure_30 T (fun h => ?_) (fun h => b1_measure_41 ?_))
    · rw [e2] at h
      exact absurd ((nI_leI (by omega) (by omega)).mp h) (by omega)
    · rw [e2, show gI M 54 1 = _ from hc1] at h
      exact b1_measure_123 (hend t M (by omega) hF hM hc1 (Or.inr ((nI_leI (by omega) (by have := hcle t; omega)).mp h)))
    · refine lpN (pN m) (fun i M => Fr tDs M0 M ∧ (∀ v, v < 32 → M.1 55 v = fvI m w t i v) ∧ M.1 54 1 = nI (cnB (rcI m w t i) 32)) (fun i M => Wp (E0 L xs) (d + 1) m1_measure 44 [.ref 54, .ref a, .int (nI w), .int (nI t), .int (nI i), .null] [] M R) ?_ ?_ 0 M (Nat.zero_le _) ⟨hF, fun v hv => by rw [hM v hv, fvI_0], by rw [hc1, cnB_congr (fun i _ => (rcI_0 (m := m) (w := w) (t := t) (v := i)).symm)]⟩
      · intro M ⟨hF, hM, hc1⟩
        have e2 : 2 * gI M a 0 = nI (pN m) := by rw [show gI M a 0 = _ from (frM M hF).1]; exact pk_mul 2 _
        refine b1_measure_44 T (fun _ => b1_measure_117 ?_) (fun h => absurd (by rw [e2]; exact nI_le (Nat.le_refl _) (by show 2 * m.1 < _; omega)) h)
        rw [nI_1]
        exact ih (t + 1) M (by omega) hF (fun v hv => by rw [hM v hv, fvI_N]) hc1
      · intro i M hi ⟨hF, hM, hc1⟩ ih2
        have hi2 : i < 2 * m.1 := hi
        have hcm := frM M hF
        have e2 : 2 * gI M a 0 = nI (pN m) := by rw [show gI M a 0 = _ from hcm.1]; exact pk_mul 2 _
        have hVo := hcm.2.2.2.2.2.2.1
        have ho : ox i < 2 * m.1 := ox_lt hi2
        have ht9 : t < 2 ^ 30 := by omega
        have hV1 := pVo_lt hm hi
        have hV2 := pVo_lt hm (x := ox i) ho
        have hnext : ∀ M' : ME, Fr tDs M0 M' → (∀ v, v < 32 → M'.1 55 v = fvI m w t (i + 1) v) → M'.1 54 1 = nI (cnB (rcI m w t (i + 1)) 32) → ∀ z : Int32, Wp (E0 L xs) (d + 1) m1_measure 111 [.ref 54, .ref a, .int (nI w), .int (nI t), .int (nI i), .int z] [] M' R := fun M' h1 h2 h3 z => b1_measure_111 (by rw [nI_1]; exact ih2 M' ⟨h1, h2, h3⟩)
        have hsame : ¬ (fvI m w t i (pVo m i) = nI t ∧ fvI m w t i (pVo m (ox i)) = -1) → ∀ z : Int32, Wp (E0 L xs) (d + 1) m1_measure 111 [.ref 54, .ref a, .int (nI w), .int (nI t), .int (nI i), .int z] [] M R := fun q z => by
          refine hnext M hF (fun v hv => ?_) ?_ z
          · rw [hM v hv, fvI_go ht9 hi, if_neg (fun c => q ⟨c.1, c.2.1⟩)]
          · rw [hc1, cnB_congr (P := rcI m w t i) (Q := rcI m w t (i + 1)) (fun v _ => by rw [rcI_s ht9 hi, if_neg (fun c => q ⟨c.1, c.2.1⟩)])]
        refine b1_measure_44 T (fun h => ?_) (fun _ => ?_)
        · rw [e2] at h
          exact absurd ((nI_leI (by show 2 * m.1 < _; omega) (by omega)).mp h) (by omega)
        · refine b1_measure_53 T (ox i) (nI_ox (by omega)) (by omega) i rfl (by omega) (pVo m i) (hVo i hi) hV1 (fun h => ?_) (fun h => ?_)
          · exact hsame (fun q => h ((hM _ hV1).trans q.1)) _
          · have h' : fvI m w t i (pVo m i) = nI t := (hM _ hV1).symm.trans h
            rw [show gI M (a + 3) (ox i) = nI (pVo m (ox i)) from hVo _ ho]
            refine b1_measure_80 (pVo m (ox i)) rfl hV2 (fun h2 => ?_) (fun h2 => ?_)
            · exact hsame (fun q => h2 ((hM _ hV2).trans q.2)) _
            · have h2' : fvI m w t i (pVo m (ox i)) = -1 := (hM _ hV2).symm.trans h2
              refine b1_measure_91 (pVo m (ox i)) rfl hV2 ?_
              rw [nI_1]
              refine hnext _ (Fr_sI (Fr_sI hF rfl) rfl) (fun v hv => ?_) ?_ _
              · rw [sI_ne (Or.inl (by decide)), sI_at, fvI_go ht9 hi]
                by_cases e : v = pVo m (ox i)
                · rw [if_pos ⟨rfl, e⟩, if_pos ⟨h', h2', e⟩]
                · rw [if_neg (fun q => e q.2), if_neg (fun q => e q.2.2)]; exact hM v hv
              · rw [sI_eq, show gI M 54 1 = _ from hc1, nI_1]
                congr 1
                refine (cnB_one (P := rcI m w t i) (a := pVo m (ox i)) ((rcI_none ht9).mp h2') ?_ (fun v hv => ?_) hV2).symm
                · rw [rcI_s ht9 hi, if_pos ⟨h', h2', rfl⟩]
                · rw [rcI_s ht9 hi, if_neg (fun q => hv q.2.2)]
theorem measure_ev {a w : Nat} {m : PMp} {M0 : ME} (ha : RMs a) (hw : w < pVn m) (hm : PV m) (hc : cM M0 a m) : EvV (E0 L xs) (d + 1) m1_measure [.ref 54, .ref a, .int (nI w)] M0 (fun M => Fr tDs M0 M ∧ (∀ v, v < 32 → M.1 55 v = dsV m w v) ∧ M.1 54 1 = nI (rcN m w)) :=
  Ev_of k1_measure rfl (Nat.le_of_ble_eq_true rfl) (measure_wp ha hw hm hc (fun _ h1 h2 h3 => ⟨rfl, h1, h2, h3⟩))
end Measure
