/-! connected maps: every vertex is reached; answers about a map -/
theorem cnB_mono {P Q : Nat → Bool} (h : ∀ i, P i = true → Q i = true) : ∀ n, cnB P n ≤ cnB Q n
  | 0 => Nat.le_refl _
  | n + 1 => by
    have ih := cnB_mono h n
    show cnB P n + _ ≤ cnB Q n + _
    by_cases q : P n = true
    · rw [if_pos q, if_pos (h n q)]; omega
    · rw [if_neg q]; split <;> omega
theorem cnB_same {P Q : Nat → Bool} (h : ∀ i, P i = true → Q i = true) : ∀ {n : Nat}, cnB P n = cnB Q n → ∀ i, i < n → P i = Q i
  | 0, _, i, hi => absurd hi (Nat.not_lt_zero _)
  | n + 1, e, i, hi => by
    have h1 := cnB_mono h n
    have e2 : cnB P n + (if P n = true then 1 else 0) = cnB Q n + (if Q n = true then 1 else 0) := e
    have hn : P n = Q n ∧ cnB P n = cnB Q n := by
      by_cases q : P n = true
      · rw [if_pos q, if_pos (h n q)] at e2
        exact ⟨q.trans (h n q).symm, by omega⟩
      · rw [if_neg q] at e2
        by_cases q2 : Q n = true
        · rw [if_pos q2] at e2; omega
        · rw [if_neg q2] at e2
          exact ⟨(Bool.eq_false_iff.mpr q).trans (Bool.eq_false_iff.mpr q2).symm, by omega⟩
    by_cases ei : i = n
    · rw [ei]; exact hn.1
    · exact cnB_same h hn.2 i (by omega)
theorem cnB_lt {P : Nat → Bool} {V : Nat} (h : ∀ v, P v = true → v < V) : ∀ n, cnB P n ≤ V := by
  intro n
  have : ∀ n, cnB P n ≤ min n V := by
    intro n
    induction n with
    | zero => exact Nat.zero_le _
    | succ n ih =>
      show cnB P n + _ ≤ _
      by_cases q : P n = true
      · rw [if_pos q]; have := h n q; omega
      · rw [if_neg q]; omega
  have := this n
  omega
/-- once nothing is new, nothing will be -/
theorem rch_stab {m : PMp} {w t : Nat} (h : ∀ v, rch m w (t + 1) v = rch m w t v) : ∀ k v, rch m w (t + k) v = rch m w t v
  | 0, _ => rfl
  | k + 1, v => by
    have ih := rch_stab h k
    show (rch m w (t + k) v || anB (fun d => rch m w (t + k) (pVo m d) && decide (pVo m (ox d) = v)) (pN m)) = _
    have e : (fun d => rch m w (t + k) (pVo m d) && decide (pVo m (ox d) = v)) = (fun d => rch m w t (pVo m d) && decide (pVo m (ox d) = v)) := funext fun d => by rw [ih]
    rw [e, ih]
    exact h v
theorem rch_V {m : PMp} (hm : PV m) {w : Nat} (hw : w < pVn m) {t v : Nat} (h : rch m w t v = true) : rch m w (pVn m) v = true := by
  -- some round below the number of vertices brings nothing new
  have hst : ∃ s, s < pVn m ∧ ∀ v, rch m w (s + 1) v = rch m w s v := by
    refine Classical.byContradiction fun hc => ?_
    have grow : ∀ s, s ≤ pVn m → s + 1 ≤ cnB (rch m w s) 32 := by
      intro s
      induction s with
      | zero =>
        intro _
        have hw32 := pVn_le hm
        have : cnB (rch m w 0) 32 = 1 := by
          rw [cnB_one (P := fun _ => false) (Q := rch m w 0) (a := w) rfl (decide_eq_true rfl) (fun i hi => decide_eq_false hi) (by omega), cnB_none (fun _ _ => rfl)]
        omega
      | succ s ih =>
        intro hs
        have h1 := ih (by omega)
        have h2 := cnB_mono (P := rch m w s) (Q := rch m w (s + 1)) (fun i hi => rch_mono hi) 32
        rcases Nat.lt_or_ge (cnB (rch m w s) 32) (cnB (rch m w (s + 1)) 32) with q | q
        · omega
        · exfalso
          apply hc
          refine ⟨s, by omega, fun v => ?_⟩
          by_cases hv : v < 32
          · exact (cnB_same (P := rch m w s) (Q := rch m w (s + 1)) (fun i hi => rch_mono hi) (by omega) v hv).symm
          · have z : ∀ r, rch m w r v = false := fun r => Bool.eq_false_iff.mpr (fun q => by have := rch_ltV hm hw q; have := pVn_le hm; omega)
            rw [z, z]
    have h1 := grow (pVn m) (Nat.le_refl _)
    have h2 := cnB_lt (P := rch m w (pVn m)) (V := pVn m) (fun v hv => rch_ltV hm hw hv) 32
    omega
  obtain ⟨s, hs, h1⟩ := hst
  have key := rch_stab h1
  by_cases q : t ≤ s
  · exact rch_le (by omega) h
  · have := key (t - s) v
    rw [show s + (t - s) = t by omega, h] at this
    exact rch_le (show s ≤ pVn m by omega) this.symm
theorem conn_rch {m : PMp} (hm : PV m) (hc : Conn m) {w v : Nat} (hw : w < pVn m) (hv : v < pVn m) : rch m w (pVn m) v = true := by
  by_cases h0 : m.1 = 0
  · have : pVn m = 1 := by unfold pVn; rw [if_pos h0]
    have hwv : v = w := by omega
    exact rch_le (Nat.zero_le _) (show rch m w 0 v = true from decide_eq_true hwv)
  · have eV : pVn m = ctO (pX m) (pN m) := by unfold pVn; rw [if_neg h0]
    obtain ⟨x, hx, ex, -⟩ := lbO_sur (show w < ctO (pX m) (pN m) by omega)
    obtain ⟨y, hy, ey, -⟩ := lbO_sur (show v < ctO (pX m) (pN m) by omega)
    have hS := hc (fun z => ∃ t, rch m w t (pVo m z) = true) (fun z hz ⟨t, ht⟩ => ⟨t, by rw [show pVo m (pX m z) = pVo m z from lbO_step hm.2.1 hz]; exact ht⟩) (fun z hz ⟨t, ht⟩ => ⟨t + 1, rch_adj hz ht⟩) x y hx hy ⟨0, decide_eq_true ex⟩
    obtain ⟨t, ht⟩ := hS
    rw [show pVo m y = v from ey] at ht
    exact rch_V hm hw ht
/-- distance -/
def dst (m : PMp) (w v : Nat) : Nat := dsA m w (pVn m) v
theorem dsV_conn {m : PMp} (hm : PV m) (hc : Conn m) {w v : Nat} (hw : w < pVn m) (hv : v < pVn m) : dsV m w v = nI (dst m w v) := if_pos (conn_rch hm hc hw hv)
theorem dst_le (m : PMp) (w v : Nat) : dst m w v ≤ pVn m := dsA_le m w _ v
theorem rcN_conn {m : PMp} (hm : PV m) {w : Nat} (hw : w < pVn m) (h : ∀ v, v < pVn m → rch m w (pVn m) v = true) : rcN m w = pVn m := by
  have hle := pVn_le hm
  have h1 := cnB_lt (P := rch m w (pVn m)) (V := pVn m) (fun v hv => rch_ltV hm hw hv) 32
  have aux : ∀ n, n ≤ pVn m → cnB (rch m w (pVn m)) n = n := by
    intro n
    induction n with
    | zero => intro _; rfl
    | succ n ih =>
      intro hn
      show cnB _ n + _ = _
      rw [ih (by omega), if_pos (h n (by omega))]
  have aux2 : ∀ n, pVn m ≤ n → pVn m ≤ cnB (rch m w (pVn m)) n := by
    intro n hn
    induction n with
    | zero => have := aux 0 (by omega); omega
    | succ n ih =>
      by_cases e : pVn m = n + 1
      · rw [← e, aux _ (Nat.le_refl _)]; exact Nat.le_refl _
      · exact Nat.le_trans (ih (by omega)) (Nat.le_add_right _ _)
  have := aux2 32 hle
  unfold rcN
  omega
/-- and the other way: all reached from vertex 0, so connected -/
theorem rch_conn {m : PMp} (hm : PV m) (h : ∀ v, v < pVn m → rch m 0 (pVn m) v = true) : Conn m := by
  intro S hf ho x y hx hy hS
  have hg := hm.2.1
  -- S is the same all round a vertex
  have hrnd : ∀ z, z < pN m → S z → ∀ k, S (it (pX m) k z) := by
    intro z hz hSz k
    induction k with
    | zero => exact hSz
    | succ k ih => rw [it_succ' (pX m) k z]; exact hf _ (it_lt hg.1 k z hz) ih
  have hver : ∀ z u, z < pN m → u < pN m → pVo m z = pVo m u → S z → S u := fun z u hz hu e hSz => by
    obtain ⟨k, rfl⟩ := (lbO_eq hg hz hu).mp e
    exact hrnd z hz hSz k
  -- what is reached from 0 has what 0 has
  have key : ∀ (P : Nat → Prop), (∀ z u, z < pN m → u < pN m → pVo m z = pVo m u → P z → P u) → (∀ z, z < pN m → P z → P (ox z)) → (∀ z, z < pN m → pVo m z = 0 → P z) → ∀ t v, rch m 0 t v = true → ∀ u, u < pN m → pVo m u = v → P u := by
    intro P h1 h2 h3 t
    induction t with
    | zero => intro v hv u hu e; exact h3 u hu (e.trans (of_decide_eq_true hv))
    | succ t ih =>
      intro v hv u hu e
      have hv2 : (rch m 0 t v || anB (fun d => rch m 0 t (pVo m d) && decide (pVo m (ox d) = v)) (pN m)) = true := hv
      rw [Bool.or_eq_true] at hv2
      rcases hv2 with hv2 | hv2
      · exact ih v hv2 u hu e
      · obtain ⟨z, hz, hz2⟩ := anB_iff.mp hv2
        rw [Bool.and_eq_true, decide_eq_true_iff] at hz2
        have h4 := h2 z hz (ih _ hz2.1 z hz rfl)
        exact h1 (ox z) u (ox_lt hz) hu (hz2.2.trans e.symm) h4
  have hV : ∀ z, z < pN m → rch m 0 (pVn m) (pVo m z) = true := fun z hz => h _ (pVo_ltV hm hz)
  by_cases h0 : ∀ z, z < pN m → pVo m z = 0 → S z
  · exact key S hver ho h0 (pVn m) _ (hV y hy) y hy rfl
  · exfalso
    have h0' : ∀ z, z < pN m → pVo m z = 0 → ¬ S z := fun z hz e hSz => h0 (fun u hu eu => hver z u hz hu (e.trans eu.symm) hSz)
    exact key (fun z => ¬ S z) (fun z u hz hu e hz2 hu2 => hz2 (hver u z hu hz e.symm hu2)) (fun z hz hz2 hoz => hz2 (by have := ho (ox z) (ox_lt hz) hoz; rw [ox_ox] at this; exact this)) h0' (pVn m) _ (hV x hx) x hx rfl hS
/-- answers about a map -/
def mxN (f : Nat → Nat) : Nat → Nat
  | 0 => 0
  | n + 1 => max (mxN f n) (f n)
def alB (P : Nat → Bool) : Nat → Bool
  | 0 => true
  | n + 1 => alB P n && P n
theorem alB_iff {P : Nat → Bool} : ∀ {n : Nat}, alB P n = true ↔ ∀ i, i < n → P i = true
  | 0 => Iff.intro (fun _ i hi => absurd hi (Nat.not_lt_zero i)) (fun _ => rfl)
  | n + 1 => by
    show (alB P n && P n) = true ↔ _
    rw [Bool.and_eq_true, alB_iff]
    constructor
    · intro ⟨h1, h2⟩ i hi
      by_cases e : i = n
      · rw [e]; exact h2
      · exact h1 i (by omega)
    · intro h
      exact ⟨fun i hi => h i (by omega), h n (by omega)⟩
theorem alB_f {P : Nat → Bool} {n : Nat} (h : ∃ i, i < n ∧ P i = false) : alB P n = false := by
  obtain ⟨i, hi, e⟩ := h
  exact Bool.eq_false_iff.mpr (fun q => by have := alB_iff.mp q i hi; rw [e] at this; cases this)
def fr4 (m : PMp) : Bool := alB (fun f => decide (pFd m f = 4)) (pFn m)
def two (m : PMp) : Bool := alB (fun x => decide (dst m 0 (pVo m x) % 2 ≠ dst m 0 (pVo m (ox x)) % 2)) (pN m)
def brg (m : PMp) : Nat := cnB (fun e => decide (pFo m (2 * e) = pFo m (2 * e + 1))) (pE m)
def b2i (b : Bool) : Int32 := if b = true then 1 else 0
def ofV (m : PMp) (w : Int32) : Int32 := if w = 0 then nI (pE m) else if w = 1 then nI (pVn m) else if w = 2 then nI (pFn m) else if w = 3 then nI (pR m) else if w = 4 then nI (mxN (pVd m) (pVn m)) else if w = 5 then nI (mxN (pFd m) (pFn m)) else if w = 6 then b2i (fr4 m) else if w = 7 then b2i (two m) else if w = 8 then nI (brg m) else -1
noncomputable def aOf (st : ST) (x w : Int32) : Int32 := cIf (vp_in x 4) (ofV (sM st x.toNatClampNeg) w) (-1)
def drV (m : PMp) (x : Nat) (w : Int32) : Int32 := if w = 0 then nI (pX m x) else if w = 1 then nI (pF m x) else if w = 2 then nI (pVo m x) else if w = 3 then nI (pFo m x) else -1
noncomputable def aDart (st : ST) (x y w : Int32) : Int32 := cIf (vp_in x 4 ∧ vp_in y (pN (sM st x.toNatClampNeg))) (drV (sM st x.toNatClampNeg) y.toNatClampNeg w) (-1)
noncomputable def aDegree (st : ST) (x w k : Int32) : Int32 := cIf (vp_in x 4 ∧ w = 0 ∧ vp_in k (pVn (sM st x.toNatClampNeg))) (nI (pVd (sM st x.toNatClampNeg) k.toNatClampNeg)) (cIf (vp_in x 4 ∧ w = 1 ∧ vp_in k (pFn (sM st x.toNatClampNeg))) (nI (pFd (sM st x.toNatClampNeg) k.toNatClampNeg)) (-1))
noncomputable def aDist (st : ST) (x v w : Int32) : Int32 := cIf (vp_in x 4 ∧ vp_in v (pVn (sM st x.toNatClampNeg)) ∧ vp_in w (pVn (sM st x.toNatClampNeg))) (nI (dst (sM st x.toNatClampNeg) v.toNatClampNeg w.toNatClampNeg)) (-1)
/-- vertices at a distance; the greatest one -/
noncomputable def aRing (st : ST) (x v k : Int32) : Int32 := cIf (vp_in x 4 ∧ vp_in v (pVn (sM st x.toNatClampNeg)) ∧ ¬ k < -1) (if k = -1 then nI (mxN (dst (sM st x.toNatClampNeg) v.toNatClampNeg) (pVn (sM st x.toNatClampNeg))) else nI (cnB (fun u => decide (nI (dst (sM st x.toNatClampNeg) v.toNatClampNeg u) = k)) (pVn (sM st x.toNatClampNeg)))) (-1)
