/-! halved and doubled maps -/
theorem pF_per {m : PMp} (hm : PV m) {x : Nat} (hx : x < pN m) : 0 < pFd m (pFo m x) ∧ it (pF m) (pFd m (pFo m x)) x = x ∧ ∀ j, 0 < j → j < pFd m (pFo m x) → it (pF m) j x ≠ x := by
  obtain ⟨p, h1, h2, -, h3, h4⟩ := dgx_per (m := dual m) (pF_perm hm.2.1) hx
  have : pFd m (pFo m x) = p := h1
  rw [this]
  exact ⟨h2, h3, h4⟩
theorem fr4_d {m : PMp} (h4 : fr4 m = true) {f : Nat} (hf : f < pFn m) : pFd m f = 4 := of_decide_eq_true (alB_iff.mp h4 f hf)
theorem ev_orb {m : PMp} (hm : PV m) {w x : Nat} (hx : x < pN m) : evB m w (pX m x) = evB m w x := by
  unfold evB
  rw [show pVo m (pX m x) = pVo m x from lbO_step hm.2.1 hx]
section HV
variable {m : PMp} {w : Nat}
/-- the two sorts alternate round a face -/
theorem ev_F (hm : PV m) (h2 : ∀ x, x < pN m → evB m w x ≠ evB m w (ox x)) {x : Nat} (hx : x < pN m) : evB m w (pF m x) = !evB m w x := by
  have h := h2 x hx
  rw [show pF m x = pX m (ox x) from rfl, ev_orb hm (ox_lt hx)]
  cases q : evB m w x <;> cases q2 : evB m w (ox x) <;> simp_all
/-- of a face's darts just two begin at an even vertex: x and the one two steps on -/
def F2 (m : PMp) (x : Nat) : Nat := pF m (pF m x)
theorem F2_lt (hm : PV m) {x : Nat} (hx : x < pN m) : F2 m x < pN m := (pF_perm hm.2.1).1 _ ((pF_perm hm.2.1).1 _ hx)
theorem F2_ev (hm : PV m) (h2 : ∀ x, x < pN m → evB m w x ≠ evB m w (ox x)) {x : Nat} (hx : x < pN m) : evB m w (F2 m x) = evB m w x := by
  unfold F2
  rw [ev_F hm h2 ((pF_perm hm.2.1).1 _ hx), ev_F hm h2 hx, Bool.not_not]
theorem F2_fo (hm : PV m) {x : Nat} (hx : x < pN m) : pFo m (F2 m x) = pFo m x := by
  have hF := pF_perm hm.2.1
  unfold F2
  rw [show pFo m (pF m (pF m x)) = pFo m (pF m x) from lbO_step hF (hF.1 _ hx), show pFo m (pF m x) = pFo m x from lbO_step hF hx]
theorem F2_ne (hm : PV m) (h4 : fr4 m = true) {x : Nat} (hx : x < pN m) : F2 m x ≠ x := by
  obtain ⟨-, -, h⟩ := pF_per hm hx
  rw [fr4_d h4 (pFo_ltF hm hx)] at h
  exact h 2 (by decide) (by decide)
theorem F2_F2 (hm : PV m) (h4 : fr4 m = true) {x : Nat} (hx : x < pN m) : F2 m (F2 m x) = x := by
  obtain ⟨-, h, -⟩ := pF_per hm hx
  rw [fr4_d h4 (pFo_ltF hm hx)] at h
  exact h
theorem F2_two (hm : PV m) (h4 : fr4 m = true) (h2 : ∀ x, x < pN m → evB m w x ≠ evB m w (ox x)) {x y : Nat} (hx : x < pN m) (hy : y < pN m) (ex : evB m w x = true) (ey : evB m w y = true) (hf : pFo m y = pFo m x) : y = x ∨ y = F2 m x := by
  have hF := pF_perm hm.2.1
  obtain ⟨-, h, -⟩ := pF_per hm hx
  rw [fr4_d h4 (pFo_ltF hm hx)] at h
  obtain ⟨k, hk⟩ := (lbO_eq hF hx hy).mp hf.symm
  rw [it_mod h k] at hk
  have hk4 := Nat.mod_lt k (show 0 < 4 by decide)
  have l1 := hF.1 _ hx
  have l2 := hF.1 _ l1
  have : k % 4 = 0 ∨ k % 4 = 1 ∨ k % 4 = 2 ∨ k % 4 = 3 := by omega
  rcases this with q | q | q | q
  · rw [q] at hk; exact Or.inl hk.symm
  · rw [q] at hk
    have hk' : pF m x = y := hk
    have := ev_F hm h2 hx
    rw [hk', ex, ey] at this
    cases this
  · rw [q] at hk; exact Or.inr hk.symm
  · rw [q] at hk
    have hk' : pF m (F2 m x) = y := hk
    have := ev_F hm h2 (F2_lt hm hx)
    rw [hk', F2_ev hm h2 hx, ex, ey] at this
    cases this
/-- is an even dart of the same face ahead; the new dart's name -/
def hb (m : PMp) (w x : Nat) : Bool := anB (fun y => decide (pFo m y = pFo m x) && evB m w y) x
def hn (m : PMp) (w x : Nat) : Nat := 2 * pFo m x + (if hb m w x = true then 1 else 0)
theorem hb_iff {x : Nat} : hb m w x = true ↔ ∃ y, y < x ∧ pFo m y = pFo m x ∧ evB m w y = true := by
  unfold hb
  rw [anB_iff]
  constructor
  · rintro ⟨y, h1, h2⟩
    rw [Bool.and_eq_true, decide_eq_true_iff] at h2
    exact ⟨y, h1, h2.1, h2.2⟩
  · rintro ⟨y, h1, h2, h3⟩
    exact ⟨y, h1, by rw [Bool.and_eq_true, decide_eq_true_iff]; exact ⟨h2, h3⟩⟩
theorem hb_F2 (hm : PV m) (h4 : fr4 m = true) (h2 : ∀ x, x < pN m → evB m w x ≠ evB m w (ox x)) {x : Nat} (hx : x < pN m) (ex : evB m w x = true) : hb m w x = true ↔ F2 m x < x := by
  rw [hb_iff]
  constructor
  · rintro ⟨y, h1, h3, h5⟩
    rcases F2_two hm h4 h2 hx (by omega) ex h5 h3 with q | q
    · omega
    · rw [← q]; exact h1
  · intro h
    exact ⟨F2 m x, h, F2_fo hm hx, by rw [F2_ev hm h2 hx]; exact ex⟩
theorem hn_inj (hm : PV m) (h4 : fr4 m = true) (h2 : ∀ x, x < pN m → evB m w x ≠ evB m w (ox x)) {x y : Nat} (hx : x < pN m) (hy : y < pN m) (ex : evB m w x = true) (ey : evB m w y = true) (h : hn m w x = hn m w y) : x = y := by
  have hf : pFo m y = pFo m x ∧ (hb m w x = true ↔ hb m w y = true) := by
    unfold hn at h
    by_cases q1 : hb m w x = true <;> by_cases q2 : hb m w y = true
    · rw [if_pos q1, if_pos q2] at h; exact ⟨by omega, fun _ => q2, fun _ => q1⟩
    · rw [if_pos q1, if_neg q2] at h; omega
    · rw [if_neg q1, if_pos q2] at h; omega
    · rw [if_neg q1, if_neg q2] at h; exact ⟨by omega, fun z => absurd z q1, fun z => absurd z q2⟩
  rcases F2_two hm h4 h2 hx hy ex ey hf.1 with q | q
  · exact q.symm
  · exfalso
    have h3 := hf.2
    rw [hb_F2 hm h4 h2 hx ex, hb_F2 hm h4 h2 hy ey, q, F2_F2 hm h4 hx] at h3
    have := F2_ne hm h4 hx
    omega
theorem hn_lt (hm : PV m) {x : Nat} (hx : x < pN m) : hn m w x < 2 * pFn m := by
  have := pFo_ltF hm hx
  unfold hn
  split <;> omega
theorem hn_sur (hm : PV m) (h4 : fr4 m = true) (h2 : ∀ x, x < pN m → evB m w x ≠ evB m w (ox x)) (hE : 0 < pE m) {y : Nat} (hy : y < 2 * pFn m) : ∃ x, x < pN m ∧ evB m w x = true ∧ hn m w x = y := by
  have hF := pF_perm hm.2.1
  have eF : pFn m = ctO (pF m) (pN m) := by unfold pFn; rw [if_neg (by have : 0 < m.1 := hE; omega)]
  obtain ⟨x0, hx0, e0, -⟩ := lbO_sur (show y / 2 < ctO (pF m) (pN m) by omega)
  have hx1 : ∃ x, x < pN m ∧ pFo m x = y / 2 ∧ evB m w x = true := by
    by_cases q : evB m w x0 = true
    · exact ⟨x0, hx0, e0, q⟩
    · refine ⟨pF m x0, hF.1 _ hx0, ?_, ?_⟩
      · exact (lbO_step hF hx0).trans e0
      · rw [ev_F hm h2 hx0]; simpa using q
  obtain ⟨x, hx, ef, ee⟩ := hx1
  have hne := F2_ne hm h4 hx
  have key : ∀ z, z < pN m → pFo m z = y / 2 → evB m w z = true → (F2 m z < z ↔ y % 2 = 1) → hn m w z = y := by
    intro z hz e1 e2 e3
    unfold hn
    rw [e1]
    by_cases q : hb m w z = true
    · rw [if_pos q]
      have := e3.mp ((hb_F2 hm h4 h2 hz e2).mp q)
      omega
    · rw [if_neg q]
      have : ¬ y % 2 = 1 := fun z' => q ((hb_F2 hm h4 h2 hz e2).mpr (e3.mpr z'))
      omega
  by_cases c : (F2 m x < x ↔ y % 2 = 1)
  · exact ⟨x, hx, ee, key x hx ef ee c⟩
  · refine ⟨F2 m x, F2_lt hm hx, by rw [F2_ev hm h2 hx]; exact ee, key _ (F2_lt hm hx) (by rw [F2_fo hm hx]; exact ef) (by rw [F2_ev hm h2 hx]; exact ee) ?_⟩
    rw [F2_F2 hm h4 hx]
    by_cases c1 : F2 m x < x
    · by_cases c2 : y % 2 = 1
      · exact absurd (Iff.intro (fun _ => c2) (fun _ => c1)) c
      · exact ⟨fun z => by omega, fun z => absurd z c2⟩
    · by_cases c2 : y % 2 = 1
      · exact ⟨fun _ => c2, fun _ => by omega⟩
      · exact absurd (Iff.intro (fun z => absurd z c1) (fun z => absurd z c2)) c
end HV
/-- the least even dart with a name -/
def hdF (m : PMp) (w y : Nat) : Nat → Nat
  | 0 => 0
  | n + 1 => if evB m w n = true ∧ hn m w n = y then n else hdF m w y n
theorem hdF_at {m : PMp} {w y x : Nat} (ex : evB m w x = true) (e : hn m w x = y) : ∀ {n : Nat}, x < n → (∀ z, z < n → evB m w z = true → hn m w z = y → z = x) → hdF m w y n = x
  | 0, h, _ => absurd h (Nat.not_lt_zero _)
  | n + 1, h, hu => by
    show (if evB m w n = true ∧ hn m w n = y then n else hdF m w y n) = x
    by_cases q : evB m w n = true ∧ hn m w n = y
    · rw [if_pos q]; exact hu n (by omega) q.1 q.2
    · rw [if_neg q]
      exact hdF_at ex e (by
        have : x ≠ n := fun z => q (by rw [← z]; exact ⟨ex, e⟩)
        omega) (fun z hz => hu z (by omega))
def hlv (m : PMp) : PMp := if pE m = 1 then (0, 0, id) else (pFn m, hn m (pVo m (pR m)) (pR m), fun y => hn m (pVo m (pR m)) (pX m (hdF m (pVo m (pR m)) y (pN m))))
/-- degrees of all rounds together: all darts -/
def smN (f : Nat → Nat) : Nat → Nat
  | 0 => 0
  | n + 1 => smN f n + f n
theorem cnB_or {P Q R : Nat → Bool} : ∀ {n : Nat}, (∀ i, i < n → R i = (P i || Q i)) → (∀ i, i < n → ¬ (P i = true ∧ Q i = true)) → cnB R n = cnB P n + cnB Q n
  | 0, _, _ => rfl
  | n + 1, h1, h2 => by
    show cnB R n + _ = (cnB P n + _) + (cnB Q n + _)
    rw [cnB_or (fun i hi => h1 i (by omega)) (fun i hi => h2 i (by omega)), h1 n (by omega)]
    have := h2 n (by omega)
    cases q1 : P n <;> cases q2 : Q n <;> simp_all <;> omega
theorem sm_sz {g : Nat → Nat} {N : Nat} : ∀ k, smN (szO g N) k = cnB (fun x => decide (lbO g N x < k)) N
  | 0 => (cnB_none (fun i _ => decide_eq_false (Nat.not_lt_zero _))).symm
  | k + 1 => by
    show smN (szO g N) k + szO g N k = _
    rw [sm_sz k]
    refine (cnB_or (fun i _ => ?_) (fun i _ h => ?_)).symm
    · rw [Bool.eq_iff_iff, Bool.or_eq_true, decide_eq_true_iff, decide_eq_true_iff, decide_eq_true_iff]; omega
    · rw [decide_eq_true_iff, decide_eq_true_iff] at h; omega
theorem cnB_all {P : Nat → Bool} : ∀ {n : Nat}, (∀ i, i < n → P i = true) → cnB P n = n
  | 0, _ => rfl
  | n + 1, h => by
    show cnB P n + _ = _
    rw [cnB_all (fun i hi => h i (by omega)), if_pos (h n (by omega))]
theorem sm_all {g : Nat → Nat} {N : Nat} (h : PermOn g N) : smN (szO g N) (ctO g N) = N := by
  rw [sm_sz]
  exact cnB_all (fun i hi => decide_eq_true (lbO_lt h hi))
theorem sm_const {f : Nat → Nat} {c : Nat} : ∀ {n : Nat}, (∀ i, i < n → f i = c) → smN f n = c * n
  | 0, _ => rfl
  | n + 1, h => by
    show smN f n + f n = _
    rw [sm_const (fun i hi => h i (by omega)), h n (by omega)]
    rw [Nat.mul_succ]
theorem fr4_E {m : PMp} (hm : PV m) (h4 : fr4 m = true) : pE m = 2 * pFn m := by
  by_cases h0 : m.1 = 0
  · have hF : pFn m = 1 := by unfold pFn; rw [if_pos h0]
    have := fr4_d h4 (f := 0) (by omega)
    have hz : pFd m 0 = 0 := by
      show cnB _ (2 * m.1) = 0
      rw [h0]; rfl
    omega
  · have eF : pFn m = ctO (pF m) (pN m) := by unfold pFn; rw [if_neg h0]
    have h1 := sm_all (pF_perm hm.2.1)
    rw [← eF, sm_const (c := 4) (fun i hi => fr4_d h4 hi)] at h1
    have : pN m = 2 * m.1 := rfl
    show m.1 = _
    omega
theorem hlv_PV {m : PMp} (hm : MV m) (hf : fit m = true) : PV (hlv m) := by
  unfold hlv
  by_cases h1 : pE m = 1
  · rw [if_pos h1]
    exact ⟨by decide, ⟨fun x hx => absurd hx (Nat.not_lt_zero _), fun x y hx => absurd hx (Nat.not_lt_zero _)⟩, Or.inr ⟨rfl, rfl⟩⟩
  · rw [if_neg h1]
    have h4 : fr4 m = true := by
      unfold fit at hf
      rw [decide_eq_false h1, Bool.false_and, Bool.or_false] at hf
      exact hf
    have hE := fr4_E hm.1 h4
    have hF := pFn_pos hm.1
    have hE16 : pE m ≤ 16 := hm.1.1
    have hr : pR m < pN m := by
      rcases rt_lt hm.1 with q | q
      · exact q
      · omega
    have hw : pVo m (pR m) < pVn m := pVo_ltV hm.1 hr
    have h2 : ∀ x, x < pN m → evB m (pVo m (pR m)) x ≠ evB m (pVo m (pR m)) (ox x) := fun x hx => fit_two hm h4 (by omega) hw hx
    have hd : ∀ y, y < 2 * pFn m → ∃ x, x < pN m ∧ evB m (pVo m (pR m)) x = true ∧ hn m (pVo m (pR m)) x = y ∧ hdF m (pVo m (pR m)) y (pN m) = x := fun y hy => by
      obtain ⟨x, h3, h5, h6⟩ := hn_sur hm.1 h4 h2 (by omega) hy
      exact ⟨x, h3, h5, h6, hdF_at h5 h6 h3 (fun z hz h7 h8 => hn_inj hm.1 h4 h2 hz h3 h7 h5 (h8.trans h6.symm))⟩
    refine ⟨by show pFn m ≤ 16; omega, ⟨fun y hy => ?_, fun y z hy hz e => ?_⟩, Or.inl ?_⟩
    · obtain ⟨x, h3, h5, h6, h7⟩ := hd y hy
      show hn m _ (pX m (hdF m _ y (pN m))) < 2 * pFn m
      rw [h7]
      exact hn_lt hm.1 (hm.1.2.1.1 _ h3)
    · obtain ⟨x, h3, h5, h6, h7⟩ := hd y hy
      obtain ⟨x', h3', h5', h6', h7'⟩ := hd z hz
      have e' : hn m (pVo m (pR m)) (pX m (hdF m (pVo m (pR m)) y (pN m))) = hn m (pVo m (pR m)) (pX m (hdF m (pVo m (pR m)) z (pN m))) := e
      rw [h7, h7'] at e'
      have := hn_inj hm.1 h4 h2 (hm.1.2.1.1 _ h3) (hm.1.2.1.1 _ h3') (by rw [ev_orb hm.1 h3]; exact h5) (by rw [ev_orb hm.1 h3']; exact h5') e'
      have := hm.1.2.1.2 _ _ h3 h3' this
      rw [← h6, ← h6', this]
    · exact hn_lt hm.1 hr
/-- doubled -/
def dbl (m : PMp) : PMp := if pE m = 0 then (1, 0, id) else (2 * pE m, 2 * pX m (pR m), fun y => if y % 2 = 0 then 2 * pX m (y / 2) else 2 * ivF (pF m) (pN m) (y / 2) + 1)
theorem dbl_PV {m : PMp} (hm : PV m) (h8 : pE m ≤ 8) : PV (dbl m) := by
  unfold dbl
  by_cases h0 : pE m = 0
  · rw [if_pos h0]
    exact ⟨by decide, ⟨fun x hx => hx, fun x y _ _ e => e⟩, Or.inl (by decide)⟩
  · rw [if_neg h0]
    have hr : pR m < pN m := by
      rcases rt_lt hm with q | q
      · exact q
      · exact absurd q.1 h0
    have hF := iv_perm (pF_perm hm.2.1)
    have eN : pN m = 2 * pE m := rfl
    refine ⟨by show 2 * pE m ≤ 16; omega, ⟨fun y hy => ?_, fun y z hy hz e => ?_⟩, Or.inl ?_⟩
    · have hy' : y < 2 * (2 * pE m) := hy
      show (if y % 2 = 0 then 2 * pX m (y / 2) else 2 * ivF (pF m) (pN m) (y / 2) + 1) < 2 * (2 * pE m)
      have a1 := hm.2.1.1 (y / 2) (by omega)
      have a2 := hF.1 (y / 2) (by omega)
      split <;> omega
    · have hy' : y < 2 * (2 * pE m) := hy
      have hz' : z < 2 * (2 * pE m) := hz
      have e' : (if y % 2 = 0 then 2 * pX m (y / 2) else 2 * ivF (pF m) (pN m) (y / 2) + 1) = (if z % 2 = 0 then 2 * pX m (z / 2) else 2 * ivF (pF m) (pN m) (z / 2) + 1) := e
      by_cases q1 : y % 2 = 0 <;> by_cases q2 : z % 2 = 0
      · rw [if_pos q1, if_pos q2] at e'
        have := hm.2.1.2 _ _ (by omega) (by omega) (show pX m (y / 2) = pX m (z / 2) by omega)
        omega
      · rw [if_pos q1, if_neg q2] at e'; omega
      · rw [if_neg q1, if_pos q2] at e'; omega
      · rw [if_neg q1, if_neg q2] at e'
        have := hF.2 _ _ (by omega) (by omega) (show ivF (pF m) (pN m) (y / 2) = ivF (pF m) (pN m) (z / 2) by omega)
        omega
    · have := hm.2.1.1 _ hr
      show 2 * pX m (pR m) < 2 * (2 * pE m)
      omega
noncomputable def oHalve (st : ST) (x y : Int32) : Int32 × ST := cIf (vp_in x 4 ∧ vp_in y 4 ∧ fit (sM st x.toNatClampNeg) = true) (keep st y.toNatClampNeg (hlv (sM st x.toNatClampNeg))) (-1, st)
noncomputable def oRedouble (st : ST) (x y : Int32) : Int32 × ST := cIf (vp_in x 4 ∧ vp_in y 4 ∧ pE (sM st x.toNatClampNeg) ≤ 8) (keep st y.toNatClampNeg (dbl (sM st x.toNatClampNeg))) (-1, st)
