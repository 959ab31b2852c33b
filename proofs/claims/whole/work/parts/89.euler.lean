/-! PURE: no map has more vertices and faces than a plane one -/
theorem euler_le {m : PMp} (hP : PV m) (hc : Conn m) : pVn m + pFn m ≤ pE m + 2 := by
  by_cases hE : m.1 = 0
  · have h1 : pVn m = 1 := if_pos hE
    have h2 : pFn m = 1 := if_pos hE
    rw [h1, h2]; omega
  have h0N : 0 < pN m := by show 0 < 2 * m.1; omega
  have hF := pF_perm hP.2.1
  have hFn : pFn m = ctO (pF m) (pN m) := if_neg hE
  have hw := pVn_pos hP
  generalize hw0 : (0 : Nat) = w at hw
  generalize hr0 : pFo m 0 = r0
  have hr0F : r0 < pFn m := by rw [← hr0]; exact pFo_ltF hP h0N
  have reach : ∀ x, x < pN m → ∃ k, rt (zH m w) ox (pFo m) r0 k (pFo m x) := fun x hx => by
    refine zcol hP hc hw (fun f => ∃ k, rt (zH m w) ox (pFo m) r0 k f) (fun z hz => ⟨fun ⟨k, hk⟩ => ⟨k + 1, Or.inr ⟨z, hz, rfl, hk⟩⟩, fun ⟨k, hk⟩ => ⟨k + 1, Or.inr ⟨ox z, zH_ox hz, by rw [ox_ox], hk⟩⟩⟩) h0N hx ⟨0, hr0⟩
  have face : ∀ f, f < pFn m → ∃ x, x < pN m ∧ pFo m x = f := fun f hf => by
    rw [hFn] at hf
    obtain ⟨x, x1, x2, -⟩ := lbO_sur hf
    exact ⟨x, x1, x2⟩
  have qex : ∀ f, f < pFn m → f ≠ r0 → ∃ y, zH m w y = true ∧ pFo m y = f ∧ dl (zH m w) ox (pFo m) r0 (pFo m (ox y)) + 1 = dl (zH m w) ox (pFo m) r0 f := fun f hf hne => by
    obtain ⟨x, x1, x2⟩ := face f hf
    have hsp := dl_sp (reach x x1)
    rw [x2] at hsp
    cases q : dl (zH m w) ox (pFo m) r0 f with
    | zero => rw [q] at hsp; exact absurd hsp.1 hne
    | succ k =>
      rw [q] at hsp
      rcases hsp.1 with h | ⟨y, hy, e, h⟩
      · exact absurd h (hsp.2 k (by omega))
      · refine ⟨ox y, zH_ox hy, e, ?_⟩
        rw [ox_ox]
        have h1 := dl_le h
        have h2 : dl (zH m w) ox (pFo m) r0 f ≤ dl (zH m w) ox (pFo m) r0 (pFo m y) + 1 := by
          refine dl_le (Or.inr ⟨y, hy, e, ?_⟩)
          exact (dl_sp ⟨k, h⟩).1
        omega
  have hq : ∀ f, ∃ y, f < pFn m → f ≠ r0 → zH m w y = true ∧ pFo m y = f ∧ dl (zH m w) ox (pFo m) r0 (pFo m (ox y)) + 1 = dl (zH m w) ox (pFo m) r0 f := fun f => by
    by_cases q : f < pFn m ∧ f ≠ r0
    · obtain ⟨y, hy⟩ := qex f q.1 q.2
      exact ⟨y, fun _ _ => hy⟩
    · exact ⟨0, fun a b => absurd ⟨a, b⟩ q⟩
  generalize hzq : (fun f => (hq f).choose) = zq
  have zq_sp : ∀ f, f < pFn m → f ≠ r0 → zH m w (zq f) = true ∧ pFo m (zq f) = f ∧ dl (zH m w) ox (pFo m) r0 (pFo m (ox (zq f))) + 1 = dl (zH m w) ox (pFo m) r0 f := fun f a b => by
    rw [← hzq]; exact (hq f).choose_spec a b
  have evn : ∀ z, z < pN m → zH m w z = true → zH m w (2 * (z / 2)) = true := fun z hz h => by
    rcases half2 (x := 2 * (z / 2)) (y := z) (by omega) with e | e
    · rw [e]; exact h
    · rw [e]; exact zH_ox h
  have c1 : cnB (fun v => decide (v < pVn m) && decide (v ≠ w)) (pVn m) ≤ cnB (fun e => !zH m w (2 * e)) (pE m) := by
    refine cnB_inj (fun v => zpv m w v / 2) (fun v hv hp => ?_) (fun u v hu hv hp hq e => ?_)
    · rw [Bool.and_eq_true] at hp
      have hne := of_decide_eq_true hp.2
      obtain ⟨p1, -, -⟩ := zpv_sp hP hc hw hv hne
      refine ⟨by show _ < m.1; have : zpv m w v < 2 * m.1 := p1; omega, ?_⟩
      have : zH m w (2 * (zpv m w v / 2)) = false := Bool.eq_false_iff.mpr (fun z => by
        refine (zH_iff.mp z).2 ⟨v, hv, hne, ?_⟩
        exact half2 (by omega))
      show (!zH m w (2 * (zpv m w v / 2))) = true
      rw [this]; rfl
    · rw [Bool.and_eq_true] at hp hq
      have hne := of_decide_eq_true hp.2
      have hne2 := of_decide_eq_true hq.2
      obtain ⟨p1, p2, p3⟩ := zpv_sp hP hc hw hu hne
      obtain ⟨q1, q2, q3⟩ := zpv_sp hP hc hw hv hne2
      rcases half2 e with z | z
      · rw [← p2, ← q2, z]
      · rw [z, ox_ox] at p3
        omega
  have c4 : cnB (fun f => true && decide (f ≠ r0)) (pFn m) ≤ cnB (fun e => zH m w (2 * e)) (pE m) := by
    refine cnB_inj (fun f => zq f / 2) (fun f hf hp => ?_) (fun f g hf hg hp hq' e => ?_)
    · rw [Bool.true_and] at hp
      have hne := of_decide_eq_true hp
      obtain ⟨s1, s2, s3⟩ := zq_sp f hf hne
      have sN := (zH_iff.mp s1).1
      exact ⟨by show _ < m.1; have : zq f < 2 * m.1 := sN; omega, evn _ sN s1⟩
    · rw [Bool.true_and] at hp hq'
      have hne := of_decide_eq_true hp
      have hne2 := of_decide_eq_true hq'
      obtain ⟨s1, s2, s3⟩ := zq_sp f hf hne
      obtain ⟨t1, t2, t3⟩ := zq_sp g hg hne2
      rcases half2 e with y | y
      · rw [← s2, ← t2, y]
      · rw [y, ox_ox, t2] at s3
        rw [show ox (zq g) = zq f from y.symm, s2] at t3
        omega
  have c2 := cnB_rm (P := fun v => decide (v < pVn m)) (a := w) (n := pVn m) hw (decide_eq_true hw)
  rw [cnB_all (fun i hi => decide_eq_true hi)] at c2
  have c3 := cnB_or (P := fun e => zH m w (2 * e)) (Q := fun e => !zH m w (2 * e)) (R := fun _ => true) (n := pE m) (fun i _ => by cases zH m w (2 * i) <;> rfl) (fun i _ h => by
    obtain ⟨a, b⟩ := h
    have a' : zH m w (2 * i) = true := a
    have b' : (!zH m w (2 * i)) = true := b
    rw [a'] at b'; cases b')
  rw [cnB_T] at c3
  have c5 := cnB_rm (P := fun _ => true) (a := r0) (n := pFn m) hr0F rfl
  rw [cnB_T] at c5
  omega
/-- rounds told apart by something that they keep -/
theorem ct_ge {g ps : Nat → Nat} {N n : Nat} {P : Nat → Bool} (hg : PermOn g N) (h1 : ∀ x, x < N → ps (g x) = ps x) (h2 : ∀ c, c < n → P c = true → ∃ x, x < N ∧ ps x = c) : cnB P n ≤ ctO g N := by
  have orb : ∀ k x, x < N → ps (it g k x) = ps x := fun k => by
    induction k with
    | zero => intro x _; rfl
    | succ k ih =>
      intro x hx
      show ps (it g k (g x)) = _
      rw [ih _ (hg.1 x hx), h1 x hx]
  have hex : ∀ c, ∃ x, c < n → P c = true → x < N ∧ ps x = c := fun c => by
    by_cases q : c < n ∧ P c = true
    · obtain ⟨x, hx⟩ := h2 c q.1 q.2
      exact ⟨x, fun _ _ => hx⟩
    · exact ⟨0, fun a b => absurd ⟨a, b⟩ q⟩
  have := cnB_inj (P := P) (Q := fun _ => true) (a := n) (b := ctO g N) (fun c => lbO g N (hex c).choose) (fun c hc hp => ⟨lbO_lt hg ((hex c).choose_spec hc hp).1, rfl⟩) (fun c e hc he hp hq z => by
    obtain ⟨a1, a2⟩ := (hex c).choose_spec hc hp
    obtain ⟨b1, b2⟩ := (hex e).choose_spec he hq
    obtain ⟨k, hk⟩ := (lbO_eq hg a1 b1).mp z
    have := orb k _ a1
    rw [hk, b2, a2] at this
    exact this.symm)
  rw [cnB_T] at this
  exact this
theorem ct_geN {g ps : Nat → Nat} {N n : Nat} (hg : PermOn g N) (h1 : ∀ x, x < N → ps (g x) = ps x) (h2 : ∀ c, c < n → ∃ x, x < N ∧ ps x = c) : n ≤ ctO g N := by
  have := ct_ge (P := fun _ => true) (n := n) hg h1 (fun c hc _ => h2 c hc)
  rw [cnB_T] at this
  exact this
theorem MV_of {m : PMp} (hP : PV m) (hc : Conn m) (h : pE m + 2 ≤ pVn m + pFn m) : MV m := ⟨hP, hc, Nat.le_antisymm (euler_le hP hc) h⟩
/-- closed under a permutation: under its inverse too -/
theorem cl_inv {g : Nat → Nat} {N : Nat} (hg : PermOn g N) {S : Nat → Prop} (h : ∀ x, x < N → S x → S (g x)) {x : Nat} (hx : x < N) (hS : S (g x)) : S x := by
  obtain ⟨p, p0, -, hp⟩ := period hg hx
  have key : ∀ k, S (it g (k + 1) x) := fun k => by
    induction k with
    | zero => exact hS
    | succ k ih => rw [it_succ']; exact h _ (it_lt hg.1 _ _ hx) ih
  have := key (p - 1)
  rw [show p - 1 + 1 = p by omega, hp] at this
  exact this
section VAL
variable {m : PMp}
theorem vn_pos (h : 0 < m.1) : pVn m = ctO (pX m) (pN m) := if_neg (by omega)
theorem fn_pos (h : 0 < m.1) : pFn m = ctO (pF m) (pN m) := if_neg (by omega)
theorem E0_MV (hP : PV m) (h : m.1 = 0) : MV m := by
  refine ⟨hP, fun S _ _ x y hx => ?_, ?_⟩
  · have : x < 2 * m.1 := hx
    omega
  · rw [show pVn m = 1 from if_pos h, show pFn m = 1 from if_pos h]
    show 2 = m.1 + 2
    omega
theorem vtx {c : Nat} (h0 : 0 < m.1) (hc : c < pVn m) : ∃ x, x < pN m ∧ pVo m x = c := by
  rw [vn_pos h0] at hc
  obtain ⟨x, x1, x2, -⟩ := lbO_sur hc
  exact ⟨x, x1, x2⟩
theorem fac {c : Nat} (h0 : 0 < m.1) (hc : c < pFn m) : ∃ x, x < pN m ∧ pFo m x = c := by
  rw [fn_pos h0] at hc
  obtain ⟨x, x1, x2, -⟩ := lbO_sur hc
  exact ⟨x, x1, x2⟩
theorem fX (hP : PV m) {z : Nat} (hz : z < pN m) : pFo m (pX m z) = pFo m (ox z) := by
  have : pF m (ox z) = pX m z := by show pX m (ox (ox z)) = _; rw [ox_ox]
  rw [← this]
  exact lbO_step (pF_perm hP.2.1) (ox_lt hz)
theorem mir_MV (hm : MV m) : MV (mir m) := by
  obtain ⟨hP, hc, hV⟩ := hm
  by_cases h0 : m.1 = 0
  · exact E0_MV (mir_PV hP) h0
  have h0' : 0 < m.1 := by omega
  have hX := iv_perm hP.2.1
  refine MV_of (mir_PV hP) (mir_Conn hP hc) ?_
  have v : pVn m ≤ pVn (mir m) := by
    rw [vn_pos (m := mir m) h0']
    refine ct_geN (ps := pVo m) (mir_PV hP).2.1 (fun x hx => ?_) (fun c hc => vtx h0' hc)
    exact (lbO_eq hP.2.1 (hX.1 x hx) hx).mpr ((iv_orb hP.2.1 (hX.1 x hx) hx).mp (Orb_symm hX hx (Orb_step _ _)))
  have f : pFn m ≤ pFn (mir m) := by
    rw [fn_pos (m := mir m) h0']
    refine ct_geN (ps := fun x => pFo m (ox x)) (pF_perm (mir_PV hP).2.1) (fun x hx => ?_) (fun c hc => ?_)
    · show pFo m (ox (ivF (pX m) (pN m) (ox x))) = pFo m (ox x)
      have hy := hX.1 _ (ox_lt hx)
      rw [← fX hP hy, iv_r hP.2.1 (ox_lt hx)]
    · obtain ⟨x, x1, x2⟩ := fac h0' hc
      exact ⟨ox x, ox_lt x1, by rw [ox_ox]; exact x2⟩
  show m.1 + 2 ≤ _
  have : pVn m + pFn m = m.1 + 2 := hV
  omega
theorem dual_MV (hm : MV m) : MV (dual m) := by
  obtain ⟨hP, hc, hV⟩ := hm
  have e : pF (dual m) = pX m := funext fun x => by show pX m (ox (ox x)) = _; rw [ox_ox]
  refine ⟨dual_PV hP, fun S h1 h2 x y hx hy hS => ?_, ?_⟩
  · refine hc S (fun z hz hSz => ?_) h2 x y hx hy hS
    have := h1 (ox z) (ox_lt hz) (h2 z hz hSz)
    have e2 : pX (dual m) (ox z) = pX m z := by show pX m (ox (ox z)) = _; rw [ox_ox]
    rw [e2] at this; exact this
  · have e1 : pVn (dual m) = pFn m := rfl
    have e2 : pFn (dual m) = pVn m := by
      show (if m.1 = 0 then 1 else ctO (pF (dual m)) (pN m)) = _
      rw [e]; rfl
    rw [e1, e2]
    show _ = m.1 + 2
    have : pVn m + pFn m = m.1 + 2 := hV
    omega
theorem root_MV (hm : MV m) {d : Nat} (hd : d < pN m) : MV (m.1, d, m.2.2) := ⟨⟨hm.1.1, hm.1.2.1, Or.inl hd⟩, hm.2.1, hm.2.2⟩
/-- darts named anew -/
theorem iso_MV {m' : PMp} {ka : Nat → Nat} (hm : MV m) (hP' : PV m') (hE : m'.1 = m.1) (k1 : ∀ i, i < pN m → ka i < pN m) (k2 : ∀ x, x < pN m → ∃ i, i < pN m ∧ ka i = x) (kX : ∀ i, i < pN m → ka (pX m' i) = pX m (ka i)) (ko : ∀ i, i < pN m → ka (ox i) = ox (ka i)) (kj : ∀ i j, i < pN m → j < pN m → ka i = ka j → i = j) : MV m' := by
  obtain ⟨hP, hc, hV⟩ := hm
  by_cases h0 : m.1 = 0
  · exact E0_MV hP' (by omega)
  have h0' : 0 < m.1 := by omega
  have h0'' : 0 < m'.1 := by omega
  have eN : pN m' = pN m := by show 2 * m'.1 = 2 * m.1; omega
  refine MV_of hP' (fun S h1 h2 x y hx hy hS => ?_) ?_
  · rw [eN] at hx hy h1 h2
    have := hc (fun z => ∃ i, i < pN m ∧ ka i = z ∧ S i) (fun z hz ⟨i, i1, i2, i3⟩ => ⟨pX m' i, by have := hP'.2.1.1 i (by rw [eN]; exact i1); rw [eN] at this; exact this, by rw [kX i i1, i2], h1 i i1 i3⟩) (fun z hz ⟨i, i1, i2, i3⟩ => ⟨ox i, ox_lt i1, by rw [ko i i1, i2], h2 i i1 i3⟩) (ka x) (ka y) (k1 x hx) (k1 y hy) ⟨x, hx, rfl, hS⟩
    obtain ⟨i, i1, i2, i3⟩ := this
    rw [kj i y i1 hy i2] at i3; exact i3
  · have v : pVn m ≤ pVn m' := by
      rw [vn_pos h0'']
      refine ct_geN (ps := fun i => pVo m (ka i)) hP'.2.1 (fun i hi => ?_) (fun c hc => ?_)
      · rw [eN] at hi
        show pVo m (ka (pX m' i)) = _
        rw [kX i hi]; exact lbO_step hP.2.1 (k1 i hi)
      · obtain ⟨x, x1, x2⟩ := vtx h0' hc
        obtain ⟨i, i1, i2⟩ := k2 x x1
        exact ⟨i, by rw [eN]; exact i1, by show pVo m (ka i) = c; rw [i2]; exact x2⟩
    have f : pFn m ≤ pFn m' := by
      rw [fn_pos h0'']
      refine ct_geN (ps := fun i => pFo m (ka i)) (pF_perm hP'.2.1) (fun i hi => ?_) (fun c hc => ?_)
      · rw [eN] at hi
        show pFo m (ka (pX m' (ox i))) = _
        rw [kX _ (ox_lt hi), ko i hi]
        exact lbO_step (pF_perm hP.2.1) (k1 i hi)
      · obtain ⟨x, x1, x2⟩ := fac h0' hc
        obtain ⟨i, i1, i2⟩ := k2 x x1
        exact ⟨i, by rw [eN]; exact i1, by show pFo m (ka i) = c; rw [i2]; exact x2⟩
    show m'.1 + 2 ≤ _
    have : pVn m + pFn m = m.1 + 2 := hV
    omega
end VAL
