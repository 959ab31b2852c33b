/-! maps made of maps: the other one's faces, by code, without an edge -/
def dual (m : PMp) : PMp := (m.1, m.2.1, pF m)
theorem dual_PV {m : PMp} (h : PV m) : PV (dual m) := ⟨h.1, pF_perm h.2.1, h.2.2⟩
/-- names and darts of a whole list -/
theorem cdl_lt {m : PMp} (hm : PV m) (hc : Conn m) {s i : Nat} (hs : s < pN m) (hi : i < pN m) : (cdL m s).getD i 0 < pN m :=
  (NL_nml hm.2.1 hs (pN m)).2.1 _ (getD_mem (by rw [show (nml m s (pN m)).length = pN m from cdL_len hm hc hs]; exact hi))
theorem cdl_i {m : PMp} (hm : PV m) (hc : Conn m) {s i : Nat} (hs : s < pN m) (hi : i < pN m) : (cdL m s).idxOf ((cdL m s).getD i 0) = i := by
  have hl : i < (cdL m s).length := by rw [cdL_len hm hc hs]; exact hi
  have : (cdL m s).getD i 0 = (cdL m s)[i] := by simp [List.getD, List.getElem?_eq_getElem hl]
  rw [this]
  have h1 := List.getElem_idxOf (List.idxOf_lt_length_of_mem (List.getElem_mem hl))
  exact (List.getElem_inj (NL_nml hm.2.1 hs (pN m)).1).mp h1
theorem cdl_x {m : PMp} (hm : PV m) (hc : Conn m) {s x : Nat} (hs : s < pN m) (hx : x < pN m) : (cdL m s).getD ((cdL m s).idxOf x) 0 = x := by
  have hl := List.idxOf_lt_length_of_mem (cdL_all hm hc hs hx)
  have : (cdL m s).getD ((cdL m s).idxOf x) 0 = (cdL m s)[(cdL m s).idxOf x] := by simp [List.getD, List.getElem?_eq_getElem hl]
  rw [this]
  exact List.getElem_idxOf hl
theorem cdl_il {m : PMp} (hm : PV m) (hc : Conn m) {s x : Nat} (hs : s < pN m) (hx : x < pN m) : (cdL m s).idxOf x < pN m := by
  have hl := List.idxOf_lt_length_of_mem (cdL_all hm hc hs hx)
  rw [cdL_len hm hc hs] at hl
  exact hl
def cdN (m : PMp) (s i : Nat) : Nat := (cdL m s).idxOf (pX m ((cdL m s).getD i 0))
theorem cdV_N {m : PMp} (hm : PV m) (hc : Conn m) {s i : Nat} (hs : s < pN m) (hi : i < pN m) : cdV m s i = nI (cdN m s i) := by
  unfold cdV nmV
  rw [if_pos (cdL_all hm hc hs (hm.2.1.1 _ (cdl_lt hm hc hs hi)))]
  rfl
def cdM (m : PMp) : PMp := (m.1, 0, cdN m (pR m))
theorem cdN_perm {m : PMp} (hm : PV m) (hc : Conn m) {s : Nat} (hs : s < pN m) : PermOn (cdN m s) (pN m) := by
  refine ⟨fun i hi => cdl_il hm hc hs (hm.2.1.1 _ (cdl_lt hm hc hs hi)), fun i j hi hj e => ?_⟩
  have h1 := cdl_x hm hc hs (hm.2.1.1 _ (cdl_lt hm hc hs hi))
  have h2 := cdl_x hm hc hs (hm.2.1.1 _ (cdl_lt hm hc hs hj))
  have e' : (cdL m s).idxOf (pX m ((cdL m s).getD i 0)) = (cdL m s).idxOf (pX m ((cdL m s).getD j 0)) := e
  rw [e', h2] at h1
  have h3 := hm.2.1.2 _ _ (cdl_lt hm hc hs hj) (cdl_lt hm hc hs hi) h1
  rw [← cdl_i hm hc hs hi, ← cdl_i hm hc hs hj, h3]
theorem cdM_PV {m : PMp} (hm : PV m) (hc : Conn m) : PV (cdM m) := by
  refine ⟨hm.1, ?_, ?_⟩
  · by_cases h0 : m.1 = 0
    · have : pN (cdM m) = 0 := by show 2 * m.1 = 0; omega
      rw [this]
      exact ⟨fun x hx => absurd hx (Nat.not_lt_zero _), fun x y hx => absurd hx (Nat.not_lt_zero _)⟩
    · rcases rt_lt hm with q | q
      · exact cdN_perm hm hc q
      · exact absurd q.1 h0
  · show 0 < 2 * m.1 ∨ (m.1 = 0 ∧ 0 = 0)
    omega
/-- the next dart that stays; without an edge -/
def skp (m : PMp) (e x : Nat) : Nat := if pX m x / 2 = e then (if pX m (pX m x) / 2 = e then pX m (pX m (pX m x)) else pX m (pX m x)) else pX m x
def wo (e x : Nat) : Nat := if 2 * e < x then x - 2 else x
def wi (e y : Nat) : Nat := if 2 * e ≤ y then y + 2 else y
def del (m : PMp) (e : Nat) : PMp := (m.1 - 1, if m.1 = 1 then 0 else wo e (if m.2.1 / 2 = e then skp m e m.2.1 else m.2.1), fun y => wo e (skp m e (wi e y)))
theorem wi_ne (e y : Nat) : wi e y / 2 ≠ e := by unfold wi; split <;> omega
theorem wo_wi (e y : Nat) : wo e (wi e y) = y := by unfold wi wo; split <;> split <;> omega
theorem wi_wo {e x : Nat} (h : x / 2 ≠ e) : wi e (wo e x) = x := by unfold wi wo; split <;> split <;> omega
theorem wo_lt {e x n : Nat} (he : e < n) (h : x / 2 ≠ e) (hx : x < 2 * n) : wo e x < 2 * (n - 1) := by unfold wo; split <;> omega
theorem wi_lt {e y n : Nat} (hy : y < 2 * (n - 1)) : wi e y < 2 * n := by unfold wi; split <;> omega
theorem wo_inj {e x y : Nat} (hx : x / 2 ≠ e) (hy : y / 2 ≠ e) (h : wo e x = wo e y) : x = y := by rw [← wi_wo hx, ← wi_wo hy, h]
theorem two_in {e x y z : Nat} (hx : x / 2 = e) (hy : y / 2 = e) (hz : z / 2 = e) (hxy : x ≠ y) : z = x ∨ z = y := by omega
theorem skp_lt {m : PMp} (hm : PV m) {e x : Nat} (hx : x < pN m) : skp m e x < pN m := by
  have h := hm.2.1.1
  unfold skp
  split
  · split
    · exact h _ (h _ (h _ hx))
    · exact h _ (h _ hx)
  · exact h _ hx
/-- a dart that stays is followed by one that stays -/
theorem skp_ne {m : PMp} (hm : PV m) {e x : Nat} (hx : x < pN m) (he : x / 2 ≠ e) : skp m e x / 2 ≠ e := by
  have h := hm.2.1
  unfold skp
  by_cases h1 : pX m x / 2 = e
  · rw [if_pos h1]
    by_cases h2 : pX m (pX m x) / 2 = e
    · rw [if_pos h2]
      intro h3
      have n12 : pX m x ≠ pX m (pX m x) := fun z => by
        have := h.2 _ _ hx (h.1 _ hx) z
        exact he (by rw [this]; exact h1)
      rcases two_in h1 h2 h3 n12 with z | z
      · have := h.2 _ _ (h.1 _ (h.1 _ hx)) hx z
        exact he (by rw [← this]; exact h2)
      · have := h.2 _ _ (h.1 _ (h.1 _ hx)) (h.1 _ hx) z
        exact n12 this.symm
    · rw [if_neg h2]; exact h2
  · rw [if_neg h1]; exact h1
theorem skp_inj {m : PMp} (hm : PV m) {e x y : Nat} (hx : x < pN m) (hy : y < pN m) (hex : x / 2 ≠ e) (hey : y / 2 ≠ e) (h : skp m e x = skp m e y) : x = y := by
  have g := hm.2.1
  have inj : ∀ {a b : Nat}, a < pN m → b < pN m → pX m a = pX m b → a = b := fun ha hb => g.2 _ _ ha hb
  have l1x := g.1 _ hx
  have l1y := g.1 _ hy
  have l2x := g.1 _ l1x
  have l2y := g.1 _ l1y
  unfold skp at h
  by_cases h1 : pX m x / 2 = e
  · rw [if_pos h1] at h
    by_cases h2 : pX m (pX m x) / 2 = e
    · rw [if_pos h2] at h
      by_cases k1 : pX m y / 2 = e
      · rw [if_pos k1] at h
        by_cases k2 : pX m (pX m y) / 2 = e
        · rw [if_pos k2] at h
          exact inj hx hy (inj l1x l1y (inj l2x l2y h))
        · rw [if_neg k2] at h
          have := inj l1x hy (inj l2x l1y h)
          exact absurd (by rw [← this]; exact h1) hey
      · rw [if_neg k1] at h
        have := inj l2x hy h
        exact absurd (by rw [← this]; exact h2) hey
    · rw [if_neg h2] at h
      by_cases k1 : pX m y / 2 = e
      · rw [if_pos k1] at h
        by_cases k2 : pX m (pX m y) / 2 = e
        · rw [if_pos k2] at h
          have := inj hx l1y (inj l1x l2y h)
          exact absurd (by rw [this]; exact k1) hex
        · rw [if_neg k2] at h
          exact inj hx hy (inj l1x l1y h)
      · rw [if_neg k1] at h
        have := inj l1x hy h
        exact absurd (by rw [← this]; exact h1) hey
  · rw [if_neg h1] at h
    by_cases k1 : pX m y / 2 = e
    · rw [if_pos k1] at h
      by_cases k2 : pX m (pX m y) / 2 = e
      · rw [if_pos k2] at h
        have := inj hx l2y h
        exact absurd (by rw [this]; exact k2) hex
      · rw [if_neg k2] at h
        have := inj hx l1y h
        exact absurd (by rw [this]; exact k1) hex
    · rw [if_neg k1] at h
      exact inj hx hy h
/-- an edge between two faces: a root on it moves to a dart that stays -/
theorem skp_root {m : PMp} (hm : PV m) (hc : Conn m) {e x : Nat} (h2 : m.1 ≠ 1) (hx : x < pN m) (hex : x / 2 = e) (hf : pFo m x ≠ pFo m (ox x)) : skp m e x / 2 ≠ e := by
  have g := hm.2.1
  have hox := ox_lt (n := m.1) hx
  have eox : ox x / 2 = e := by unfold ox; split <;> omega
  have hne := ox_ne x
  have hF := pF_perm g
  have hst : ∀ y, y < pN m → pFo m (pF m y) = pFo m y := fun y hy => lbO_step hF hy
  have n1 : pX m x ≠ x := fun z => hf (by
    have := hst (ox x) hox
    rw [show pF m (ox x) = pX m (ox (ox x)) from rfl, ox_ox, z] at this
    exact this)
  have n2 : pX m (ox x) ≠ ox x := fun z => hf (by
    have := hst x hx
    rw [show pF m x = pX m (ox x) from rfl, z] at this
    exact this.symm)
  unfold skp
  by_cases h1 : pX m x / 2 = e
  · rw [if_pos h1]
    have e1 : pX m x = ox x := by
      rcases two_in hex eox h1 (Ne.symm hne) with z | z
      · exact absurd z n1
      · exact z
    rw [e1]
    by_cases h3 : pX m (ox x) / 2 = e
    · exfalso
      have e2 : pX m (ox x) = x := by
        rcases two_in hex eox h3 (Ne.symm hne) with z | z
        · exact z
        · exact absurd z n2
      -- the vertex has the edge's darts alone
      have hall := hc (fun z => z / 2 = e) (fun z hz hze => by
        rcases two_in hex eox hze (Ne.symm hne) with q | q
        · rw [q, e1]; exact eox
        · rw [q, e2]; exact hex) (fun z hz hze => by unfold ox; split <;> omega) x
      have hx' : x < 2 * m.1 := hx
      have a0 := hall 0 hx (by show 0 < 2 * m.1; omega) hex
      have a2 := hall (2 * m.1 - 1) hx (by show _ < 2 * m.1; omega) hex
      omega
    · rw [if_neg h3]; exact h3
  · rw [if_neg h1]; exact h1
theorem del_PV {m : PMp} (hm : PV m) (hc : Conn m) {x : Nat} (hx : x < pN m) (hf : pFo m x ≠ pFo m (ox x)) : PV (del m (x / 2)) := by
  have hx' : x < 2 * m.1 := hx
  have hE : m.1 ≤ 16 := hm.1
  refine ⟨by show m.1 - 1 ≤ 16; omega, ⟨fun y hy => ?_, fun y z hy hz e => ?_⟩, ?_⟩
  · have hw : wi (x / 2) y < pN m := wi_lt hy
    exact wo_lt (by omega) (skp_ne hm hw (wi_ne _ _)) (skp_lt hm hw)
  · have hw : wi (x / 2) y < pN m := wi_lt hy
    have hw2 : wi (x / 2) z < pN m := wi_lt hz
    have e1 := wo_inj (skp_ne hm hw (wi_ne _ _)) (skp_ne hm hw2 (wi_ne _ _)) e
    have e2 := skp_inj hm hw hw2 (wi_ne _ _) (wi_ne _ _) e1
    rw [← wo_wi (x / 2) y, ← wo_wi (x / 2) z, e2]
  · show (if m.1 = 1 then 0 else wo (x / 2) (if m.2.1 / 2 = x / 2 then skp m (x / 2) m.2.1 else m.2.1)) < 2 * (m.1 - 1) ∨ (m.1 - 1 = 0 ∧ (if m.1 = 1 then 0 else wo (x / 2) (if m.2.1 / 2 = x / 2 then skp m (x / 2) m.2.1 else m.2.1)) = 0)
    by_cases h1 : m.1 = 1
    · rw [if_pos h1]; right; exact ⟨by omega, rfl⟩
    · rw [if_neg h1]; left
      have hr : m.2.1 < pN m := by
        rcases hm.2.2 with q | q
        · exact q
        · omega
      by_cases h2 : m.2.1 / 2 = x / 2
      · rw [if_pos h2]
        have hf2 : pFo m m.2.1 ≠ pFo m (ox m.2.1) := by
          have : m.2.1 = x ∨ m.2.1 = ox x := by unfold ox; split <;> omega
          rcases this with q | q
          · rw [q]; exact hf
          · rw [q, ox_ox]; exact Ne.symm hf
        exact wo_lt (by omega) (skp_root hm hc h1 hr h2 hf2) (skp_lt hm hr)
      · rw [if_neg h2]
        exact wo_lt (by omega) h2 hr
/-! what a call does to the state -/
def setM (st : ST) (s : Nat) (m : PMp) : ST := (st.1, st.2.1, st.2.2.1, fun i => if i = s then m else st.2.2.2 i)
def setT (st : ST) (s : Nat) (t : PTr) : ST := (st.1, st.2.1, (fun i => if i = s then t else st.2.2.1 i), st.2.2.2)
def keep (st : ST) (s : Nat) (m : PMp) : Int32 × ST := (nI (pE m), setM st s m)
noncomputable def chg (m : PMp) (w d : Int32) : Option PMp := if w = 0 then some m else if w = 1 then some (mir m) else if w = 2 then some (dual m) else if w = 3 then some (cdM m) else if w = 4 then cIf (vp_in d (pN m)) (some (m.1, d.toNatClampNeg, m.2.2)) none else if w = 5 then cIf (vp_in d (pN m) ∧ pFo m d.toNatClampNeg ≠ pFo m (ox d.toNatClampNeg)) (some (del m (d.toNatClampNeg / 2))) none else none
def okp (st : ST) (s : Nat) (o : Option PMp) : Int32 × ST := match o with
  | some m => keep st s m
  | none => (-1, st)
noncomputable def oChange (st : ST) (x w d y : Int32) : Int32 × ST := cIf (vp_in x 4 ∧ vp_in y 4) (okp st y.toNatClampNeg (chg (sM st x.toNatClampNeg) w d)) (-1, st)
