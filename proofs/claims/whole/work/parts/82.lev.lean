/-! PURE: distances as levels; the tree of a map with faces of four sides -/
section LEV
variable {m : PMp} {w : Nat}
theorem rch_dst (hm : PV m) (hc : Conn m) (hw : w < pVn m) {v : Nat} (hv : v < pVn m) : rch m w (dst m w v) v = true := by
  have key : ∀ j, dst m w v + j ≤ pVn m → rch m w (dst m w v + j) v = true → rch m w (dst m w v) v = true := by
    intro j
    induction j with
    | zero => intro _ h; exact h
    | succ j ih =>
      intro hj h
      have e : dsA m w (dst m w v + (j + 1)) v = dst m w v := (dsA_st hj h).symm
      exact ih (by omega) (dsA_lt h (by rw [e]; omega))
  have hd := dst_le m w v
  exact key (pVn m - dst m w v) (by omega) (by rw [show dst m w v + (pVn m - dst m w v) = pVn m by omega]; exact conn_rch hm hc hw hv)
theorem dst_of {t v : Nat} (h : rch m w t v = true) : dst m w v ≤ t := by
  by_cases q : t ≤ pVn m
  · have : dst m w v = dsA m w t v := dsA_st q h
    have := dsA_le m w t v
    omega
  · have := dst_le m w v
    omega
theorem dst_w : dst m w w = 0 := Nat.le_zero.mp (dst_of (t := 0) (by show decide (w = w) = true; simp))
theorem dst_0 (hm : PV m) (hc : Conn m) (hw : w < pVn m) {v : Nat} (hv : v < pVn m) (h : dst m w v = 0) : v = w := by
  have := rch_dst hm hc hw hv
  rw [h] at this
  exact of_decide_eq_true this
def lv (m : PMp) (w x : Nat) : Nat := dst m w (pVo m x)
theorem lv_adj (hm : PV m) (hc : Conn m) (hw : w < pVn m) {x : Nat} (hx : x < pN m) : lv m w (ox x) ≤ lv m w x + 1 :=
  dst_of (rch_adj hx (rch_dst hm hc hw (pVo_ltV hm hx)))
/-- levels of the two ends of an edge differ by one -/
theorem lv_one (hm : PV m) (hc : Conn m) (hw : w < pVn m) (h2 : ∀ x, x < pN m → evB m w x ≠ evB m w (ox x)) {x : Nat} (hx : x < pN m) : lv m w (ox x) = lv m w x + 1 ∨ lv m w x = lv m w (ox x) + 1 := by
  have a := lv_adj hm hc hw hx
  have b := lv_adj hm hc hw (ox_lt hx)
  rw [ox_ox] at b
  have c := h2 x hx
  unfold evB at c
  have c' : ¬ (lv m w x % 2 = 0 ↔ lv m w (ox x) % 2 = 0) := fun e => c (decide_eq_decide.mpr e)
  omega
theorem lv_X (hm : PV m) {x : Nat} (hx : x < pN m) : lv m w (pX m x) = lv m w x := by
  unfold lv
  rw [show pVo m (pX m x) = pVo m x from lbO_step hm.2.1 hx]
theorem lv_F (hm : PV m) {x : Nat} (hx : x < pN m) : lv m w (pF m x) = lv m w (ox x) := lv_X hm (ox_lt hx)
theorem lv_dn (hm : PV m) (hc : Conn m) (hw : w < pVn m) {v : Nat} (hv : v < pVn m) (hne : v ≠ w) : ∃ x, x < pN m ∧ pVo m x = v ∧ lv m w (ox x) < lv m w x := by
  have h1 := rch_dst hm hc hw hv
  cases q : dst m w v with
  | zero => exact absurd (dst_0 hm hc hw hv q) hne
  | succ k =>
    rw [q] at h1
    have h1' : (rch m w k v || anB (fun d => rch m w k (pVo m d) && decide (pVo m (ox d) = v)) (pN m)) = true := h1
    rw [Bool.or_eq_true] at h1'
    rcases h1' with h | h
    · have := dst_of h; omega
    · obtain ⟨x, hx, e⟩ := anB_iff.mp h
      rw [Bool.and_eq_true] at e
      have e2 : pVo m (ox x) = v := of_decide_eq_true e.2
      have e1 := dst_of e.1
      refine ⟨ox x, ox_lt hx, e2, ?_⟩
      rw [ox_ox]
      unfold lv
      rw [e2, q]; omega
def dnB (m : PMp) (w x : Nat) : Bool := decide (lv m w (ox x) < lv m w x)
def oeK (m : PMp) (w : Nat) : Nat → Nat → Nat
  | 0, a => a
  | k + 1, a => if dnB m w a = true then oeK m w k (pF m a) else a
def oe (m : PMp) (w x : Nat) : Nat := ox (oeK m w 4 (pF m (ox x)))
def ndK (m : PMp) (w : Nat) : Nat → Nat → Nat
  | 0, a => a
  | k + 1, a => if dnB m w a = true then a else ndK m w k (pX m a)
def rhM (m : PMp) (w x : Nat) : Nat := ndK m w 32 (pX m x)
def Hd (m : PMp) (w x : Nat) : Bool := decide (x < pN m) && dnB m w x
def Uv (m : PMp) (w v : Nat) : Bool := decide (v < pVn m) && decide (v ≠ w)
def kpF (m : PMp) (x : Nat) : Nat := pFo m (ox x)
theorem Hd_iff {x : Nat} : Hd m w x = true ↔ x < pN m ∧ lv m w (ox x) < lv m w x := by
  unfold Hd dnB
  rw [Bool.and_eq_true, decide_eq_true_eq, decide_eq_true_eq]
theorem dn_iff {x : Nat} : dnB m w x = true ↔ lv m w (ox x) < lv m w x := by unfold dnB; rw [decide_eq_true_eq]
theorem ndK_sp : ∀ K a k, k < K → dnB m w (it (pX m) k a) = true → (∀ j, j < k → ¬ dnB m w (it (pX m) j a) = true) → ndK m w K a = it (pX m) k a
  | 0, _, k, h, _, _ => absurd h (Nat.not_lt_zero k)
  | K + 1, a, 0, _, h2, _ => if_pos h2
  | K + 1, a, k + 1, h1, h2, h3 => by
    show (if dnB m w a = true then a else ndK m w K (pX m a)) = _
    rw [if_neg (show ¬ dnB m w a = true from h3 0 (by omega))]
    exact ndK_sp K (pX m a) k (by omega) h2 (fun j hj => h3 (j + 1) (by omega))
/-- the next dart down, round the vertex -/
theorem rh_sp (hm : PV m) {x : Nat} (hx : Hd m w x = true) : ∃ k, rhM m w x = it (pX m) (k + 1) x ∧ Hd m w (rhM m w x) = true ∧ ∀ j, j < k → ¬ dnB m w (it (pX m) (j + 1) x) = true := by
  obtain ⟨hxN, hl⟩ := Hd_iff.mp hx
  obtain ⟨p, p0, pN', hp⟩ := period hm.2.1 hxN
  have hN := MV_N hm
  have hd : dnB m w (it (pX m) (p - 1) (pX m x)) = true := by
    have : it (pX m) (p - 1 + 1) x = x := by rw [show p - 1 + 1 = p by omega]; exact hp
    rw [show it (pX m) (p - 1) (pX m x) = x from this]
    exact dn_iff.mpr hl
  obtain ⟨k, h1, h2⟩ := least_p (P := fun k => dnB m w (it (pX m) k (pX m x)) = true) (p - 1) hd
  have hk : k ≤ p - 1 := by
    by_cases q : k ≤ p - 1
    · exact q
    · exact absurd hd (h2 (p - 1) (by omega))
  have e : rhM m w x = it (pX m) k (pX m x) := ndK_sp 32 (pX m x) k (by omega) h1 h2
  refine ⟨k, e, ?_, h2⟩
  rw [e]
  exact Hd_iff.mpr ⟨it_lt hm.2.1.1 k _ (hm.2.1.1 _ hxN), dn_iff.mp h1⟩
theorem it_vo (hm : PV m) {x : Nat} (hx : x < pN m) (k : Nat) : pVo m (it (pX m) k x) = pVo m x := ((lbO_eq hm.2.1 hx (it_lt hm.2.1.1 k x hx)).mpr ⟨k, rfl⟩).symm
theorem rh_inj (hm : PV m) {x y : Nat} (hx : Hd m w x = true) (hy : Hd m w y = true) (e : rhM m w x = rhM m w y) : x = y := by
  obtain ⟨i, i1, -, i3⟩ := rh_sp hm hx
  obtain ⟨j, j1, -, j3⟩ := rh_sp hm hy
  obtain ⟨hxN, hxl⟩ := Hd_iff.mp hx
  obtain ⟨hyN, hyl⟩ := Hd_iff.mp hy
  rw [i1, j1] at e
  have main : ∀ {x y i j : Nat}, x < pN m → y < pN m → dnB m w x = true → it (pX m) (i + 1) x = it (pX m) (j + 1) y → i ≤ j → (∀ k, k < j → ¬ dnB m w (it (pX m) (k + 1) y) = true) → x = y := fun {x y i j} hx hy hd e hij h => by
    have e2 : it (pX m) (j + 1) y = it (pX m) (i + 1) (it (pX m) (j - i) y) := by rw [← it_add]; congr 1; omega
    rw [e2] at e
    have e3 := it_inj hm.2.1 (i + 1) _ _ hx (it_lt hm.2.1.1 _ _ hy) e
    by_cases q : j - i = 0
    · rw [q] at e3; exact e3
    · exfalso
      refine h (j - i - 1) (by omega) ?_
      rw [show j - i - 1 + 1 = j - i by omega, ← e3]
      exact hd
  by_cases q : i ≤ j
  · exact main hxN hyN (dn_iff.mpr hxl) e q j3
  · exact (main hyN hxN (dn_iff.mpr hyl) e.symm (by omega) i3).symm
theorem rh_orb (hm : PV m) : ∀ k {x y : Nat}, Hd m w x = true → Hd m w y = true → it (pX m) k x = y → Orb (rhM m w) x y := by
  intro k
  induction k using Nat.strongRecOn with
  | _ k ih =>
    intro x y hx hy e
    by_cases q : k = 0
    · subst q; exact ⟨0, e⟩
    · obtain ⟨i, i1, i2, i3⟩ := rh_sp hm hx
      have hi : i ≤ k - 1 := by
        by_cases w' : i ≤ k - 1
        · exact w'
        · refine absurd ?_ (i3 (k - 1) (by omega))
          rw [show k - 1 + 1 = k by omega, e]
          exact dn_iff.mpr (Hd_iff.mp hy).2
      have e2 : it (pX m) (k - (i + 1)) (rhM m w x) = y := by
        rw [i1, ← it_add, ← e]; congr 1; omega
      exact Orb_trans (Orb_step _ _) (ih (k - (i + 1)) (by omega) i2 hy e2)
/-- the four sides of a face, from one that goes up -/
theorem four (hm : PV m) (hc : Conn m) (hw : w < pVn m) (h4 : fr4 m = true) (h2 : ∀ x, x < pN m → evB m w x ≠ evB m w (ox x)) {u : Nat} (hu : u < pN m) (hup : ¬ dnB m w u = true) :
    ∃ k, 1 ≤ k ∧ k ≤ 3 ∧ oeK m w 4 (pF m u) = it (pF m) k u ∧ ¬ dnB m w (it (pF m) k u) = true ∧ (∀ j, 1 ≤ j → j ≤ 3 → ¬ dnB m w (it (pF m) j u) = true → j = k) ∧ (lv m w (ox (it (pF m) k u)) = lv m w (ox u) ∨ lv m w (ox (it (pF m) k u)) = lv m w (ox u) + 1 ∨ lv m w (ox (it (pF m) k u)) + 1 = lv m w (ox u)) := by
  have hF := pF_perm hm.2.1
  obtain ⟨-, hp, -⟩ := pF_per hm hu
  rw [fr4_d h4 (pFo_ltF hm hu)] at hp
  have u1 := hF.1 _ hu
  have u2 := hF.1 _ u1
  have u3 := hF.1 _ u2
  have e4 : pF m (pF m (pF m (pF m u))) = u := hp
  have l1 := lv_F (w := w) hm hu
  have l2 := lv_F (w := w) hm u1
  have l3 := lv_F (w := w) hm u2
  have l4 := lv_F (w := w) hm u3
  rw [e4] at l4
  have o0 := lv_one hm hc hw h2 hu
  have o1 := lv_one hm hc hw h2 u1
  have o2 := lv_one hm hc hw h2 u2
  have o3 := lv_one hm hc hw h2 u3
  have d0 : ¬ lv m w (ox u) < lv m w u := fun z => hup (dn_iff.mpr z)
  have it1 : it (pF m) 1 u = pF m u := rfl
  have it2 : it (pF m) 2 u = pF m (pF m u) := rfl
  have it3 : it (pF m) 3 u = pF m (pF m (pF m u)) := rfl
  have pick : ∀ j, 1 ≤ j → j ≤ 3 → j = 1 ∨ j = 2 ∨ j = 3 := fun j a b => by omega
  by_cases q1 : dnB m w (pF m u) = true
  · have d1 := dn_iff.mp q1
    by_cases q2 : dnB m w (pF m (pF m u)) = true
    · have d2 := dn_iff.mp q2
      have q3 : ¬ dnB m w (pF m (pF m (pF m u))) = true := fun z => by have := dn_iff.mp z; omega
      have d3 : ¬ lv m w (ox (pF m (pF m (pF m u)))) < lv m w (pF m (pF m (pF m u))) := fun z => q3 (dn_iff.mpr z)
      refine ⟨3, by omega, by omega, ?_, by rw [it3]; exact q3, fun j a b c => ?_, by rw [it3]; omega⟩
      · rw [it3]
        unfold oeK; rw [if_pos q1]
        unfold oeK; rw [if_pos q2]
        unfold oeK; rw [if_neg q3]
      · rcases pick j a b with rfl | rfl | rfl
        · exact absurd q1 c
        · exact absurd q2 c
        · rfl
    · have d2 : ¬ lv m w (ox (pF m (pF m u))) < lv m w (pF m (pF m u)) := fun z => q2 (dn_iff.mpr z)
      refine ⟨2, by omega, by omega, ?_, by rw [it2]; exact q2, fun j a b c => ?_, by rw [it2]; omega⟩
      · rw [it2]
        unfold oeK; rw [if_pos q1]
        unfold oeK; rw [if_neg q2]
      · rcases pick j a b with rfl | rfl | rfl
        · exact absurd q1 c
        · rfl
        · exfalso
          have d3 : ¬ lv m w (ox (pF m (pF m (pF m u)))) < lv m w (pF m (pF m (pF m u))) := fun z => c (dn_iff.mpr z)
          omega
  · have d1 : ¬ lv m w (ox (pF m u)) < lv m w (pF m u) := fun z => q1 (dn_iff.mpr z)
    refine ⟨1, by omega, by omega, ?_, by rw [it1]; exact q1, fun j a b c => ?_, by rw [it1]; omega⟩
    · rw [it1]
      unfold oeK; rw [if_neg q1]
    · rcases pick j a b with rfl | rfl | rfl
      · rfl
      · exfalso
        have d2 : ¬ lv m w (ox (pF m (pF m u))) < lv m w (pF m (pF m u)) := fun z => c (dn_iff.mpr z)
        omega
      · exfalso
        have d3 : ¬ lv m w (ox (pF m (pF m (pF m u)))) < lv m w (pF m (pF m (pF m u))) := fun z => c (dn_iff.mpr z)
        omega
end LEV
