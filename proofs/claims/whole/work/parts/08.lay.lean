/-! THE LAYOUT: which cell is what, once both objects are made; rows over numbers -/
def SH0 (k : Nat) : Nat × Nat :=
  bif Nat.blt k 64 then
    (bif Nat.blt k 18 then
      (match k with
        | 1 => (19, 0)
        | 2 => (1, 300)
        | 3 => (3, 3)
        | 4 => (4, 4)
        | 5 => (14, 0)
        | 12 => (13, 0)
        | 15 => (15, 0)
        | 16 => (17, 0)
        | 17 => (1, 128)
        | 0 => (0, 0)
        | _ => (1, 32))
    else bif Nat.blt k 35 then
      (match k with
        | 18 => (10, 0)
        | 19 => (6, 15)
        | _ => (2, 29))
    else bif Nat.blt k 54 then
      (match k with
        | 35 => (16, 0)
        | 36 => (5, 17)
        | _ => (1, 18))
    else
      (match k with
        | 54 => (11, 0)
        | 56 => (15, 0)
        | 57 => (12, 0)
        | _ => (1, 32)))
  else bif Nat.blt k 82 then
    (match k with
      | 64 => (18, 0)
      | 65 => (1, 16)
      | 66 => (1, 9)
      | 67 => (1, 9)
      | 68 => (1, 16)
      | 69 => (1, 16)
      | 70 => (18, 0)
      | 71 => (1, 16)
      | 72 => (1, 9)
      | 73 => (1, 9)
      | 74 => (1, 16)
      | 75 => (1, 16)
      | 76 => (18, 0)
      | 77 => (1, 16)
      | 78 => (1, 9)
      | 79 => (1, 9)
      | 80 => (1, 16)
      | _ => (1, 16))
  else bif Nat.blt k 110 then
    (match k with
      | 82 => (14, 0)
      | 89 => (14, 0)
      | 96 => (14, 0)
      | 103 => (14, 0)
      | _ => (1, 32))
  else bif Nat.blt k 130 then
    (match k with
      | 110 => (20, 0)
      | 111 => (1, 160)
      | 112 => (1, 5)
      | 113 => (1, 5)
      | 116 => (1, 64)
      | 118 => (2, 435)
      | 119 => (1, 3)
      | 120 => (1, 48)
      | 121 => (1, 27)
      | 122 => (1, 9)
      | 123 => (1, 16)
      | 125 => (1, 300)
      | 128 => (1, 64)
      | 129 => (1, 200)
      | _ => (1, 32))
  else (0, 0)
abbrev E0 (L : Nat) (xs : Nat → Int32) : EN := (130, SH0, L, xs)
theorem E0_wf (L : Nat) (xs : Nat → Int32) : wfE (E0 L xs) := by
  intro k hk
  constructor
  · cases k with
    | zero => exact absurd rfl hk
    | succ k => exact Nat.succ_pos k
  · show k < 130
    rcases Nat.lt_or_ge k 130 with h | h
    · exact h
    · exfalso
      apply hk
      show (SH0 k).1 = 0
      have hb : ∀ n, n ≤ 130 → Nat.blt k n = false := fun n hn => by
        cases hq : Nat.blt k n with
        | false => rfl
        | true => exact absurd (Nat.le_of_ble_eq_true hq) (by omega)
      unfold SH0
      rw [hb 64 (by decide), hb 82 (by decide), hb 110 (by decide), hb 130 (by decide)]
      rfl
def isRM (E : EN) (a : Nat) : Prop := (shp E a).1 = 4 + 10 ∧ shp E (a + 1) = (1, 32) ∧ shp E (a + 2) = (1, 32) ∧ shp E (a + 3) = (1, 32) ∧ shp E (a + 4) = (1, 32) ∧ shp E (a + 5) = (1, 32) ∧ shp E (a + 6) = (1, 32)
def isTR (E : EN) (a : Nat) : Prop := (shp E a).1 = 8 + 10 ∧ shp E (a + 1) = (1, 16) ∧ shp E (a + 2) = (1, 9) ∧ shp E (a + 3) = (1, 9) ∧ shp E (a + 4) = (1, 16) ∧ shp E (a + 5) = (1, 16)
def isRK (E : EN) (a : Nat) : Prop := (shp E a).1 = 5 + 10
section RN
variable {E : EN} {d : Nat} {μ : MR} {pc : Nat} {lv st : List Value} {M : ME} {R : Option Value → ME → Prop}
theorem r_ial (j : Nat) {a n : Nat} {i : Int32} (h : (mI μ) pc = (.iaload, 1)) (hs : shp E a = (1, n)) (hn : n < 2 ^ 31) (e : i = nI j) (hl : j < n) (k : Wp E d μ (pc + 1) lv (.int (gI M a j) :: st) M R) : Wp E d μ pc lv (.int i :: .ref a :: st) M R := by
  subst e
  refine r_iald h hs (vp_in_nI hl hn) ?_
  rw [nI_clamp (by omega)]
  exact k
theorem r_lal (j : Nat) {a n : Nat} {i : Int32} (h : (mI μ) pc = (.laload, 1)) (hs : shp E a = (2, n)) (hn : n < 2 ^ 31) (e : i = nI j) (hl : j < n) (k : Wp E d μ (pc + 1) lv (.long (gL M a j) :: st) M R) : Wp E d μ pc lv (.int i :: .ref a :: st) M R := by
  subst e
  refine r_lald h hs (vp_in_nI hl hn) ?_
  rw [nI_clamp (by omega)]
  exact k
theorem r_ias (j : Nat) {a n : Nat} {i x : Int32} (h : (mI μ) pc = (.iastore, 1)) (hs : shp E a = (1, n)) (hn : n < 2 ^ 31) (e : i = nI j) (hl : j < n) (k : Wp E d μ (pc + 1) lv st (sI M a j x) R) : Wp E d μ pc lv (.int x :: .int i :: .ref a :: st) M R := by
  subst e
  refine r_iast h hs (vp_in_nI hl hn) ?_
  rw [nI_clamp (by omega)]
  exact k
theorem r_las (j : Nat) {a n : Nat} {i : Int32} {x : Int64} (h : (mI μ) pc = (.lastore, 1)) (hs : shp E a = (2, n)) (hn : n < 2 ^ 31) (e : i = nI j) (hl : j < n) (k : Wp E d μ (pc + 1) lv st (sL M a j x) R) : Wp E d μ pc lv (.long x :: .int i :: .ref a :: st) M R := by
  subst e
  refine r_last h hs (vp_in_nI hl hn) ?_
  rw [nI_clamp (by omega)]
  exact k
theorem r_aal3 (j : Nat) {a n : Nat} {i : Int32} (h : (mI μ) pc = (.aaload, 1)) (hs : shp E a = (3, n)) (hn : n < 2 ^ 31) (e : i = nI j) (hl : j < n) (h0 : gR M a j ≠ 0) (k : Wp E d μ (pc + 1) lv (.ref (gR M a j) :: st) M R) : Wp E d μ pc lv (.int i :: .ref a :: st) M R := by
  subst e
  have hc := nI_clamp (n := j) (by omega)
  refine r_aald3 h hs (vp_in_nI hl hn) (by rw [hc]; exact h0) ?_
  rw [hc]
  exact k
theorem r_aal4 (j : Nat) {a n : Nat} {i : Int32} (h : (mI μ) pc = (.aaload, 1)) (hs : shp E a = (4, n)) (hn : n < 2 ^ 31) (e : i = nI j) (hl : j < n) (h0 : gR M a j ≠ 0) (k : Wp E d μ (pc + 1) lv (.ref (gR M a j) :: st) M R) : Wp E d μ pc lv (.int i :: .ref a :: st) M R := by
  subst e
  have hc := nI_clamp (n := j) (by omega)
  refine r_aald4 h hs (vp_in_nI hl hn) (by rw [hc]; exact h0) ?_
  rw [hc]
  exact k
theorem r_aal5 (j : Nat) {a n : Nat} {i : Int32} (h : (mI μ) pc = (.aaload, 1)) (hs : shp E a = (5, n)) (hn : n < 2 ^ 31) (e : i = nI j) (hl : j < n) (k : Wp E d μ (pc + 1) lv (.ref (a + 1 + j) :: st) M R) : Wp E d μ pc lv (.int i :: .ref a :: st) M R := by
  subst e
  refine r_aald5 h hs (vp_in_nI hl hn) ?_
  rw [nI_clamp (by omega)]
  exact k
theorem r_aal6 (j : Nat) {a n : Nat} {i : Int32} (h : (mI μ) pc = (.aaload, 1)) (hs : shp E a = (6, n)) (hn : n < 2 ^ 31) (e : i = nI j) (hl : j < n) (k : Wp E d μ (pc + 1) lv (.ref (a + 1 + j) :: st) M R) : Wp E d μ pc lv (.int i :: .ref a :: st) M R := by
  subst e
  refine r_aald6 h hs (vp_in_nI hl hn) ?_
  rw [nI_clamp (by omega)]
  exact k
theorem r_aas4 (j : Nat) {a n x : Nat} {i : Int32} (h : (mI μ) pc = (.aastore, 1)) (hs : shp E a = (4, n)) (hn : n < 2 ^ 31) (e : i = nI j) (hl : j < n) (hv : isRM E x) (k : Wp E d μ (pc + 1) lv st (sR M a j x) R) : Wp E d μ pc lv (.ref x :: .int i :: .ref a :: st) M R := by
  subst e
  refine r_aast4 h hs (vp_in_nI hl hn) hv.1 ?_
  rw [nI_clamp (by omega)]
  exact k
theorem r_scr (j : Nat) {z : Nat} {i : Int32} (h : (mI μ) pc = (.iaload, 1)) (hn : E.2.2.1 < 2 ^ 31) (e : i = nI j) (hl : j < E.2.2.1) (k : Wp E d μ (pc + 1) lv (.int (E.2.2.2 j) :: st) M R) : Wp E d μ pc lv (.int i :: .retAddr z :: st) M R := by
  subst e
  refine r_sld h (vp_in_nI hl hn) ?_
  rw [nI_clamp (by omega)]
  exact k
end RN
/-! contracts by the answer's type -/
def EvI (E : EN) (d : Nat) (μ : MR) (as : List Value) (M : ME) (R : Int32 → ME → Prop) : Prop := Ev E d μ as M (fun v M' => ∃ r, v = some (.int r) ∧ R r M')
def EvL (E : EN) (d : Nat) (μ : MR) (as : List Value) (M : ME) (R : Int64 → ME → Prop) : Prop := Ev E d μ as M (fun v M' => ∃ r, v = some (.long r) ∧ R r M')
def EvV (E : EN) (d : Nat) (μ : MR) (as : List Value) (M : ME) (R : ME → Prop) : Prop := Ev E d μ as M (fun v M' => v = none ∧ R M')
theorem EvI_post {E : EN} {d : Nat} {μ : MR} {as : List Value} {M : ME} {R R' : Int32 → ME → Prop} (h : EvI E d μ as M R) (hr : ∀ v M', R v M' → R' v M') : EvI E d μ as M R' := Ev_post h (fun _ M' ⟨r, e, q⟩ => ⟨r, e, hr r M' q⟩)
theorem EvL_post {E : EN} {d : Nat} {μ : MR} {as : List Value} {M : ME} {R R' : Int64 → ME → Prop} (h : EvL E d μ as M R) (hr : ∀ v M', R v M' → R' v M') : EvL E d μ as M R' := Ev_post h (fun _ M' ⟨r, e, q⟩ => ⟨r, e, hr r M' q⟩)
theorem EvV_post {E : EN} {d : Nat} {μ : MR} {as : List Value} {M : ME} {R R' : ME → Prop} (h : EvV E d μ as M R) (hr : ∀ M', R M' → R' M') : EvV E d μ as M R' := Ev_post h (fun _ M' ⟨e, q⟩ => ⟨e, hr M' q⟩)
section RT
variable {E : EN} {d : Nat} {μ μ' : MR} {pc : Nat} {lv st stk as : List Value} {M : ME} {R : Option Value → ME → Prop}
theorem r_cVi {a idx ci n : Nat} {R' : Int32 → ME → Prop} (h : (mI μ) pc = (.invokevirtual idx, 3)) (lk : LkV (mO μ) idx ci μ' n) (hn : as.length = n) (hst : as.reverse ++ .ref a :: st = stk) (hs : (shp E a).1 = ci + 10) (hcat : (st.map fun v => v.category).sum ≤ 8) (ev : EvI E d μ' (.ref a :: as) M R') (k : ∀ r M', R' r M' → Wp E (d + 1) μ (pc + 3) lv (.int r :: st) M' R) : Wp E (d + 1) μ pc lv stk M R :=
  r_cV h lk hn hst hs hcat ev (fun _ M' ⟨r, e, q⟩ => by subst e; exact k r M' q)
theorem r_cVl {a idx ci n : Nat} {R' : Int64 → ME → Prop} (h : (mI μ) pc = (.invokevirtual idx, 3)) (lk : LkV (mO μ) idx ci μ' n) (hn : as.length = n) (hst : as.reverse ++ .ref a :: st = stk) (hs : (shp E a).1 = ci + 10) (hcat : (st.map fun v => v.category).sum ≤ 8) (ev : EvL E d μ' (.ref a :: as) M R') (k : ∀ r M', R' r M' → Wp E (d + 1) μ (pc + 3) lv (.long r :: st) M' R) : Wp E (d + 1) μ pc lv stk M R :=
  r_cV h lk hn hst hs hcat ev (fun _ M' ⟨r, e, q⟩ => by subst e; exact k r M' q)
theorem r_cVv {a idx ci n : Nat} {R' : ME → Prop} (h : (mI μ) pc = (.invokevirtual idx, 3)) (lk : LkV (mO μ) idx ci μ' n) (hn : as.length = n) (hst : as.reverse ++ .ref a :: st = stk) (hs : (shp E a).1 = ci + 10) (hcat : (st.map fun v => v.category).sum ≤ 8) (ev : EvV E d μ' (.ref a :: as) M R') (k : ∀ M', R' M' → Wp E (d + 1) μ (pc + 3) lv st M' R) : Wp E (d + 1) μ pc lv stk M R :=
  r_cV h lk hn hst hs hcat ev (fun _ M' ⟨e, q⟩ => by subst e; exact k M' q)
theorem r_cSi {idx n : Nat} {R' : Int32 → ME → Prop} (h : (mI μ) pc = (.invokestatic idx, 3)) (lk : LkS (mO μ) idx μ' n) (hn : as.length = n) (hst : as.reverse ++ st = stk) (hcat : (st.map fun v => v.category).sum ≤ 8) (ev : EvI E d μ' as M R') (k : ∀ r M', R' r M' → Wp E (d + 1) μ (pc + 3) lv (.int r :: st) M' R) : Wp E (d + 1) μ pc lv stk M R :=
  r_cS h lk hn hst hcat ev (fun _ M' ⟨r, e, q⟩ => by subst e; exact k r M' q)
theorem r_cSv {idx n : Nat} {R' : ME → Prop} (h : (mI μ) pc = (.invokestatic idx, 3)) (lk : LkS (mO μ) idx μ' n) (hn : as.length = n) (hst : as.reverse ++ st = stk) (hcat : (st.map fun v => v.category).sum ≤ 8) (ev : EvV E d μ' as M R') (k : ∀ M', R' M' → Wp E (d + 1) μ (pc + 3) lv st M' R) : Wp E (d + 1) μ pc lv stk M R :=
  r_cS h lk hn hst hcat ev (fun _ M' ⟨e, q⟩ => by subst e; exact k M' q)
theorem r_max {x y : Int32} {idx : Nat} (h : (mI μ) pc = (.invokestatic idx, 3)) (h1 : Cond.methodLink (mO μ) idx Lib.Math.max.name ∈ TB) (h2 : Cond.static Lib.Math.max.name ∈ TB) (h3 : Cond.initialized "java/lang/Math" ∈ TB) (h4 : Cond.code Lib.Math.max.name Lib.Math.max.code 2 (some .int) ∈ TB) (hcat : (st.map fun v => v.category).sum ≤ 8) (k : Wp E (d + 1) μ (pc + 3) lv (.int (if x < y then y else x) :: st) M R) : Wp E (d + 1) μ pc lv (.int y :: .int x :: st) M R := by
  intro G l p e Rm s m args below meth c H locs cells slots Q ls C P S L K
  obtain ⟨hx, hb, hml, ho, ht, hK, hrm, hw, hlt, hX, O⟩ := id C
  exact va_mmax hx hb (by rw [hml]; exact L.1.symm) ho (ht _ h1) (ht _ h2) (ht _ h3) (ht _ h4) (by have := hrm.1; omega) (by rw [cat_map]; have := hrm.2.1; omega) hrm.2.2.1 hrm.2.2.2 (O.d h) (k G l p e Rm s m args below meth c H locs cells slots Q ls C P S L K)
end RT
