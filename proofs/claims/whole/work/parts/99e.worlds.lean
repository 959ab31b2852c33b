/-! the worlds on the way: the first n cells of the layout; those of rs are being made -/
def shW (n : Nat) (rs : List Nat) (k : Nat) : Nat × Nat := if k < n then (if k ∈ rs then ((SH0 k).1 + 20, 0) else SH0 k) else (0, 0)
def Wd (L : Nat) (xs : Nat → Int32) (n : Nat) (rs : List Nat) : EN := (n, shW n rs, L, xs)
def rsOK (rs : List Nat) : Prop := ∀ k ∈ rs, 10 ≤ (SH0 k).1 ∧ (SH0 k).1 < 30 ∧ (SH0 k).2 = 0
/-- from the cell n on all is 0 -/
def Zr (n : Nat) (M : ME) : Prop := ∀ k, n ≤ k → ∀ j, M.1 k j = 0 ∧ M.2.1 k j = 0 ∧ M.2.2 k j = 0
/-- nothing but the cells from a to b - 1 has changed -/
def FrX (a b : Nat) (M M' : ME) : Prop := ∀ k, (k < a ∨ b ≤ k) → M'.1 k = M.1 k ∧ M'.2.1 k = M.2.1 k ∧ M'.2.2 k = M.2.2 k
theorem FrX_refl {a b : Nat} (M : ME) : FrX a b M M := fun _ _ => ⟨rfl, rfl, rfl⟩
theorem FrX_trans {a b : Nat} {M M1 M2 : ME} (h1 : FrX a b M M1) (h2 : FrX a b M1 M2) : FrX a b M M2 := fun k hk => ⟨(h2 k hk).1.trans (h1 k hk).1, (h2 k hk).2.1.trans (h1 k hk).2.1, (h2 k hk).2.2.trans (h1 k hk).2.2⟩
theorem FrX_in {a b a' b' : Nat} {M M1 : ME} (h1 : FrX a b M M1) (ha : a' ≤ a) (hb : b ≤ b') : FrX a' b' M M1 := fun k hk => h1 k (by omega)
theorem FrX_sI {a b k j : Nat} {x : Int32} {M M' : ME} (h : FrX a b M M') (ha : a ≤ k) (hb : k < b) : FrX a b M (sI M' k j x) := fun q hq => ⟨(up2_ne (by omega)).trans (h q hq).1, (h q hq).2⟩
theorem FrX_sL {a b k j : Nat} {x : Int64} {M M' : ME} (h : FrX a b M M') (ha : a ≤ k) (hb : k < b) : FrX a b M (sL M' k j x) := fun q hq => ⟨(h q hq).1, (up2_ne (by omega)).trans (h q hq).2.1, (h q hq).2.2⟩
theorem FrX_sR {a b k j x : Nat} {M M' : ME} (h : FrX a b M M') (ha : a ≤ k) (hb : k < b) : FrX a b M (sR M' k j x) := fun q hq => ⟨(h q hq).1, (h q hq).2.1, (up2_ne (by omega)).trans (h q hq).2.2⟩
theorem Zr_mono {n n' : Nat} {M : ME} (h : Zr n M) (hn : n ≤ n') : Zr n' M := fun k hk => h k (by omega)
theorem Zr_sI {n k j : Nat} {x : Int32} {M : ME} (h : Zr n M) (hk : k < n) : Zr n (sI M k j x) := fun q hq b => ⟨(congrFun (up2_ne (by omega)) b).trans (h q hq b).1, (h q hq b).2⟩
theorem Zr_sL {n k j : Nat} {x : Int64} {M : ME} (h : Zr n M) (hk : k < n) : Zr n (sL M k j x) := fun q hq b => ⟨(h q hq b).1, (congrFun (up2_ne (by omega)) b).trans (h q hq b).2.1, (h q hq b).2.2⟩
theorem Zr_sR {n k j x : Nat} {M : ME} (h : Zr n M) (hk : k < n) : Zr n (sR M k j x) := fun q hq b => ⟨(h q hq b).1, (h q hq b).2.1, (congrFun (up2_ne (by omega)) b).trans (h q hq b).2.2⟩
theorem Zr_fr {n a b : Nat} {M M' : ME} (h : Zr n M) (f : FrX a b M M') (hb : b ≤ n) : Zr n M' := fun k hk j => by
  obtain ⟨f1, f2, f3⟩ := f k (Or.inr (by omega))
  rw [f1, f2, f3]
  exact h k hk j
theorem EN_ext {E E' : EN} (h1 : E.1 = E'.1) (h2 : ∀ k, shp E k = shp E' k) (h3 : E.2.2 = E'.2.2) : E = E' := by
  rcases E with ⟨a, f, b⟩
  rcases E' with ⟨a', f', b'⟩
  have e1 : a = a' := h1
  have e2 : f = f' := funext h2
  have e3 : b = b' := h3
  rw [e1, e2, e3]
theorem rs_nil : rsOK [] := fun _ h => absurd h (by simp)
theorem rs_cons {a : Nat} {rs : List Nat} (h : rsOK rs) (ha : 10 ≤ (SH0 a).1 ∧ (SH0 a).1 < 30 ∧ (SH0 a).2 = 0) : rsOK (a :: rs) := fun k hk => by
  rcases List.mem_cons.mp hk with q | q
  · rw [q]; exact ha
  · exact h k q
section WDS
variable {L : Nat} {xs : Nat → Int32} {n a : Nat} {rs : List Nat}
theorem wd_in {k : Nat} (h : k < n) (hr : k ∉ rs) : shp (Wd L xs n rs) k = SH0 k := by
  show shW n rs k = _
  unfold shW
  rw [if_pos h, if_neg hr]
theorem wd_raw {k : Nat} (h : k < n) (hr : k ∈ rs) : shp (Wd L xs n rs) k = ((SH0 k).1 + 20, 0) := by
  show shW n rs k = _
  unfold shW
  rw [if_pos h, if_pos hr]
theorem wd_out {k : Nat} (h : n ≤ k) : shp (Wd L xs n rs) k = (0, 0) := by
  show shW n rs k = _
  unfold shW
  rw [if_neg (by omega)]
theorem wd_grow {q : Nat × Nat} (hq : SH0 n = q) (hn : n ∉ rs) : grow (Wd L xs n rs) q = Wd L xs (n + 1) rs := by
  refine EN_ext rfl (fun k => ?_) rfl
  show (if k = n then q else shW n rs k) = shW (n + 1) rs k
  unfold shW
  by_cases e : k = n
  · rw [if_pos e, e, if_pos (Nat.lt_succ_self _), if_neg hn, hq]
  · rw [if_neg e]
    by_cases h : k < n
    · rw [if_pos h, if_pos (show k < n + 1 by omega)]
    · rw [if_neg h, if_neg (show ¬ k < n + 1 by omega)]
theorem wd_new {ci : Nat} (hq : SH0 n = (ci + 10, 0)) : grow (Wd L xs n rs) (ci + 30, 0) = Wd L xs (n + 1) (n :: rs) := by
  refine EN_ext rfl (fun k => ?_) rfl
  show (if k = n then (ci + 30, 0) else shW n rs k) = shW (n + 1) (n :: rs) k
  unfold shW
  by_cases e : k = n
  · rw [if_pos e, e, if_pos (Nat.lt_succ_self _), if_pos List.mem_cons_self, hq]
  · rw [if_neg e]
    by_cases h : k < n
    · rw [if_pos h, if_pos (show k < n + 1 by omega)]
      by_cases w : k ∈ rs
      · rw [if_pos w, if_pos (List.mem_cons_of_mem _ w)]
      · rw [if_neg w, if_neg (fun q => (List.mem_cons.mp q).elim e w)]
    · rw [if_neg h, if_neg (by omega)]
theorem wd_made {ci : Nat} (ha : a < n) (hq : SH0 a = (ci + 10, 0)) (hr : a ∉ rs) : made (Wd L xs n (a :: rs)) a ci = Wd L xs n rs := by
  refine EN_ext rfl (fun k => ?_) rfl
  show (if k = a then (ci + 10, 0) else shW n (a :: rs) k) = shW n rs k
  unfold shW
  by_cases e : k = a
  · rw [if_pos e, e, if_pos ha, if_neg hr, hq]
  · rw [if_neg e]
    by_cases h : k < n
    · rw [if_pos h, if_pos h]
      by_cases w : k ∈ rs
      · rw [if_pos w, if_pos (List.mem_cons_of_mem _ w)]
      · rw [if_neg w, if_neg (fun q => (List.mem_cons.mp q).elim e w)]
    · rw [if_neg h, if_neg h]
theorem szC_raw {q : Nat × Nat} (h : 10 ≤ q.1 ∧ q.1 < 30 ∧ q.2 = 0) : szC (q.1 + 20, 0) = szC q := by
  obtain ⟨c, y⟩ := q
  obtain ⟨h1, h2, h3⟩ := h
  have h1' : 10 ≤ c := h1
  have h2' : c < 30 := h2
  unfold szC
  show (if c + 20 = 0 then 0 else if c + 20 < 10 then 0 else if c + 20 < 30 then cFn (c + 20 - 10) else cFn (c + 20 - 30)) = (if c = 0 then 0 else if c < 10 then y else if c < 30 then cFn (c - 10) else cFn (c - 30))
  rw [if_neg (by omega), if_neg (by omega), if_neg (by omega), if_neg (by omega), if_neg (by omega), if_pos h2', show c + 20 - 30 = c - 10 by omega]
theorem wd_sz (hr : rsOK rs) : szE (Wd L xs n rs) = szK SH0 (n - 1) := by
  show szK (shW n rs) (n - 1) = _
  have key : ∀ i, i ≤ n - 1 → szK (shW n rs) i = szK SH0 i := fun i => by
    induction i with
    | zero => intro _; rfl
    | succ i ih =>
      intro hi
      show szK (shW n rs) i + szC (shW n rs (i + 1)) = szK SH0 i + szC (SH0 (i + 1))
      rw [ih (by omega)]
      congr 1
      unfold shW
      rw [if_pos (by omega)]
      by_cases w : i + 1 ∈ rs
      · rw [if_pos w, szC_raw (hr _ w)]
      · rw [if_neg w]
  exact key _ (Nat.le_refl _)
theorem szS_mono {i j : Nat} (h : i ≤ j) : szK SH0 i ≤ szK SH0 j := by
  induction j with
  | zero => rw [show i = 0 by omega]; exact Nat.le_refl _
  | succ j ih =>
    by_cases q : i ≤ j
    · exact Nat.le_trans (ih q) (Nat.le_add_right _ _)
    · rw [show i = j + 1 by omega]; exact Nat.le_refl _
theorem szS_next (hn : 1 ≤ n) : szK SH0 n = szK SH0 (n - 1) + szC (SH0 n) := by
  obtain ⟨m, rfl⟩ : ∃ m, n = m + 1 := ⟨n - 1, by omega⟩
  rfl
theorem wd_wf (hr : rsOK rs) : wfE (Wd L xs n rs) := fun k hk => by
  by_cases h : k < n
  · refine ⟨?_, h⟩
    rcases Nat.eq_zero_or_pos k with q | q
    · exfalso
      rw [q] at hk h
      by_cases w : 0 ∈ rs
      · have := (hr 0 w).1
        have : 10 ≤ 0 := this
        omega
      · rw [wd_in h w] at hk
        exact hk rfl
    · exact q
  · rw [wd_out (by omega)] at hk
    exact absurd rfl hk
end WDS
/-- an object is made as soon as those of its final fields that it has point where the layout says -/
theorem ent_madeb {G : GE} {E : EN} {M : ME} {a ci : Nat} (hs : (shp E a).1 = ci + 30) (hc : ci < 20) (hf : ∀ j o, j < cFn ci → kdF ci j = o + 2 → gR M a j = a + o) (ha : a ≠ 0) : ∀ k, ent G (made E a ci) M k = ent G E M k := fun k => by
  by_cases e : k = a
  · subst e
    rw [ent_raw hs, ent_o (E := made E k ci) (by show (if k = k then (ci + 10, 0) else shp E k).1 = ci + 10; rw [if_pos rfl]) hc]
    congr 2
    unfold flds
    refine List.map_congr_left (fun j hj => ?_)
    have hj' : j < cFn ci := List.mem_range.mp hj
    unfold fv
    generalize hy : kdF ci j = y
    cases y with
    | zero => rfl
    | succ y =>
      cases y with
      | zero => rfl
      | succ y =>
        show Value.ref (G.1 + (k + y)) = va_rf (rfG G.1 (gR M k j))
        rw [hf j y hj' hy]
        unfold rfG
        rw [if_neg (by omega)]
        rfl
  · have : shp (made E a ci) k = shp E k := if_neg e
    unfold ent
    rw [this]
theorem x_madeb {E F : EN} {d : Nat} {μ : MR} {pc : Nat} {lv st : List Value} {M : ME} {R : Option Value → ME → Prop} {a ci : Nat} (hs : (shp E a).1 = ci + 30) (hc : ci < 20) (ha : a ≠ 0) (hf : ∀ j o, j < cFn ci → kdF ci j = o + 2 → gR M a j = a + o) (k : Wx (made E a ci) F d μ pc lv st M R) : Wx E F d μ pc lv st M R := by
  intro G l p e Rm s m args below meth c H locs cells slots Q ls C P S L sg Z K
  obtain ⟨hx, hb, hml, ho, ht, hK, hrm, hw, hlt, hX, O⟩ := id C
  have P1 : Rp G (made E a ci) M H := by
    unfold Rp at *
    have : wsOf G (made E a ci) M = wsOf G E M := by
      unfold wsOf
      exact List.map_congr_left (fun k _ => by rw [ent_madeb hs hc hf ha])
    rw [this]; exact P
  exact k G l p e Rm s m args below meth c H locs cells slots Q ls ⟨hx, hb, hml, ho, ht, hK, hrm, wf_made hw hs, hlt, hX, O⟩ P1 S L sg ⟨⟨Z.1.1, by rw [sz_made hs hc]; exact Z.1.2.1, Z.1.2.2⟩, Z.2⟩ K
/-- what a making of an object asks of the tables -/
def LkNew (own : String) (idx ci : Nat) : Prop := ∃ q : vw_C, vwCl[ci]? = some q ∧ Cond.classLink own idx q.1 ∈ TB ∧ Cond.instantiable q.1 q.2.2 ∈ TB ∧ Cond.initialized q.1 ∈ TB ∧ ∀ j, j < q.2.2 → (parseFieldDescriptor (q.2.1 j).2.2.1).map defaultValue = some (if kdF ci j = 0 then Value.int 0 else .null)
section WDR
variable {L : Nat} {xs : Nat → Int32} {d n nF : Nat} {rs rF : List Nat} {μ μ' : MR} {pc : Nat} {lv st : List Value} {M : ME} {R : Option Value → ME → Prop} {R' : ME → Prop}
theorem w_newI {N : Nat} (h : (mI μ) pc = (.newarray .int, 2)) (hs : SH0 n = (1, N)) (hN : N < 2 ^ 20) (hn : 1 ≤ n) (hF : n + 1 ≤ nF) (r1 : rsOK rs) (r2 : rsOK rF) (hz : Zr n M) (k : Wx (Wd L xs (n + 1) rs) (Wd L xs nF rF) d μ (pc + 2) lv (.ref n :: st) M R) : Wx (Wd L xs n rs) (Wd L xs nF rF) d μ pc lv (.int (nI N) :: st) M R := by
  have hm : n ∉ rs := fun q => by have := (r1 n q).1; rw [hs] at this; exact absurd this (by show ¬ 10 ≤ 1; omega)
  refine x_newI h wArrI hN hn hF ?_ (fun j => (hz n (Nat.le_refl _) j).1) ?_
  · rw [wd_sz r1, wd_sz r2]
    have h1 := szS_next hn
    rw [hs] at h1
    have h2 : szC (1, N) = N := rfl
    have h3 := szS_mono (show n ≤ nF - 1 by omega)
    omega
  · rw [wd_grow hs hm]; exact k
theorem w_newQ {idx N t : Nat} {T0 : String} (h : (mI μ) pc = (.anewarray idx, 3)) (ht0 : t = 3 ∨ t = 4) (hT0 : ∀ G : GE, (tysG G)[t - 1]? = some (G.2.2.2 t, .object T0)) (w1 : Cond.classLink (mO μ) idx T0 ∈ TB) (w2 : Cond.arrayOver (FieldType.object T0) ∈ NB) (hs : SH0 n = (t, N)) (hN : N < 2 ^ 20) (hn : 1 ≤ n) (hF : n + 1 ≤ nF) (r1 : rsOK rs) (r2 : rsOK rF) (hz : Zr n M) (k : Wx (Wd L xs (n + 1) rs) (Wd L xs nF rF) d μ (pc + 3) lv (.ref n :: st) M R) : Wx (Wd L xs n rs) (Wd L xs nF rF) d μ pc lv (.int (nI N) :: st) M R := by
  have hm : n ∉ rs := fun q => by
    have := (r1 n q).1
    rw [hs] at this
    have h' : 10 ≤ t := this
    omega
  refine x_newQ h ht0 hT0 w1 w2 hN hn hF ?_ (fun j => (hz n (Nat.le_refl _) j).2.2) ?_
  · rw [wd_sz r1, wd_sz r2]
    have h1 := szS_next hn
    rw [hs, sz_q ht0] at h1
    have h3 := szS_mono (show n ≤ nF - 1 by omega)
    omega
  · rw [wd_grow hs hm]; exact k
theorem w_new {idx ci : Nat} (h : (mI μ) pc = (.new idx, 3)) (lk : LkNew (mO μ) idx ci) (hs : SH0 n = (ci + 10, 0)) (hn : 1 ≤ n) (hF : n + 1 ≤ nF) (r1 : rsOK rs) (r2 : rsOK rF) (hz : Zr n M) (k : Wx (Wd L xs (n + 1) (n :: rs)) (Wd L xs nF rF) d μ (pc + 3) lv (.ref n :: st) M R) : Wx (Wd L xs n rs) (Wd L xs nF rF) d μ pc lv st M R := by
  obtain ⟨q, f1, w1, w2, w3, hd⟩ := lk
  refine x_new h f1 w1 w2 w3 (fun ty hty j hj => ?_) hn hF ?_ (fun j => (hz n (Nat.le_refl _) j).1) (fun j => (hz n (Nat.le_refl _) j).2.2) ?_
  · have h1 := hd j hj
    rw [hty j hj] at h1
    exact Option.some.inj h1
  · rw [wd_sz r1, wd_sz r2]
    have h1 := szS_next hn
    have h2 : szC (SH0 n) = q.2.2 := by
      rw [hs]
      unfold szC
      have hc := cl_lt f1
      rw [if_neg (by show ¬ ci + 10 = 0; omega), if_neg (by show ¬ ci + 10 < 10; omega), if_pos (by show ci + 10 < 30; omega)]
      show cFn (ci + 10 - 10) = _
      rw [show ci + 10 - 10 = ci by omega, cFn_of f1]
    have h3 := szS_mono (show n ≤ nF - 1 by omega)
    omega
  · rw [wd_new hs]; exact k
theorem w_made {a ci : Nat} (ha : a < n) (ha0 : a ≠ 0) (hc : ci < 20) (hs : SH0 a = (ci + 10, 0)) (hr : a ∉ rs) (hf : ∀ j o, j < cFn ci → kdF ci j = o + 2 → gR M a j = a + o) (k : Wx (Wd L xs n rs) (Wd L xs nF rF) d μ pc lv st M R) : Wx (Wd L xs n (a :: rs)) (Wd L xs nF rF) d μ pc lv st M R := by
  refine x_madeb (a := a) (ci := ci) (by rw [wd_raw ha List.mem_cons_self, hs]) hc ha0 hf ?_
  rw [wd_made ha hs hr]
  exact k
theorem w_cIN {a idx n1 : Nat} {rs1 : List Nat} {host : String} (h : (mI μ) pc = (.invokespecial idx, 3)) (lk : LkN (mO μ) idx μ' host) (hi : (mY μ').name = "<init>") (hr : mT μ' = none) (w2 : Cond.instanceMethod (mY μ') ∈ TB) (hcat : (st.map fun v => v.category).sum ≤ 8) (hn : 1 ≤ n) (h1 : n ≤ n1) (h2 : n1 ≤ nF) (r0 : rsOK rs) (r1 : rsOK rs1) (r2 : rsOK rF) (ev : EvC (Wd L xs n rs) (Wd L xs n1 rs1) d μ' [.ref a] M R') (k : ∀ M', R' M' → Wx (Wd L xs n1 rs1) (Wd L xs nF rF) (d + 1) μ (pc + 3) lv st M' R) : Wx (Wd L xs n rs) (Wd L xs nF rF) (d + 1) μ pc lv (.ref a :: st) M R :=
  x_cIN (E1 := Wd L xs n1 rs1) h lk hi hr w2 hcat hn h1 (by rw [wd_sz r0, wd_sz r1]; exact szS_mono (by omega)) h2 (by rw [wd_sz r2, wd_sz r1]; exact szS_mono (by omega)) (wd_wf r1) rfl ev k
theorem w_cI {a idx n1 : Nat} {rs1 : List Nat} (h : (mI μ) pc = (.invokespecial idx, 3)) (lk : LkC (mO μ) idx μ' 0) (hi : (mY μ').name = "<init>") (hr : mT μ' = none) (w2 : Cond.instanceMethod (mY μ') ∈ TB) (hcat : (st.map fun v => v.category).sum ≤ 8) (hn : 1 ≤ n) (h1 : n ≤ n1) (h2 : n1 ≤ nF) (r0 : rsOK rs) (r1 : rsOK rs1) (r2 : rsOK rF) (ev : EvC (Wd L xs n rs) (Wd L xs n1 rs1) d μ' [.ref a] M R') (k : ∀ M', R' M' → Wx (Wd L xs n1 rs1) (Wd L xs nF rF) (d + 1) μ (pc + 3) lv st M' R) : Wx (Wd L xs n rs) (Wd L xs nF rF) (d + 1) μ pc lv (.ref a :: st) M R :=
  x_cI (E1 := Wd L xs n1 rs1) h lk hi hr w2 hcat hn h1 (by rw [wd_sz r0, wd_sz r1]; exact szS_mono (by omega)) h2 (by rw [wd_sz r2, wd_sz r1]; exact szS_mono (by omega)) (wd_wf r1) rfl ev k
theorem w_EvC {n1 : Nat} {rs1 : List Nat} {as lv : List Value} (Z : MCK μ) (hl : lvE (mX μ) as = lv) (hn : (enL as).length ≤ mX μ) (h1 : n ≤ n1) (r0 : rsOK rs) (r1 : rsOK rs1) (h : Wx (Wd L xs n rs) (Wd L xs n1 rs1) d μ 0 lv [] M (fun v M' => v = none ∧ R' M')) : EvC (Wd L xs n rs) (Wd L xs n1 rs1) d μ as M R' :=
  EvC_of Z hl hn h1 (by rw [wd_sz r0, wd_sz r1]; exact szS_mono (by omega)) h
end WDR
section XNI
variable {E F : EN} {d : Nat} {μ : MR} {pc : Nat} {lv st : List Value} {M : ME} {R : Option Value → ME → Prop}
theorem x_ial (j : Nat) {a n : Nat} {i : Int32} (h : (mI μ) pc = (.iaload, 1)) (hs : shp E a = (1, n)) (hn : n < 2 ^ 31) (e : i = nI j) (hl : j < n) (k : Wx E F d μ (pc + 1) lv (.int (gI M a j) :: st) M R) : Wx E F d μ pc lv (.int i :: .ref a :: st) M R := by
  subst e
  refine x_iald h hs (vp_in_nI hl hn) ?_
  rw [nI_clamp (by omega)]
  exact k
theorem x_ias (j : Nat) {a n : Nat} {i x : Int32} (h : (mI μ) pc = (.iastore, 1)) (hs : shp E a = (1, n)) (hn : n < 2 ^ 31) (e : i = nI j) (hl : j < n) (k : Wx E F d μ (pc + 1) lv st (sI M a j x) R) : Wx E F d μ pc lv (.int x :: .int i :: .ref a :: st) M R := by
  subst e
  refine x_iast h hs (vp_in_nI hl hn) ?_
  rw [nI_clamp (by omega)]
  exact k
theorem x_las (j : Nat) {a n : Nat} {i : Int32} {x : Int64} (h : (mI μ) pc = (.lastore, 1)) (hs : shp E a = (2, n)) (hn : n < 2 ^ 31) (e : i = nI j) (hl : j < n) (k : Wx E F d μ (pc + 1) lv st (sL M a j x) R) : Wx E F d μ pc lv (.long x :: .int i :: .ref a :: st) M R := by
  subst e
  refine x_last h hs (vp_in_nI hl hn) ?_
  rw [nI_clamp (by omega)]
  exact k
theorem x_aal5 (j : Nat) {a n : Nat} {i : Int32} (h : (mI μ) pc = (.aaload, 1)) (hs : shp E a = (5, n)) (hn : n < 2 ^ 31) (e : i = nI j) (hl : j < n) (k : Wx E F d μ (pc + 1) lv (.ref (a + 1 + j) :: st) M R) : Wx E F d μ pc lv (.int i :: .ref a :: st) M R := by
  subst e
  refine x_aald5 h hs (vp_in_nI hl hn) ?_
  rw [nI_clamp (by omega)]
  exact k
theorem x_aal6 (j : Nat) {a n : Nat} {i : Int32} (h : (mI μ) pc = (.aaload, 1)) (hs : shp E a = (6, n)) (hn : n < 2 ^ 31) (e : i = nI j) (hl : j < n) (k : Wx E F d μ (pc + 1) lv (.ref (a + 1 + j) :: st) M R) : Wx E F d μ pc lv (.int i :: .ref a :: st) M R := by
  subst e
  refine x_aald6 h hs (vp_in_nI hl hn) ?_
  rw [nI_clamp (by omega)]
  exact k
theorem x_aas3 (j : Nat) {a n x : Nat} {i : Int32} (h : (mI μ) pc = (.aastore, 1)) (hs : shp E a = (3, n)) (hn : n < 2 ^ 31) (e : i = nI j) (hl : j < n) (hv : (shp E x).1 = 18) (k : Wx E F d μ (pc + 1) lv st (sR M a j x) R) : Wx E F d μ pc lv (.ref x :: .int i :: .ref a :: st) M R := by
  subst e
  refine x_aast3 h hs (vp_in_nI hl hn) hv ?_
  rw [nI_clamp (by omega)]
  exact k
theorem x_aas4 (j : Nat) {a n x : Nat} {i : Int32} (h : (mI μ) pc = (.aastore, 1)) (hs : shp E a = (4, n)) (hn : n < 2 ^ 31) (e : i = nI j) (hl : j < n) (hv : (shp E x).1 = 14) (k : Wx E F d μ (pc + 1) lv st (sR M a j x) R) : Wx E F d μ pc lv (.ref x :: .int i :: .ref a :: st) M R := by
  subst e
  refine x_aast4 h hs (vp_in_nI hl hn) hv ?_
  rw [nI_clamp (by omega)]
  exact k
theorem x_getFe {a idx ci j y : Nat} (h : (mI μ) pc = (.getfield idx, 3)) (f : LkF (mO μ) idx ci j) (hs : (shp E a).1 = ci + 30) (hk : kdF ci j ≠ 0) (e : gR M a j = y) (h0 : y ≠ 0) (k : Wx E F d μ (pc + 3) lv (.ref y :: st) M R) : Wx E F d μ pc lv (.ref a :: st) M R := by
  subst e
  exact x_getFr h f hs hk h0 k
/-- a row of rows is made -/
theorem Rp_all {G : GE} {E : EN} {M : ME} {H : Heap} (h : ∀ k, 1 ≤ k → k < E.1 → va_at G.2.2.1 vwCl (G.1 + k, ent G E M k) H) : Rp G E M H := by
  intro i q hq
  have hi : i < E.1 - 1 := by
    have := (List.getElem?_eq_some_iff.mp hq).1
    simpa [wsOf] using this
  have := (rng_at (fun k => (G.1 + (k + 1), ent G E M (k + 1))) hi).symm.trans hq
  cases this
  exact h (i + 1) (by omega) (by omega)
theorem Rp_one {G : GE} {E : EN} {M : ME} {H : Heap} (P : Rp G E M H) {k : Nat} (h1 : 1 ≤ k) (h2 : k < E.1) : va_at G.2.2.1 vwCl (G.1 + k, ent G E M k) H := by
  obtain ⟨j, rfl⟩ : ∃ j, k = j + 1 := ⟨k - 1, by omega⟩
  exact P j _ (rng_at (fun k => (G.1 + (k + 1), ent G E M (k + 1))) (show j < E.1 - 1 by omega))
end XNI
