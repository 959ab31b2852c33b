/-! CALLS. A method's contract over the world, and a call by it -/
def PcE (G : GE) (E : EN) (as : List Value) (M : ME) : Array Value → State → Prop := va_Pc (as.map (shV G)) (fun U => Rp G E M U.heap ∧ va_K G.2.2.1 vwCl (tysG G) U ∧ wfE E ∧ G.1 < U.heap.size ∧ va_X G.2.1 E.2.2.1 E.2.2.2 U U.heap ∧ G.2.1 ≤ G.1)
def QcE (G : GE) (E : EN) (R : Option Value → ME → Prop) : Array Value → State → Outcome → State → Prop := fun _ st o t => ∃ (v : Option Value) (M' : ME), o = .returned (v.map (shV G)) ∧ R v M' ∧ Rp G E M' t.heap ∧ va_F (fun q => G.1 < q) st t
def wsM (μ : MR) : List Cond := Cond.code (mY μ) (mB μ) (mX μ) (mT μ) :: TB
def Ev (E : EN) (d : Nat) (μ : MR) (as : List Value) (M : ME) (R : Option Value → ME → Prop) : Prop := ∀ (l : Launch) (G : GE), Met l (mY μ) (wsM μ) (rmD d) (PcE G E as M) (QcE G E R) 0 0 (fun q => G.1 < q)
def enL : List Value → List Value
  | [] => []
  | v :: vs => if v.category = 2 then v :: .null :: enL vs else v :: enL vs
def lvE (n : Nat) (as : List Value) : List Value := enL as ++ List.replicate (n - (enL as).length) .null
theorem enL_sl (as : List Value) : (enL as).length = (lg_sl as).length := by
  induction as with
  | nil => rfl
  | cons v vs ih =>
    show (if v.category = 2 then v :: .null :: enL vs else v :: enL vs).length = ((if v.category = 2 then [Slot.val v, .second] else [.val v]) ++ lg_sl vs).length
    by_cases h : v.category = 2
    · rw [if_pos h, if_pos h]; simp [ih]
    · rw [if_neg h, if_neg h]; simp [ih]
theorem enL_map (G : GE) (as : List Value) : (enL as).map (shV G) = enL (as.map (shV G)) := by
  induction as with
  | nil => rfl
  | cons v vs ih =>
    show (if v.category = 2 then v :: .null :: enL vs else v :: enL vs).map (shV G) = if (shV G v).category = 2 then shV G v :: .null :: enL (vs.map (shV G)) else shV G v :: enL (vs.map (shV G))
    rw [shV_cat]
    by_cases h : v.category = 2
    · rw [if_pos h, if_pos h]; simp [ih]; rfl
    · rw [if_neg h, if_neg h]; simp [ih]
theorem enL_args (as : List Value) : ∀ (o i : Nat) (v : Value), (enL as)[i]? = some v → v ≠ .null → (o + i, v) ∈ lv_args o as := by
  induction as with
  | nil => intro o i v h; simp [enL] at h
  | cons w vs ih =>
    intro o i v h hv
    have hd : (if w.category = 2 then w :: .null :: enL vs else w :: enL vs)[i]? = some v := h
    show (o + i, v) ∈ (o, w) :: lv_args (if w.category = 2 then o + 2 else o + 1) vs
    by_cases hc : w.category = 2
    · rw [if_pos hc] at hd ⊢
      match i, hd with
      | 0, hd => simp at hd; subst hd; exact List.mem_cons_self
      | 1, hd => simp at hd; exact absurd hd.symm hv
      | i + 2, hd =>
        simp at hd
        have := ih (o + 2) i v hd hv
        rw [show o + (i + 2) = o + 2 + i by omega]
        exact List.mem_cons_of_mem _ this
    · rw [if_neg hc] at hd ⊢
      match i, hd with
      | 0, hd => simp at hd; subst hd; exact List.mem_cons_self
      | i + 1, hd =>
        simp at hd
        have := ih (o + 1) i v hd hv
        rw [show o + (i + 1) = o + 1 + i by omega]
        exact List.mem_cons_of_mem _ this
theorem lvE_has {G : GE} {n : Nat} {as : List Value} (h : (enL as).length ≤ n) : hsL ((lg_sl (as.map (shV G)) ++ List.replicate (n - (lg_sl (as.map (shV G))).length) Slot.unset).toArray) n ((lvE n as).map (shV G)) := by
  have h1 := lv_entry (as.map (shV G)) (n := n) (by rw [← enL_sl, ← enL_map, List.length_map]; exact h)
  refine ⟨h1.1, h1.2.1, fun i v hi hv => ?_⟩
  unfold lvE at hi
  rw [List.map_append, enL_map, List.map_replicate] at hi
  by_cases hl : i < (enL (as.map (shV G))).length
  · rw [List.getElem?_append_left hl] at hi
    have := enL_args _ 0 i v hi hv
    rw [Nat.zero_add] at this
    exact h1.2.2 _ this
  · rw [List.getElem?_append_right (by omega)] at hi
    have := List.mem_of_getElem? hi
    rw [List.mem_replicate] at this
    exact absurd this.2 hv
/-- what must hold of a method apart from its instructions -/
def MCK (μ : MR) : Prop := MOK μ ∧ plainName (mY μ).cls = true ∧ (mY μ).cls = mO μ
theorem Ev_of {E : EN} {d : Nat} {μ : MR} {as lv : List Value} {M : ME} {R : Option Value → ME → Prop} (Z : MCK μ) (hl : lvE (mX μ) as = lv) (hn : (enL as).length ≤ mX μ) (h : Wp E d μ 0 lv [] M R) : Ev E d μ as M R := by
  obtain ⟨O, hy, ho⟩ := Z
  intro l G
  refine Met.ofW (cc := mB μ) (maxL := mX μ) (ret := mT μ) hy rfl ?_
  intro p e s m args below meth c s₁ B hml hv
  obtain ⟨rfl, hP, hK, hw, hlt, hX, hb⟩ := hv
  have hts : ∀ w ∈ wsM μ, w.before _ s = true := atoms_spec (ws := wsM μ) B.pre
  have hown : s.vm.findClass (mO μ) = some m.cls := by rw [← ho]; exact findClass_of_methodNamed B.named
  have hlocks := B.notSynchronized
  rw [lg_entry_eq]
  refine h G l p e _ s m _ below meth c s.heap [] 0 0 _ _ ⟨B.exec, B.bytes, hml, hown, fun w hw => hts w (List.mem_cons_of_mem _ hw), hK, ⟨Nat.le_refl _, Nat.le_refl _, Nat.zero_le _, Nat.zero_le _⟩, hw, hlt, ⟨hX, hb⟩, O⟩ hP va_S.rf (by rw [← hl]; exact lvE_has hn) ?_
  intro v M' H' locs' pc' ls' hR hro hP' hS'
  have hr := B.returns
  rcases hro with ⟨x, t, rfl, hi, ht, hnr⟩ | ⟨x, rfl, hi, ht⟩ | ⟨rfl, hi, ht⟩
  · exact W.zret (ty := t) B.exec B.bytes (by rw [hr, ht]) hnr (fun T hT hW => ⟨some (.int x), M', rfl, hR, by rw [hT]; exact hP', hS'.F hT⟩) hS'.2.2 (O.d hi)
  · exact W.lret B.exec B.bytes (by rw [hr, ht]) (fun T hT hW => ⟨some (.long x), M', rfl, hR, by rw [hT]; exact hP', hS'.F hT⟩) hS'.2.2 (O.d hi)
  · exact W.vret B.exec B.bytes (by rw [hr, ht]) (fun T hT hW => ⟨none, M', rfl, hR, by rw [hT]; exact hP', hS'.F hT⟩) hS'.2.2 (O.d hi)
theorem Ev_post {E : EN} {d : Nat} {μ : MR} {as : List Value} {M : ME} {R R' : Option Value → ME → Prop} (h : Ev E d μ as M R) (hr : ∀ v M', R v M' → R' v M') : Ev E d μ as M R' := by
  intro l G
  intro p e h1 h2 h3 s m args below h4 h5 h6 h7
  have h8 := h l G p e h1 h2 h3 s m args below h4 h5 h6 h7
  obtain ⟨k, o, q1, q2, q3, ⟨⟨v, M', g1, g2, g3, g4⟩, g5⟩⟩ := h8
  exact ⟨k, o, q1, q2, q3, ⟨⟨v, M', g1, hr _ _ g2, g3, g4⟩, g5⟩⟩
/-- links of methods -/
def LkC (own : String) (idx : Nat) (μ : MR) (n : Nat) : Prop := Cond.methodLink own idx (mY μ) ∈ TB ∧ Cond.code (mY μ) (mB μ) (mX μ) (mT μ) ∈ TB ∧ Cond.initialized (mY μ).cls ∈ TB ∧ ((mY μ).cls ≠ "java/lang/invoke/MethodHandle" ∧ (mY μ).cls ≠ "java/lang/invoke/VarHandle" ∧ (parseMethodDescriptor (mY μ).desc).map (fun d => d.parameters.length) = some n) ∧ mX μ ≤ 45
def LkV (own : String) (idx ci : Nat) (μ : MR) (n : Nat) : Prop := LkC own idx μ n ∧ Cond.instanceMethod (mY μ) ∈ TB ∧ Cond.selects (mY μ).cls (mY μ) (mY μ) ∈ TB ∧ ∃ q : vw_C, vwCl[ci]? = some q ∧ q.1 = (mY μ).cls
def LkS (own : String) (idx : Nat) (μ : MR) (n : Nat) : Prop := LkC own idx μ n ∧ Cond.static (mY μ) ∈ TB
theorem LkC_B {own : String} {idx d n : Nat} {μ : MR} {R : Room} {s : State} {args : Array Value} (h : LkC own idx μ n) (ht : ∀ w ∈ TB, w.before args s = true) (hR : d + 1 ≤ R.frames ∧ 64 * (d + 1) ≤ R.locals) : CallB R s args own idx (mY μ) (mB μ) (mX μ) (mT μ) (wsM μ) (rmD d) 0 0 n := by
  obtain ⟨h1, h2, h3, h4, h5⟩ := h
  have hG : GoodIn TB (wsM μ) := fun w hw => by
    rcases List.mem_cons.mp hw with rfl | hw
    · exact tb_good (fun _ h => h) _ h2
    · exact tb_good (fun _ h => h) _ hw
  exact callB_of n ht hG rfl rfl rfl (ht _ h3) (ht _ h1) h4 ⟨hR.1, by
    have : (rmD d).locals = 64 * d := rfl
    rw [this]
    have := hR.2
    omega⟩
section RC
variable {E : EN} {d : Nat} {μ μ' : MR} {pc : Nat} {lv st stk as : List Value} {M : ME} {R R' : Option Value → ME → Prop}
theorem PcE_blind {G : GE} : FrameBlind (PcE G E as M) := by
  intro a U g mk q
  obtain ⟨q0, q1, q2, q3, q4, q5, q6⟩ := q
  exact ⟨q0, q1, va_K.moved (u := U) (U := U.calling g mk a) (Vm.Alike.refl U.vm) q2, q3, q4, va_X.moved (u := U) (U := U.calling g mk a) (Vm.Alike.refl U.vm) q5, q6⟩
theorem PcE_in {G : GE} {p : Program} {Rm : Room} {s : State} {m : MethodId} {args : Array Value} {c : Code} {cells slots : Nat} {H : Heap} {locs : List Loc} (C : Cx G E d μ p Rm s m args c cells slots) (P : Rp G E M H) (S : va_S (fun q => G.1 < q) s.heap H locs) : ∀ U : State, U.heap = H → s.WarmedH U.vm → PcE G E as M (as.map (shV G)).toArray U := by
  obtain ⟨hx, hb, hml, ho, ht, hK, hrm, hw, hlt, hX, O⟩ := C
  intro U hU hW
  refine ⟨rfl, by rw [hU]; exact P, va_K.moved hW.alike hK, hw, by rw [hU]; exact Nat.lt_of_lt_of_le hlt S.1, ?_, hX.2⟩
  rw [hU]
  exact va_X.moved hW.alike (hX.1.kept (S.2.1 _ (Nat.lt_of_le_of_lt hX.2 hlt) (Nat.not_lt.mpr hX.2)))
theorem run_W {G : GE} {l : Launch} {p : Program} {e : Env} {Rm : Room} {s : State} {m : MethodId} {args : Array Value} {below : List Frame} {meth : Method} {c : Code} {H : Heap} {locs : List Loc} {cells slots : Nat} {Q : State → Prop} {ls : Array Slot} {av : Array Value} (S : va_S (fun q => G.1 < q) s.heap H locs) (hr : va_Run p l e Rm s m args below meth c H locs cells slots 0 0 (F0 m pc ls (stk.map (shV G))) (st.map (shV G)) (QcE G E R' av) (fun q => G.1 < q))
    (kk : ∀ (v : Option Value) (M' : ME) (H1 : Heap) (locs1 : List Loc), R' v M' → Rp G E M' H1 → va_S (fun q => G.1 < q) s.heap H1 locs1 → W p l e Rm s m args below meth c H1 locs1 cells slots Q (F0 m (pc + 3) ls ((v.toList ++ st).map (shV G)))) : W p l e Rm s m args below meth c H locs cells slots Q (F0 m pc ls (stk.map (shV G))) := by
  intro T hT X
  obtain ⟨v, st₀, t, T', L, h0, X', hL, e1, e2, ⟨v', M', hv, hR, hP, hz, hk⟩, hgo⟩ := hr T hT X
  cases hv
  rw [h0] at hz hk
  obtain ⟨t2, a1, b1⟩ := kk v' M' T'.heap (locs ++ L) hR (by rw [e1]; exact hP) ⟨Nat.le_trans S.1 (by rw [e1]; exact hz), fun q h1 h2 => by rw [e1, hk q (Nat.lt_of_lt_of_le h1 S.1) h2]; exact S.2.1 q h1 h2, fun q hq => by
      rcases List.mem_append.mp hq with h | h
      · exact S.2.2 q h
      · exact hL q h⟩ T' rfl X'
  refine ⟨t2, hgo t2 ?_, b1⟩
  have e3 : (Option.map (shV G) v').toList ++ st.map (shV G) = (v'.toList ++ st).map (shV G) := by
    cases v' <;> simp
  show Steps p.tables e below (T'.setTop (F0 m (pc + 3) ls ((Option.map (shV G) v').toList ++ st.map (shV G)))) t2
  rw [e3]
  exact a1
theorem cat_map (G : GE) (st : List Value) : ((st.map (shV G)).map fun v => v.category) = st.map fun v => v.category := by
  rw [List.map_map]; exact List.map_congr_left (fun v _ => shV_cat G v)
theorem r_cV {a idx ci n : Nat} (h : (mI μ) pc = (.invokevirtual idx, 3)) (lk : LkV (mO μ) idx ci μ' n) (hn : as.length = n) (hst : as.reverse ++ .ref a :: st = stk) (hs : (shp E a).1 = ci + 10) (hcat : (st.map fun v => v.category).sum ≤ 8) (ev : Ev E d μ' (.ref a :: as) M R') (k : ∀ v M', R' v M' → Wp E (d + 1) μ (pc + 3) lv (v.toList ++ st) M' R) : Wp E (d + 1) μ pc lv stk M R := by
  intro G l p e Rm s m args below meth c H locs cells slots Q ls C P S L K
  obtain ⟨hx, hb, hml, ho, ht, hK, hrm, hw, hlt, hX, O⟩ := id C
  obtain ⟨l1, l2, l3, q, l4, l5⟩ := lk
  have hCB := LkC_B (d := d) (R := Rm) l1 ht ⟨hrm.1, hrm.2.1⟩
  have h1 := ws_at (G := G) (M := M) hw (k := a) (by rw [hs]; exact Nat.succ_ne_zero _)
  rw [ent_o hs (cl_lt l4)] at h1
  have hrc := va_recv hK P l4 h1
  rw [l5] at hrc
  refine run_W (st := st) (R' := R') S (va_runV (As := as.map (shV G)) (b := G.1 + a) (Ts := TB) (own := mO μ) (C := (mY μ').cls) (nL := mX μ) (index := idx) ⟨hx, hb, hml, ho, ht⟩ (ev l G) ⟨hCB, ht _ l2, ht _ l3⟩ ⟨PcE_blind, hrc, PcE_in (as := .ref a :: as) C P S⟩ rfl (by rw [List.length_map]; exact hn) L.1 ?_ (lv_room (by rw [cat_map]; exact hcat)) (O.d h) ⟨hrm.2.2.1, hrm.2.2.2⟩) (fun v M' H1 locs1 hR hP' hS' => k v M' hR G l p e Rm s m args below meth c H1 locs1 cells slots Q ls C hP' hS' L K)
  show stk.map (shV G) = _
  rw [← hst, List.map_append, List.map_reverse]
  rfl
theorem r_cS {idx n : Nat} (h : (mI μ) pc = (.invokestatic idx, 3)) (lk : LkS (mO μ) idx μ' n) (hn : as.length = n) (hst : as.reverse ++ st = stk) (hcat : (st.map fun v => v.category).sum ≤ 8) (ev : Ev E d μ' as M R') (k : ∀ v M', R' v M' → Wp E (d + 1) μ (pc + 3) lv (v.toList ++ st) M' R) : Wp E (d + 1) μ pc lv stk M R := by
  intro G l p e Rm s m args below meth c H locs cells slots Q ls C P S L K
  obtain ⟨hx, hb, hml, ho, ht, hK, hrm, hw, hlt, hX, O⟩ := id C
  obtain ⟨l1, l2⟩ := lk
  have hCB := LkC_B (d := d) (R := Rm) l1 ht ⟨hrm.1, hrm.2.1⟩
  refine run_W (st := st) (R' := R') S (va_runS (As := as.map (shV G)) (Ts := TB) (own := mO μ) (nL := mX μ) (index := idx) ⟨hx, hb, hml, ho, ht⟩ (ev l G) ⟨hCB, ht _ l2⟩ ⟨PcE_blind, PcE_in (as := as) C P S⟩ rfl (by rw [List.length_map]; exact hn) L.1 ?_ (lv_room (by rw [cat_map]; exact hcat)) (O.d h) ⟨hrm.2.2.1, hrm.2.2.2⟩) (fun v M' H1 locs1 hR hP' hS' => k v M' hR G l p e Rm s m args below meth c H1 locs1 cells slots Q ls C hP' hS' L K)
  show stk.map (shV G) = _
  rw [← hst, List.map_append, List.map_reverse]
end RC
