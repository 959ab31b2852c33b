/-! makings of objects; what a maker does to its own object -/
section MKO
variable {E F : EN} {d : Nat} {μ : MR} {pc : Nat} {lv st : List Value} {M : ME} {R : Option Value → ME → Prop}
theorem sz_raw {ci : Nat} {q : vw_C} (f1 : vwCl[ci]? = some q) : szC (ci + 30, 0) = q.2.2 := by
  unfold szC
  rw [if_neg (by show ¬ ci + 30 = 0; omega), if_neg (by show ¬ ci + 30 < 10; omega), if_neg (by show ¬ ci + 30 < 30; omega)]
  show cFn (ci + 30 - 30) = _
  rw [show ci + 30 - 30 = ci by omega, cFn_of f1]
theorem ent_raw {G : GE} {E : EN} {M : ME} {k ci : Nat} (hs : (shp E k).1 = ci + 30) : ent G E M k = .inr (ci, flds G.1 M true ci k) := by
  unfold ent
  rw [hs]
  split
  all_goals first
    | omega
    | (rw [if_neg (by omega), show ci + 30 - 30 = ci by omega])
theorem x_new {idx ci : Nat} {q : vw_C} (h : (mI μ) pc = (.new idx, 3)) (f1 : vwCl[ci]? = some q) (w1 : Cond.classLink (mO μ) idx q.1 ∈ TB) (w2 : Cond.instantiable q.1 q.2.2 ∈ TB) (w3 : Cond.initialized q.1 ∈ TB) (hd : ∀ ty : Nat → FieldType, (∀ k, k < q.2.2 → parseFieldDescriptor (q.2.1 k).2.2.1 = some (ty k)) → ∀ j, j < q.2.2 → defaultValue (ty j) = if kdF ci j = 0 then .int 0 else .null) (h1 : 1 ≤ E.1) (hF : E.1 + 1 ≤ F.1) (hsz : szE E + q.2.2 ≤ szE F) (hz : ∀ j, M.1 E.1 j = 0) (hzr : ∀ j, M.2.2 E.1 j = 0) (k : Wx (grow E (ci + 30, 0)) F d μ (pc + 3) lv (.ref E.1 :: st) M R) : Wx E F d μ pc lv st M R := by
  intro G l p e Rm s m args below meth c H locs cells slots Q ls C P S L sg Z K
  obtain ⟨hx, hb, hml, ho, ht, hK, hrm, hw, hlt, hX, O⟩ := id C
  intro T hT X
  have hH := sz_heap X hT P S hlt h1 Z.1
  have hsc := sz_raw f1
  obtain ⟨C1, Z1⟩ := Cx_grow (q := (ci + 30, 0)) C Z.1 h1 hF (by rw [hsc]; exact hsz)
  rw [hsc] at C1 Z1
  obtain ⟨⟨z1, z2, z3, z4⟩, znm⟩ := Z
  have c1 := cl_ok ci q f1
  obtain ⟨ty0, hty⟩ := c1.2.2
  have hKn := hK.1 ci _ f1
  have hR : W p l e Rm s m args below meth c H locs cells slots Q (F0 m pc ls (st.map (shV G))) := by
    refine W.newcK hx hb ho (ht _ w1) (ht _ w2) (ht _ w3) rfl (O.d h) (by omega) (by omega) hKn.2.1 hH (fun H' kC hkC e1 s1 o1 => ?_)
    have hk : ∀ (i : Nat) (x : Nat × va_E), (wsOf G E M)[i]? = some x → H'[x.1]? = H[x.1]? := fun i x hx => o1 x.1 (by rw [← hH]; exact (P i x hx).lt)
    have P1 : Rp G (grow E (ci + 30, 0)) M H' := by
      unfold Rp
      rw [ws_grow h1]
      refine (va_P.kept P hk).app (fun i x hx => ?_)
      have hi : i < 1 := (List.getElem?_eq_some_iff.mp hx).1
      rw [show i = 0 by omega] at hx
      cases hx
      rw [ent_raw (E := grow E (ci + 30, 0)) (k := E.1) (ci := ci) (by rw [show shp (grow E (ci + 30, 0)) E.1 = (ci + 30, 0) from if_pos rfl])]
      refine ⟨q, f1, (u_born ty0 ht c1.1 hKn hkC e1 hty).to (fun j hj => ?_)⟩
      rw [hd ty0 hty j hj]
      have e2 : (flds G.1 M true ci E.1)[j]? = some (fv G.1 M true ci E.1 j) := by
        unfold flds
        exact rng_at _ (by rw [cFn_of f1]; exact hj)
      have e3 : vp_V (flds G.1 M true ci E.1) j = fv G.1 M true ci E.1 j := by
        unfold vp_V
        rw [List.getD_eq_getElem?_getD, e2]
        rfl
      rw [e3]
      unfold fv
      rw [show gI M E.1 j = 0 from hz j, show gR M E.1 j = 0 from hzr j]
      generalize kdF ci j = y
      cases y with
      | zero => rfl
      | succ y =>
        cases y with
        | zero => rfl
        | succ y => rfl
    have S1 : va_S (fun q => G.1 < q) s.heap H' locs := ⟨by have := S.1; omega, fun q q1 q2 => (o1 q (by have := S.1; omega)).trans (S.2.1 q q1 q2), S.2.2⟩
    exact k G l p e Rm s m args below meth c H' locs (cells + 1) (slots + q.2.2) Q ls C1 P1 S1 L sg ⟨Z1, znm⟩ K
  exact hR T hT X
/-- Object's own maker does nothing -/
theorem x_obj {idx a : Nat} (h : (mI μ) pc = (.invokespecial idx, 3)) (w1 : Cond.methodLink (mO μ) idx Lib.objectInit ∈ TB) (w2 : Cond.instanceMethod Lib.objectInit ∈ TB) (w3 : Cond.code Lib.objectInit { data := #[177] } 1 none ∈ TB) (hcat : (st.map fun v => v.category).sum ≤ 8) (k : Wx E F (d + 1) μ (pc + 3) lv st M R) : Wx E F (d + 1) μ pc lv (.ref a :: st) M R := by
  intro G l p e Rm s m args below meth c H locs cells slots Q ls C P S L sg Z K
  obtain ⟨hx, hb, hml, ho, ht, hK, hrm, hw, hlt, hX, O⟩ := id C
  refine W.objInit hx hb ho (ht _ w1) (ht _ w2) (ht _ w3) rfl (by rw [hml]; exact L.1) rfl (O.d h) (by omega) ?_ (k G l p e Rm s m args below meth c H locs cells slots Q ls C P S L sg Z K)
  rw [List.map_map]
  have e : (st.map ((fun v => v.category) ∘ shV G)) = st.map (fun v => v.category) := List.map_congr_left (fun v _ => shV_cat G v)
  rw [e]
  show 2 * 0 + _ + 12 ≤ Rm.locals
  omega
/-- fields of an object that is being made -/
def LkG (own : String) (idx ci j : Nat) (ty : FieldType) : Prop := ∃ q : vw_C, vwCl[ci]? = some q ∧ j < q.2.2 ∧ Cond.fieldLink own idx (q.2.1 j).1 (q.2.1 j).2.1 (q.2.1 j).2.2.1 ∈ TB ∧ (q.2.1 j).2.2.2 = true ∧ (q.2.1 j).1 = own ∧ parseFieldDescriptor (q.2.1 j).2.2.1 = some ty
theorem Rp_raw {G : GE} {M M' : ME} {H1 : Heap} {k ci : Nat} (hw : wfE E) (hs : (shp E k).1 = ci + 30) (hx : ∀ i, i ≠ k → ent G E M' i = ent G E M i) (h : va_P G.2.2.1 vwCl ((wsOf G E M).set (k - 1) (G.1 + k, .inr (ci, flds G.1 M' true ci k))) H1) : Rp G E M' H1 := by
  have h0 : (shp E k).1 ≠ 0 := by rw [hs]; omega
  rw [ws_set (M' := M') hw h0 (ent_raw hs) hx] at h
  exact h
theorem x_putIr {a idx ci j : Nat} {x : Int32} {ty : FieldType} (h : (mI μ) pc = (.putfield idx, 3)) (f : LkP (mO μ) idx ci j ty) (hs : (shp E a).1 = ci + 30) (hk : kdF ci j = 0) (hn : narrow ty (.int x) = .int x) (hf : fits ty (.int x) = true) (k : Wx E F d μ (pc + 3) lv st (sI M a j x) R) : Wx E F d μ pc lv (.int x :: .ref a :: st) M R := by
  intro G l p e Rm s m args below meth c H locs cells slots Q ls C P S L sg Z K
  obtain ⟨hx, hb, hml, ho, ht, hK, hrm, hw, hlt, hX, O⟩ := id C
  obtain ⟨q, f1, f2, f3, f4, f5⟩ := f
  have c1 := cl_ok ci q f1
  have h0 : (shp E a).1 ≠ 0 := by rw [hs]; omega
  have h1 := ws_at (G := G) (M := M) hw (k := a) h0
  rw [ent_raw hs] at h1
  obtain ⟨ty0, hty⟩ := c1.2.2
  have hlen : j < (flds G.1 M true ci a).length := by unfold flds; rw [List.length_map, List.length_range, cFn_of f1]; exact f2
  refine va_put hx hb ht c1.1 ty0 hty c1.2.1 ho hK P ws_D S (a - 1) h1 f1 j f2 (ht _ f3) (fun _ h9 => h9) f4 f5 hn hf hlen (O.d h) (fun H1 locs1 P1 D1 S1 => ?_)
  rw [show shV G (Value.int x) = .int x from rfl, flds_sI hk] at P1
  exact k G l p e Rm s m args below meth c H1 locs1 cells slots Q ls C (Rp_raw hw hs (fun i hi => ent_congr (M := M) (M' := sI M a j x) (up2_ne hi) rfl rfl) P1) S1 L sg Z K
theorem x_putRr {a idx ci j x : Nat} {ty : FieldType} (h : (mI μ) pc = (.putfield idx, 3)) (f : LkP (mO μ) idx ci j ty) (hs : (shp E a).1 = ci + 30) (hk : kdF ci j ≠ 0) (hn : ∀ z : Nat, narrow ty (.ref z) = .ref z) (hf : ∀ z : Nat, fits ty (.ref z) = true) (hx0 : x ≠ 0) (k : Wx E F d μ (pc + 3) lv st (sR M a j x) R) : Wx E F d μ pc lv (.ref x :: .ref a :: st) M R := by
  intro G l p e Rm s m args below meth c H locs cells slots Q ls C P S L sg Z K
  obtain ⟨hx, hb, hml, ho, ht, hK, hrm, hw, hlt, hX, O⟩ := id C
  obtain ⟨q, f1, f2, f3, f4, f5⟩ := f
  have c1 := cl_ok ci q f1
  have h0 : (shp E a).1 ≠ 0 := by rw [hs]; omega
  have h1 := ws_at (G := G) (M := M) hw (k := a) h0
  rw [ent_raw hs] at h1
  obtain ⟨ty0, hty⟩ := c1.2.2
  have hlen : j < (flds G.1 M true ci a).length := by unfold flds; rw [List.length_map, List.length_range, cFn_of f1]; exact f2
  refine va_put hx hb ht c1.1 ty0 hty c1.2.1 ho hK P ws_D S (a - 1) h1 f1 j f2 (ht _ f3) (fun _ h9 => h9) f4 f5 (hn _) (hf _) hlen (O.d h) (fun H1 locs1 P1 D1 S1 => ?_)
  rw [show shV G (Value.ref x) = .ref (G.1 + x) from rfl, flds_sR (Or.inr ⟨rfl, hk⟩) hx0] at P1
  exact k G l p e Rm s m args below meth c H1 locs1 cells slots Q ls C (Rp_raw hw hs (fun i hi => ent_congr (M := M) (M' := sR M a j x) rfl rfl (up2_ne hi)) P1) S1 L sg Z K
theorem x_putF {a idx ci j x : Nat} {ty : FieldType} (h : (mI μ) pc = (.putfield idx, 3)) (hi : (mY μ).name = "<init>") (f : LkG (mO μ) idx ci j ty) (hs : (shp E a).1 = ci + 30) (hk : kdF ci j ≠ 0) (hn : ∀ z : Nat, narrow ty (.ref z) = .ref z) (hf : ∀ z : Nat, fits ty (.ref z) = true) (hx0 : x ≠ 0) (k : Wx E F d μ (pc + 3) lv st (sR M a j x) R) : Wx E F d μ pc lv (.ref x :: .ref a :: st) M R := by
  intro G l p e Rm s m args below meth c H locs cells slots Q ls C P S L sg Z K
  obtain ⟨hx, hb, hml, ho, ht, hK, hrm, hw, hlt, hX, O⟩ := id C
  obtain ⟨q, f1, f2, f3, f4, f4', f5⟩ := f
  have c1 := cl_ok ci q f1
  have h0 : (shp E a).1 ≠ 0 := by rw [hs]; omega
  have h1 := ws_at (G := G) (M := M) hw (k := a) h0
  rw [ent_raw hs] at h1
  obtain ⟨ty0, hty⟩ := c1.2.2
  have hlen : j < (flds G.1 M true ci a).length := by unfold flds; rw [List.length_map, List.length_range, cFn_of f1]; exact f2
  refine va_putF hx hb ht c1.1 ty0 hty c1.2.1 ho hK P ws_D S (a - 1) h1 f1 j f2 (ht _ f3) (fun _ h9 => h9) f4 (Z.2.1 hi) f4' f5 (hn _) (hf _) hlen (O.d h) (fun H1 locs1 P1 D1 S1 => ?_)
  rw [show shV G (Value.ref x) = .ref (G.1 + x) from rfl, flds_sR (Or.inr ⟨rfl, hk⟩) hx0] at P1
  exact k G l p e Rm s m args below meth c H1 locs1 cells slots Q ls C (Rp_raw hw hs (fun i hi => ent_congr (M := M) (M' := sR M a j x) rfl rfl (up2_ne hi)) P1) S1 L sg Z K
end MKO
/-! contracts of makers -/
def rmX (d mc ms : Nat) : Room := { frames := d, cells := mc, slots := ms, locals := 64 * d }
def PcX (G : GE) (E : EN) (as : List Value) (M : ME) : Array Value → State → Prop := va_Pc (as.map (shV G)) (fun U => (Rp G E M U.heap ∧ va_K G.2.2.1 vwCl (tysG G) U ∧ wfE E ∧ G.1 < U.heap.size ∧ va_X G.2.1 E.2.2.1 E.2.2.2 U U.heap ∧ G.2.1 ≤ G.1) ∧ U.heap.size = G.1 + E.1 ∧ NW U)
def EvC (E F : EN) (d : Nat) (μ : MR) (as : List Value) (M : ME) (R : ME → Prop) : Prop := ∀ (l : Launch) (G : GE), Met l (mY μ) (wsM μ) (rmX d (F.1 - E.1) (szE F - szE E)) (PcX G E as M) (QcE G F (fun v M' => v = none ∧ R M')) (F.1 - E.1) (szE F - szE E) (fun q => G.1 < q)
theorem EvC_of {E F : EN} {d : Nat} {μ : MR} {as lv : List Value} {M : ME} {R : ME → Prop} (Z : MCK μ) (hl : lvE (mX μ) as = lv) (hn : (enL as).length ≤ mX μ) (hEF : E.1 ≤ F.1) (hsz : szE E ≤ szE F) (h : Wx E F d μ 0 lv [] M (fun v M' => v = none ∧ R M')) : EvC E F d μ as M R := by
  obtain ⟨O, hy, ho⟩ := Z
  intro l G
  refine Met.ofW (cc := mB μ) (maxL := mX μ) (ret := mT μ) hy rfl ?_
  intro p e s m args below meth c s₁ B hml hv
  obtain ⟨rfl, ⟨hP, hK, hw, hlt, hX, hb⟩, hsize, hnw⟩ := hv
  have hts : ∀ w ∈ wsM μ, w.before _ s = true := atoms_spec (ws := wsM μ) B.pre
  have hown : s.vm.findClass (mO μ) = some m.cls := by rw [← ho]; exact findClass_of_methodNamed B.named
  have hnm : meth.name = (mY μ).name := (name_of_methodNamed B.named B.method).1
  have hlocks := B.notSynchronized
  rw [lg_entry_eq]
  refine h G l p e _ s m _ below meth c s.heap [] 0 0 _ _ ⟨B.exec, B.bytes, hml, hown, fun w hw => hts w (List.mem_cons_of_mem _ hw), hK, ⟨Nat.le_refl _, Nat.le_refl _, Nat.zero_le _, Nat.zero_le _⟩, hw, hlt, ⟨hX, hb⟩, O⟩ hP va_S.rf (by rw [← hl]; exact lvE_has hn) (szE E) ⟨⟨by omega, by omega, ?_, ?_⟩, fun h9 => hnm.trans h9, hnw⟩ ?_
  · show G.1 + F.1 ≤ s.heap.size + (F.1 - E.1)
    omega
  · show szE F ≤ szE E + (szE F - szE E)
    omega
  · intro v M' H' locs' pc' ls' cells' slots' hR hro hP' hS' hZ
    have hr := B.returns
    have ec : cells' = F.1 - E.1 := by have := hZ.1; omega
    have es : slots' = szE F - szE E := by have := hZ.2.1; omega
    obtain ⟨rfl, hR⟩ := hR
    rcases hro with ⟨x, t, hv, -⟩ | ⟨x, hv, -⟩ | ⟨-, hi, ht⟩
    · cases hv
    · cases hv
    · rw [ec, es]
      exact W.vret B.exec B.bytes (by rw [hr, ht]) (fun T hT hW => ⟨none, M', rfl, ⟨rfl, hR⟩, by rw [hT]; exact hP', hS'.F hT⟩) hS'.2.2 (O.d hi)
section RCX
variable {E E1 F : EN} {d : Nat} {μ μ' : MR} {pc : Nat} {lv st stk as : List Value} {M : ME} {R : Option Value → ME → Prop} {R' : ME → Prop}
theorem run_X {G : GE} {l : Launch} {p : Program} {e : Env} {Rm : Room} {s : State} {m : MethodId} {args : Array Value} {below : List Frame} {meth : Method} {c : Code} {H : Heap} {locs : List Loc} {cells slots mc ms : Nat} {Q : State → Prop} {ls : Array Slot} {av : Array Value} (S : va_S (fun q => G.1 < q) s.heap H locs) (hr : va_Run p l e Rm s m args below meth c H locs cells slots mc ms (F0 m pc ls stk) (st.map (shV G)) (QcE G E1 (fun v M' => v = none ∧ R' M') av) (fun q => G.1 < q))
    (kk : ∀ (M' : ME) (H1 : Heap) (locs1 : List Loc), R' M' → Rp G E1 M' H1 → va_S (fun q => G.1 < q) s.heap H1 locs1 → W p l e Rm s m args below meth c H1 locs1 (cells + mc) (slots + ms) Q (F0 m (pc + 3) ls (st.map (shV G)))) : W p l e Rm s m args below meth c H locs cells slots Q (F0 m pc ls stk) := by
  intro T hT X
  obtain ⟨v, st₀, t, T', L, h0, X', hL, e1, e2, ⟨v', M', hv, ⟨rfl, hR⟩, hP, hz, hk⟩, hgo⟩ := hr T hT X
  cases hv
  rw [h0] at hz hk
  obtain ⟨t2, a1, b1⟩ := kk M' T'.heap (locs ++ L) hR (by rw [e1]; exact hP) ⟨Nat.le_trans S.1 (by rw [e1]; exact hz), fun q h1 h2 => by rw [e1, hk q (Nat.lt_of_lt_of_le h1 S.1) h2]; exact S.2.1 q h1 h2, fun q hq => by
      rcases List.mem_append.mp hq with h | h
      · exact S.2.2 q h
      · exact hL q h⟩ T' rfl X'
  exact ⟨t2, hgo t2 a1, b1⟩
theorem PcX_blind {G : GE} : FrameBlind (PcX G E as M) := by
  intro a U g mk q
  obtain ⟨q0, ⟨q1, q2, q3, q4, q5, q6⟩, q7, q8⟩ := q
  exact ⟨q0, ⟨q1, va_K.moved (u := U) (U := U.calling g mk a) (Vm.Alike.refl U.vm) q2, q3, q4, va_X.moved (u := U) (U := U.calling g mk a) (Vm.Alike.refl U.vm) q5, q6⟩, q7, NW_same (s := U) (U := U.calling g mk a) rfl q8⟩
theorem PcX_in {G : GE} {p : Program} {Rm : Room} {s : State} {m : MethodId} {args : Array Value} {c : Code} {cells slots : Nat} {H : Heap} {locs : List Loc} (C : Cx G E d μ p Rm s m args c cells slots) (P : Rp G E M H) (S : va_S (fun q => G.1 < q) s.heap H locs) (hH : H.size = G.1 + E.1) (hnw : NW s) : ∀ U : State, U.heap = H → s.WarmedH U.vm → PcX G E as M (as.map (shV G)).toArray U := fun U hU hW => by
  obtain ⟨q0, q1⟩ := PcE_in (as := as) C P S U hU hW
  exact ⟨q0, q1, by rw [hU]; exact hH, NW_moved hW hnw⟩
theorem LkC_X {own : String} {idx d n mc ms : Nat} {μ : MR} {R : Room} {s : State} {args : Array Value} (h : LkC own idx μ n) (ht : ∀ w ∈ TB, w.before args s = true) (hR : d + 1 ≤ R.frames ∧ 64 * (d + 1) ≤ R.locals) : CallB R s args own idx (mY μ) (mB μ) (mX μ) (mT μ) (wsM μ) (rmX d mc ms) mc ms n := by
  obtain ⟨h1, h2, h3, h4, h5⟩ := h
  have hG : GoodIn TB (wsM μ) := fun w hw => by
    rcases List.mem_cons.mp hw with rfl | hw
    · exact tb_good (fun _ h => h) _ h2
    · exact tb_good (fun _ h => h) _ hw
  exact callB_of n ht hG rfl rfl rfl (ht _ h3) (ht _ h1) h4 ⟨hR.1, by
    have : (rmX d mc ms).locals = 64 * d := rfl
    rw [this]
    have := hR.2
    omega⟩
/-- a maker is called -/
theorem x_cI {a idx : Nat} (h : (mI μ) pc = (.invokespecial idx, 3)) (lk : LkC (mO μ) idx μ' 0) (hi : (mY μ').name = "<init>") (hr : mT μ' = none) (w2 : Cond.instanceMethod (mY μ') ∈ TB) (hcat : (st.map fun v => v.category).sum ≤ 8) (h1 : 1 ≤ E.1) (hE1 : E.1 ≤ E1.1) (hs1 : szE E ≤ szE E1) (hF : E1.1 ≤ F.1) (hsF : szE E1 ≤ szE F) (hw1 : wfE E1) (hL : E1.2.2 = E.2.2) (ev : EvC E E1 d μ' [.ref a] M R') (k : ∀ M', R' M' → Wx E1 F (d + 1) μ (pc + 3) lv st M' R) : Wx E F (d + 1) μ pc lv (.ref a :: st) M R := by
  intro G l p e Rm s m args below meth c H locs cells slots Q ls C P S L sg Z K
  obtain ⟨hx, hb, hml, ho, ht, hK, hrm, hw, hlt, hX, O⟩ := id C
  intro T hT X
  have hH := sz_heap X hT P S hlt h1 Z.1
  have hCB := LkC_X (d := d) (R := Rm) (mc := E1.1 - E.1) (ms := szE E1 - szE E) lk ht ⟨hrm.1, hrm.2.1⟩
  rw [hr] at hCB
  obtain ⟨⟨z1, z2, z3, z4⟩, znm⟩ := Z
  have hW : W p l e Rm s m args below meth c H locs cells slots Q (F0 m pc ls (.ref (G.1 + a) :: st.map (shV G))) := by
    refine run_X (st := st) (R' := R') S (va_runI (As := []) (b := G.1 + a) (Ts := TB) (own := mO μ) (nL := mX μ) (index := idx) ⟨hx, hb, hml, ho, ht⟩ (ev l G) ⟨hCB, hi, ht _ w2⟩ ⟨PcX_blind, PcX_in (as := [.ref a]) C P S hH znm.2⟩ rfl rfl L.1 rfl (lv_room (by rw [cat_map]; exact hcat)) (O.d h) ⟨by omega, by omega⟩) (fun M' H1 locs1 hR hP' hS' => ?_)
    exact k M' hR G l p e Rm s m args below meth c H1 locs1 (cells + (E1.1 - E.1)) (slots + (szE E1 - szE E)) Q ls ⟨hx, hb, hml, ho, ht, hK, ⟨hrm.1, hrm.2.1, by omega, by omega⟩, hw1, hlt, by rw [hL]; exact hX, O⟩ hP' hS' L sg ⟨⟨by omega, by omega, z3, z4⟩, znm⟩ K
  exact hW T hT X
end RCX
section RCN
variable {E E1 F : EN} {d : Nat} {μ μ' : MR} {pc : Nat} {lv st stk as : List Value} {M : ME} {R : Option Value → ME → Prop} {R' : ME → Prop}
/-- what a call of a nest mate's maker asks of the tables -/
def LkN (own : String) (idx : Nat) (μ : MR) (host : String) : Prop := Cond.methodLinkNest own idx (mY μ) host ∈ NB ∧ Cond.code (mY μ) (mB μ) (mX μ) (mT μ) ∈ TB ∧ Cond.initialized (mY μ).cls ∈ TB ∧ ((mY μ).cls ≠ "java/lang/invoke/MethodHandle" ∧ (mY μ).cls ≠ "java/lang/invoke/VarHandle" ∧ (parseMethodDescriptor (mY μ).desc).map (fun d => d.parameters.length) = some 0) ∧ mX μ ≤ 45
theorem LkN_X {own host : String} {idx d mc ms : Nat} {μ : MR} {R : Room} {s : State} {args : Array Value} (h : LkN own idx μ host) (ht : ∀ w ∈ TB, w.before args s = true) (hnw : NW s) (hR : d + 1 ≤ R.frames ∧ 64 * (d + 1) ≤ R.locals) : va_CN R s args own idx (mY μ) host (mB μ) (mX μ) (mT μ) (wsM μ) (rmX d mc ms) mc ms 0 := by
  obtain ⟨h1, h2, h3, h4, h5⟩ := h
  have hG : GoodIn TB (wsM μ) := fun w hw => by
    rcases List.mem_cons.mp hw with rfl | hw
    · exact tb_good (fun _ h => h) _ h2
    · exact tb_good (fun _ h => h) _ hw
  exact va_cnB 0 ht hG rfl rfl rfl (hnw _ h1) (ht _ h3) h4 ⟨hR.1, by
    have : (rmX d mc ms).locals = 64 * d := rfl
    rw [this]
    have := hR.2
    omega⟩
theorem x_cIN {a idx : Nat} {host : String} (h : (mI μ) pc = (.invokespecial idx, 3)) (lk : LkN (mO μ) idx μ' host) (hi : (mY μ').name = "<init>") (hr : mT μ' = none) (w2 : Cond.instanceMethod (mY μ') ∈ TB) (hcat : (st.map fun v => v.category).sum ≤ 8) (h1 : 1 ≤ E.1) (hE1 : E.1 ≤ E1.1) (hs1 : szE E ≤ szE E1) (hF : E1.1 ≤ F.1) (hsF : szE E1 ≤ szE F) (hw1 : wfE E1) (hL : E1.2.2 = E.2.2) (ev : EvC E E1 d μ' [.ref a] M R') (k : ∀ M', R' M' → Wx E1 F (d + 1) μ (pc + 3) lv st M' R) : Wx E F (d + 1) μ pc lv (.ref a :: st) M R := by
  intro G l p e Rm s m args below meth c H locs cells slots Q ls C P S L sg Z K
  obtain ⟨hx, hb, hml, ho, ht, hK, hrm, hw, hlt, hX, O⟩ := id C
  intro T hT X
  have hH := sz_heap X hT P S hlt h1 Z.1
  have hCB := LkN_X (d := d) (R := Rm) (mc := E1.1 - E.1) (ms := szE E1 - szE E) lk ht Z.2.2 ⟨hrm.1, hrm.2.1⟩
  rw [hr] at hCB
  obtain ⟨⟨z1, z2, z3, z4⟩, znm⟩ := Z
  have hW : W p l e Rm s m args below meth c H locs cells slots Q (F0 m pc ls (.ref (G.1 + a) :: st.map (shV G))) := by
    refine run_X (st := st) (R' := R') S (va_runIN (As := []) (b := G.1 + a) (Ts := TB) (own := mO μ) (nL := mX μ) (index := idx) ⟨hx, hb, hml, ho, ht⟩ (ev l G) ⟨hCB, hi, ht _ w2⟩ ⟨PcX_blind, PcX_in (as := [.ref a]) C P S hH znm.2⟩ rfl rfl L.1 rfl (lv_room (by rw [cat_map]; exact hcat)) (O.d h) ⟨by omega, by omega⟩) (fun M' H1 locs1 hR hP' hS' => ?_)
    exact k M' hR G l p e Rm s m args below meth c H1 locs1 (cells + (E1.1 - E.1)) (slots + (szE E1 - szE E)) Q ls ⟨hx, hb, hml, ho, ht, hK, ⟨hrm.1, hrm.2.1, by omega, by omega⟩, hw1, hlt, by rw [hL]; exact hX, O⟩ hP' hS' L sg ⟨⟨by omega, by omega, z3, z4⟩, znm⟩ K
  exact hW T hT X
end RCN
section MKQ
variable {E F : EN} {d : Nat} {μ : MR} {pc : Nat} {lv st : List Value} {M : ME} {R : Option Value → ME → Prop}
theorem ent_q {G : GE} {E : EN} {M : ME} {k N t : Nat} (h : shp E k = (t, N)) (ht : t = 3 ∨ t = 4) : ent G E M k = .inl (G.2.2.2 t, N, .inr (.inr (.inr (.inr (fun j => rfG G.1 (gR M k j)))))) := by
  unfold ent
  rw [h]
  rcases ht with rfl | rfl <;> rfl
theorem sz_q {N t : Nat} (ht : t = 3 ∨ t = 4) : szC (t, N) = N := by rcases ht with rfl | rfl <;> rfl
/-- an array of trees or maps, all null -/
theorem x_newQ {idx N t : Nat} {T0 : String} (h : (mI μ) pc = (.anewarray idx, 3)) (ht0 : t = 3 ∨ t = 4) (hT0 : ∀ G : GE, (tysG G)[t - 1]? = some (G.2.2.2 t, .object T0)) (w1 : Cond.classLink (mO μ) idx T0 ∈ TB) (w2 : Cond.arrayOver (FieldType.object T0) ∈ NB) (hN : N < 2 ^ 20) (h1 : 1 ≤ E.1) (hF : E.1 + 1 ≤ F.1) (hsz : szE E + N ≤ szE F) (hz : ∀ j, M.2.2 E.1 j = 0) (k : Wx (grow E (t, N)) F d μ (pc + 3) lv (.ref E.1 :: st) M R) : Wx E F d μ pc lv (.int (nI N) :: st) M R := by
  intro G l p e Rm s m args below meth c H locs cells slots Q ls C P S L sg Z K
  obtain ⟨hx, hb, hml, ho, ht, hK, hrm, hw, hlt, hX, O⟩ := id C
  intro T hT X
  have hH := sz_heap X hT P S hlt h1 Z.1
  have hsc : szC (t, N) = N := sz_q ht0
  obtain ⟨C1, Z1⟩ := Cx_grow (q := (t, N)) C Z.1 h1 hF (by rw [hsc]; exact hsz)
  rw [hsc] at C1 Z1
  obtain ⟨⟨z1, z2, z3, z4⟩, znm⟩ := Z
  have hcl : (nI N).toNatClampNeg = N := nI_clamp (by omega)
  have hR : W p l e Rm s m args below meth c H locs cells slots Q (F0 m pc ls (.int (nI N) :: st.map (shV G))) := by
    refine W.anew hx hb ho (ht _ w1) (va_AO.use (C := T0) (znm.2 _ w2)) rfl (O.d h) (n := nI N) rfl (nI_pos (by omega)) (by rw [hcl]; omega) (by omega) (by rw [hcl]; omega) (fun cA kA comp g1 g2 g3 g4 => ?_)
    rw [hcl]
    generalize hH1 : H.push ({ cls := cA, slots := Array.replicate N .null, vm := .none } : Cell) = H'
    have s1 : H'.size = H.size + 1 := by rw [← hH1, Array.size_push]
    have e1 : H'[H.size]? = some (arrV cA N (fun _ => .null)) := by rw [← hH1, Array.getElem?_push_size, ← arrV_new]
    have o1 : ∀ q : Nat, q < H.size → H'[q]? = H[q]? := fun q hq => by rw [← hH1, Array.getElem?_push, if_neg (Nat.ne_of_lt hq)]
    have hcA : cA = G.2.2.2 t := by
      have := (hK.2 _ _ (hT0 G)).2
      obtain ⟨kA', comp', -, -, -, hf⟩ := this
      rw [hf] at g1
      exact (Option.some.inj g1).symm
    have hk : ∀ (i : Nat) (x : Nat × va_E), (wsOf G E M)[i]? = some x → H'[x.1]? = H[x.1]? := fun i x hx => o1 x.1 ((P i x hx).lt)
    have P1 : Rp G (grow E (t, N)) M H' := by
      unfold Rp
      rw [ws_grow h1]
      refine (va_P.kept P hk).app (fun i x hx => ?_)
      have hi : i < 1 := (List.getElem?_eq_some_iff.mp hx).1
      rw [show i = 0 by omega] at hx
      cases hx
      rw [ent_q (show shp (grow E (t, N)) E.1 = (t, N) from if_pos rfl) ht0]
      show H'[G.1 + E.1]? = some (arrV (G.2.2.2 t) N (fun j => va_rf (rfG G.1 (gR M E.1 j))))
      rw [← hH, e1, hcA]
      congr 2
      funext j
      rw [show gR M E.1 j = 0 from hz j]; rfl
    have S1 : va_S (fun q => G.1 < q) s.heap H' locs := ⟨by have := S.1; omega, fun q q1 q2 => (o1 q (by have := S.1; omega)).trans (S.2.1 q q1 q2), S.2.2⟩
    rw [hH]
    exact k G l p e Rm s m args below meth c H' locs (cells + 1) (slots + N) Q ls C1 P1 S1 L sg ⟨Z1, znm⟩ K
  exact hR T hT X
/-- an object that is made: its final fields point where the layout says -/
def made (E : EN) (a ci : Nat) : EN := (E.1, (fun k => if k = a then (ci + 10, 0) else shp E k), E.2.2)
theorem ent_made {G : GE} {E : EN} {M : ME} {a ci : Nat} (hs : (shp E a).1 = ci + 30) (hc : ci < 20) (hf : ∀ j o, kdF ci j = o + 2 → gR M a j = a + o) (ha : a ≠ 0) : ∀ k, ent G (made E a ci) M k = ent G E M k := fun k => by
  by_cases e : k = a
  · subst e
    rw [ent_raw hs, ent_o (E := made E k ci) (by show (if k = k then (ci + 10, 0) else shp E k).1 = ci + 10; rw [if_pos rfl]) hc]
    congr 2
    unfold flds
    refine List.map_congr_left (fun j _ => ?_)
    unfold fv
    generalize hy : kdF ci j = y
    cases y with
    | zero => rfl
    | succ y =>
      cases y with
      | zero => rfl
      | succ y =>
        show Value.ref (G.1 + (k + y)) = va_rf (rfG G.1 (gR M k j))
        rw [hf j y hy]
        unfold rfG
        rw [if_neg (by omega)]
        rfl
  · have : shp (made E a ci) k = shp E k := if_neg e
    unfold ent
    rw [this]
end MKQ
section MKM
variable {E F : EN} {d : Nat} {μ : MR} {pc : Nat} {lv st : List Value} {M : ME} {R : Option Value → ME → Prop}
theorem sz_made {a ci : Nat} (hs : (shp E a).1 = ci + 30) (hc : ci < 20) : szE (made E a ci) = szE E := by
  unfold szE
  show szK (shp (made E a ci)) (E.1 - 1) = _
  have key : ∀ n, szK (shp (made E a ci)) n = szK (shp E) n := fun n => by
    induction n with
    | zero => rfl
    | succ n ih =>
      show szK (shp (made E a ci)) n + szC (shp (made E a ci) (n + 1)) = szK (shp E) n + szC (shp E (n + 1))
      rw [ih]
      congr 1
      by_cases e : n + 1 = a
      · rw [show shp (made E a ci) (n + 1) = (ci + 10, 0) from if_pos e, e]
        unfold szC
        rw [hs]
        rw [if_neg (by show ¬ ci + 10 = 0; omega), if_neg (by show ¬ ci + 10 < 10; omega), if_pos (by show ci + 10 < 30; omega), if_neg (by omega), if_neg (by omega), if_neg (by omega)]
        show cFn (ci + 10 - 10) = cFn (ci + 30 - 30)
        rw [show ci + 10 - 10 = ci by omega, show ci + 30 - 30 = ci by omega]
      · rw [show shp (made E a ci) (n + 1) = shp E (n + 1) from if_neg e]
  exact key _
theorem wf_made {a ci : Nat} (hw : wfE E) (hs : (shp E a).1 = ci + 30) : wfE (made E a ci) := fun k hk => by
  by_cases e : k = a
  · rw [e]; exact hw a (by rw [hs]; omega)
  · rw [show shp (made E a ci) k = shp E k from if_neg e] at hk
    exact hw k hk
theorem x_made {a ci : Nat} (hs : (shp E a).1 = ci + 30) (hc : ci < 20) (ha : a ≠ 0) (hf : ∀ j o, kdF ci j = o + 2 → gR M a j = a + o) (k : Wx (made E a ci) F d μ pc lv st M R) : Wx E F d μ pc lv st M R := by
  intro G l p e Rm s m args below meth c H locs cells slots Q ls C P S L sg Z K
  obtain ⟨hx, hb, hml, ho, ht, hK, hrm, hw, hlt, hX, O⟩ := id C
  have P1 : Rp G (made E a ci) M H := by
    unfold Rp at *
    have : wsOf G (made E a ci) M = wsOf G E M := by
      unfold wsOf
      exact List.map_congr_left (fun k _ => by rw [ent_made hs hc hf ha])
    rw [this]; exact P
  exact k G l p e Rm s m args below meth c H locs cells slots Q ls ⟨hx, hb, hml, ho, ht, hK, hrm, wf_made hw hs, hlt, hX, O⟩ P1 S L sg ⟨⟨Z.1.1, by rw [sz_made hs hc]; exact Z.1.2.1, Z.1.2.2⟩, Z.2⟩ K
end MKM
section XLST
variable {E F : EN} {d : Nat} {μ μ' : MR} {pc : Nat} {lv st stk as : List Value} {M : ME} {R R' : Option Value → ME → Prop}
theorem x_getFr {a idx ci j : Nat} (h : (mI μ) pc = (.getfield idx, 3)) (f : LkF (mO μ) idx ci j) (hs : (shp E a).1 = ci + 30) (hk : kdF ci j ≠ 0) (h0 : gR M a j ≠ 0) (k : Wx E F d μ (pc + 3) lv (.ref (gR M a j) :: st) M R) : Wx E F d μ pc lv (.ref a :: st) M R := by
  intro G l p e Rm s m args below meth c H locs cells slots Q ls C P S L sg Z K
  obtain ⟨hx, hb, hml, ho, ht, hK, hrm, hw, hlt, hX, O⟩ := id C
  obtain ⟨q, f1, f2, f3⟩ := f
  have c1 := cl_ok ci q f1
  have h1 := ws_at (G := G) (M := M) hw (k := a) (by rw [hs]; exact Nat.succ_ne_zero _)
  rw [ent_raw hs] at h1
  have h2 : (flds G.1 M true ci a)[j]? = some (fv G.1 M true ci a j) := rng_at _ (by rw [cFn_of f1]; exact f2)
  have h3 : fv G.1 M true ci a j = shV G (.ref (gR M a j)) := by
    unfold fv
    generalize kdF ci j = y at hk
    cases y with
    | zero => exact absurd rfl hk
    | succ y =>
      cases y with
      | zero => simp [rfG, h0, va_rf, shV]
      | succ y => simp [rfG, h0, va_rf, shV]
  rw [h3] at h2
  exact va_get hx hb ht c1.1 ho hK P (a - 1) h1 f1 j f2 (ht _ f3) (fun _ h9 => h9) h2 (O.d h) (k G l p e Rm s m args below meth c H locs cells slots Q ls C P S L sg Z K)
theorem x_aast3 {a n x : Nat} {i : Int32} (h : (mI μ) pc = (.aastore, 1)) (hs : shp E a = (3, n)) (hi : vp_in i n) (hv : (shp E x).1 = 18) (k : Wx E F d μ (pc + 1) lv st (sR M a i.toNatClampNeg x) R) : Wx E F d μ pc lv (.ref x :: .int i :: .ref a :: st) M R := by
  intro G l p e Rm s m args below meth c H locs cells slots Q ls C P S L sg Z K
  obtain ⟨hx, hb, hml, ho, ht, hK, hrm, hw, hlt, hX, O⟩ := id C
  have h0 : (shp E a).1 ≠ 0 := by rw [hs]; exact Nat.succ_ne_zero _
  have h1 := ws_at (G := G) (M := M) hw (k := a) h0
  rw [ent_3 hs] at h1
  have h0x : (shp E x).1 ≠ 0 := by rw [hv]; exact Nat.succ_ne_zero _
  have h2 := ws_at (G := G) (M := M) hw (k := x) h0x
  rw [ent_o (ci := 8) hv (by decide)] at h2
  have hx0 : x ≠ 0 := Nat.pos_iff_ne_zero.mp (hw x h0x).1
  refine va_astq hx hb hK P ws_D S (a - 1) 2 (x - 1) 8 (r := (RX8, TX8, cFn 8)) h1 rfl h2 rfl hi (O.d h) (fun H1 locs1 P1 D1 S1 => ?_)
  refine k G l p e Rm s m args below meth c H1 locs1 cells slots Q ls C (Rp_sR hw h0 ?_ P1) S1 L sg Z K
  rw [ent_3 hs]
  congr 7
  funext z
  show rfG G.1 (up2 _ a _ x a z) = va_up _ _ _ z
  rw [up2_eq]
  by_cases hz : z = i.toNatClampNeg
  · simp [va_up, hz, rfG, hx0]
  · simp [va_up, hz]
theorem x_cV {a idx ci n : Nat} (h : (mI μ) pc = (.invokevirtual idx, 3)) (lk : LkV (mO μ) idx ci μ' n) (hn : as.length = n) (hst : as.reverse ++ .ref a :: st = stk) (hs : (shp E a).1 = ci + 10) (hcat : (st.map fun v => v.category).sum ≤ 8) (ev : Ev E d μ' (.ref a :: as) M R') (k : ∀ v M', R' v M' → Wx E F (d + 1) μ (pc + 3) lv (v.toList ++ st) M' R) : Wx E F (d + 1) μ pc lv stk M R := by
  intro G l p e Rm s m args below meth c H locs cells slots Q ls C P S L sg Z K
  obtain ⟨hx, hb, hml, ho, ht, hK, hrm, hw, hlt, hX, O⟩ := id C
  obtain ⟨l1, l2, l3, q, l4, l5⟩ := lk
  have hCB := LkC_B (d := d) (R := Rm) l1 ht ⟨hrm.1, hrm.2.1⟩
  have h1 := ws_at (G := G) (M := M) hw (k := a) (by rw [hs]; exact Nat.succ_ne_zero _)
  rw [ent_o hs (cl_lt l4)] at h1
  have hrc := va_recv hK P l4 h1
  rw [l5] at hrc
  refine run_W (st := st) (R' := R') S (va_runV (As := as.map (shV G)) (b := G.1 + a) (Ts := TB) (own := mO μ) (C := (mY μ').cls) (nL := mX μ) (index := idx) ⟨hx, hb, hml, ho, ht⟩ (ev l G) ⟨hCB, ht _ l2, ht _ l3⟩ ⟨PcE_blind, hrc, PcE_in (as := .ref a :: as) C P S⟩ rfl (by rw [List.length_map]; exact hn) L.1 ?_ (lv_room (by rw [cat_map]; exact hcat)) (O.d h) ⟨hrm.2.2.1, hrm.2.2.2⟩) (fun v M' H1 locs1 hR hP' hS' => k v M' hR G l p e Rm s m args below meth c H1 locs1 cells slots Q ls C hP' hS' L sg Z K)
  show stk.map (shV G) = _
  rw [← hst, List.map_append, List.map_reverse]
  rfl
end XLST
