/-! makings of objects; what a maker does to its own object -/
section MKO
variable {E F : EN} {d : Nat} {μ : MR} {pc : Nat} {lv st : List Value} {M : ME} {R : Option Value → ME → Prop}
theorem sz_raw {ci : Nat} {q : vw_C} (f1 : vwCl[ci]? = some q) : szC (ci + 30, 0) = q.2.2 := by
  unfold szC
  rw [if_neg (by show ¬ ci + 30 = 0; omega), if_neg (by show ¬ ci + 30 < 10; omega), if_neg (by show ¬ ci + 30 < 30; omega)]
  show cFn (ci + 30 - 30) = _
  rw [show ci + 30 - 30 = ci by omega, cFn_of f1]
theorem ent_raw {G : GE} {E : EN} {M : ME} {k ci : Nat} (hs : (shp E k).1 = ci + 30) : ent G E M k = .inr (ci, flds G.1 M true ci k) := by
  unfold ent
  rw [hs]
  split
  all_goals first
    | omega
    | (rw [if_neg (by omega), show ci + 30 - 30 = ci by omega])
theorem x_new {idx ci : Nat} {q : vw_C} (h : (mI μ) pc = (.new idx, 3)) (f1 : vwCl[ci]? = some q) (w1 : Cond.classLink (mO μ) idx q.1 ∈ TB) (w2 : Cond.instantiable q.1 q.2.2 ∈ TB) (w3 : Cond.initialized q.1 ∈ TB) (hd : ∀ ty : Nat → FieldType, (∀ k, k < q.2.2 → parseFieldDescriptor (q.2.1 k).2.2.1 = some (ty k)) → ∀ j, j < q.2.2 → defaultValue (ty j) = if kdF ci j = 0 then .int 0 else .null) (h1 : 1 ≤ E.1) (hF : E.1 + 1 ≤ F.1) (hsz : szE E + q.2.2 ≤ szE F) (hz : ∀ j, M.1 E.1 j = 0) (hzr : ∀ j, M.2.2 E.1 j = 0) (k : Wx (grow E (ci + 30, 0)) F d μ (pc + 3) lv (.ref E.1 :: st) M R) : Wx E F d μ pc lv st M R := by
  intro G l p e Rm s m args below meth c H locs cells slots Q ls C P S L sg Z K
  obtain ⟨hx, hb, hml, ho, ht, hK, hrm, hw, hlt, hX, O⟩ := id C
  intro T hT X
  have hH := sz_heap X hT P S hlt h1 Z
  have hsc := sz_raw f1
  obtain ⟨C1, Z1⟩ := Cx_grow (q := (ci + 30, 0)) C Z h1 hF (by rw [hsc]; exact hsz)
  rw [hsc] at C1 Z1
  obtain ⟨z1, z2, z3, z4⟩ := Z
  have c1 := cl_ok ci q f1
  obtain ⟨ty0, hty⟩ := c1.2.2
  have hKn := hK.1 ci _ f1
  have hR : W p l e Rm s m args below meth c H locs cells slots Q (F0 m pc ls (st.map (shV G))) := by
    refine W.newcK hx hb ho (ht _ w1) (ht _ w2) (ht _ w3) rfl (O.d h) (by omega) (by omega) hKn.2.1 hH (fun H' kC hkC e1 s1 o1 => ?_)
    have hk : ∀ (i : Nat) (x : Nat × va_E), (wsOf G E M)[i]? = some x → H'[x.1]? = H[x.1]? := fun i x hx => o1 x.1 (by rw [← hH]; exact (P i x hx).lt)
    have P1 : Rp G (grow E (ci + 30, 0)) M H' := by
      unfold Rp
      rw [ws_grow h1]
      refine (va_P.kept P hk).app (fun i x hx => ?_)
      have hi : i < 1 := (List.getElem?_eq_some_iff.mp hx).1
      rw [show i = 0 by omega] at hx
      cases hx
      rw [ent_raw (E := grow E (ci + 30, 0)) (k := E.1) (ci := ci) (by rw [show shp (grow E (ci + 30, 0)) E.1 = (ci + 30, 0) from if_pos rfl])]
      refine ⟨q, f1, (u_born ty0 ht c1.1 hKn hkC e1 hty).to (fun j hj => ?_)⟩
      rw [hd ty0 hty j hj]
      have e2 : (flds G.1 M true ci E.1)[j]? = some (fv G.1 M true ci E.1 j) := by
        unfold flds
        exact rng_at _ (by rw [cFn_of f1]; exact hj)
      have e3 : vp_V (flds G.1 M true ci E.1) j = fv G.1 M true ci E.1 j := by
        unfold vp_V
        rw [List.getD_eq_getElem?_getD, e2]
        rfl
      rw [e3]
      unfold fv
      rw [show gI M E.1 j = 0 from hz j, show gR M E.1 j = 0 from hzr j]
      generalize kdF ci j = y
      cases y with
      | zero => rfl
      | succ y =>
        cases y with
        | zero => rfl
        | succ y => rfl
    have S1 : va_S (fun q => G.1 < q) s.heap H' locs := ⟨by have := S.1; omega, fun q q1 q2 => (o1 q (by have := S.1; omega)).trans (S.2.1 q q1 q2), S.2.2⟩
    exact k G l p e Rm s m args below meth c H' locs (cells + 1) (slots + q.2.2) Q ls C1 P1 S1 L sg Z1 K
  exact hR T hT X
/-- Object's own maker does nothing -/
theorem x_obj {idx a : Nat} (h : (mI μ) pc = (.invokespecial idx, 3)) (w1 : Cond.methodLink (mO μ) idx Lib.objectInit ∈ TB) (w2 : Cond.instanceMethod Lib.objectInit ∈ TB) (w3 : Cond.code Lib.objectInit { data := #[177] } 1 none ∈ TB) (hcat : (st.map fun v => v.category).sum ≤ 8) (k : Wx E F (d + 1) μ (pc + 3) lv st M R) : Wx E F (d + 1) μ pc lv (.ref a :: st) M R := by
  intro G l p e Rm s m args below meth c H locs cells slots Q ls C P S L sg Z K
  obtain ⟨hx, hb, hml, ho, ht, hK, hrm, hw, hlt, hX, O⟩ := id C
  refine W.objInit hx hb ho (ht _ w1) (ht _ w2) (ht _ w3) rfl (by rw [hml]; exact L.1) rfl (O.d h) (by omega) ?_ (k G l p e Rm s m args below meth c H locs cells slots Q ls C P S L sg Z K)
  rw [List.map_map]
  have e : (st.map ((fun v => v.category) ∘ shV G)) = st.map (fun v => v.category) := List.map_congr_left (fun v _ => shV_cat G v)
  rw [e]
  show 2 * 0 + _ + 12 ≤ Rm.locals
  omega
end MKO
