/-! ROWS of memory -/
theorem ent_1 {G : GE} {E : EN} {M : ME} {k n : Nat} (h : shp E k = (1, n)) : ent G E M k = .inl (G.2.2.2 1, n, .inl (M.1 k)) := by
  unfold ent; rw [h]; rfl
theorem ent_2 {G : GE} {E : EN} {M : ME} {k n : Nat} (h : shp E k = (2, n)) : ent G E M k = .inl (G.2.2.2 2, n, .inr (.inl (M.2.1 k))) := by
  unfold ent; rw [h]; rfl
theorem ent_3 {G : GE} {E : EN} {M : ME} {k n : Nat} (h : shp E k = (3, n)) : ent G E M k = .inl (G.2.2.2 3, n, .inr (.inr (.inr (.inr (fun j => rfG G.1 (gR M k j)))))) := by
  unfold ent; rw [h]; rfl
theorem ent_4 {G : GE} {E : EN} {M : ME} {k n : Nat} (h : shp E k = (4, n)) : ent G E M k = .inl (G.2.2.2 4, n, .inr (.inr (.inr (.inr (fun j => rfG G.1 (gR M k j)))))) := by
  unfold ent; rw [h]; rfl
theorem ent_5 {G : GE} {E : EN} {M : ME} {k n : Nat} (h : shp E k = (5, n)) : ent G E M k = .inl (G.2.2.2 5, n, .inr (.inr (.inr (.inr (fun j => if j < n then some (G.1 + (k + 1 + j)) else none))))) := by
  unfold ent; rw [h]; rfl
theorem ent_6 {G : GE} {E : EN} {M : ME} {k n : Nat} (h : shp E k = (6, n)) : ent G E M k = .inl (G.2.2.2 6, n, .inr (.inr (.inr (.inr (fun j => if j < n then some (G.1 + (k + 1 + j)) else none))))) := by
  unfold ent; rw [h]; rfl
theorem ent_o {G : GE} {E : EN} {M : ME} {k ci : Nat} (h : (shp E k).1 = ci + 10) (hc : ci < 20) : ent G E M k = .inr (ci, flds G.1 M false ci k) := by
  unfold ent
  rw [h]
  split
  all_goals first | omega | skip
  rw [if_pos (by omega), Nat.add_sub_cancel]
theorem ent_r {G : GE} {E : EN} {M : ME} {k ci : Nat} (h : (shp E k).1 = ci + 30) : ent G E M k = .inr (ci, flds G.1 M true ci k) := by
  unfold ent
  rw [h]
  split
  all_goals first | omega | skip
  rw [if_neg (by omega), Nat.add_sub_cancel]
theorem fv_congr {B : Nat} {M M' : ME} {raw : Bool} {ci k j : Nat} (h1 : gI M' k j = gI M k j) (h2 : gR M' k j = gR M k j) : fv B M' raw ci k j = fv B M raw ci k j := by
  unfold fv; rw [h1, h2]
theorem ent_congr {G : GE} {E : EN} {M M' : ME} {k : Nat} (h1 : M'.1 k = M.1 k) (h2 : M'.2.1 k = M.2.1 k) (h3 : M'.2.2 k = M.2.2 k) : ent G E M' k = ent G E M k := by
  have hf : ∀ (raw : Bool) (ci : Nat), flds G.1 M' raw ci k = flds G.1 M raw ci k := fun raw ci => by
    unfold flds
    exact List.map_congr_left (fun j _ => fv_congr (by show M'.1 k j = M.1 k j; rw [h1]) (by show M'.2.2 k j = M.2.2 k j; rw [h3]))
  have hg : (fun j => rfG G.1 (gR M' k j)) = (fun j => rfG G.1 (gR M k j)) := funext fun j => by show rfG _ (M'.2.2 k j) = rfG _ (M.2.2 k j); rw [h3]
  unfold ent
  rw [h1, h2, hg]
  split <;> first | rfl | (rw [hf, hf])
theorem Rp_sI {G : GE} {E : EN} {M : ME} {H1 : Heap} {k j : Nat} {v : Int32} {x : va_E} (hw : wfE E) (hk : (shp E k).1 ≠ 0) (hx : ent G E (sI M k j v) k = x) (h : va_P G.2.2.1 vwCl ((wsOf G E M).set (k - 1) (G.1 + k, x)) H1) : Rp G E (sI M k j v) H1 := by
  rw [ws_set (M' := sI M k j v) hw hk hx (fun i hi => ent_congr (M := M) (M' := sI M k j v) (up2_ne hi) rfl rfl)] at h
  exact h
theorem Rp_sL {G : GE} {E : EN} {M : ME} {H1 : Heap} {k j : Nat} {v : Int64} {x : va_E} (hw : wfE E) (hk : (shp E k).1 ≠ 0) (hx : ent G E (sL M k j v) k = x) (h : va_P G.2.2.1 vwCl ((wsOf G E M).set (k - 1) (G.1 + k, x)) H1) : Rp G E (sL M k j v) H1 := by
  rw [ws_set (M' := sL M k j v) hw hk hx (fun i hi => ent_congr (M := M) (M' := sL M k j v) rfl (up2_ne hi) rfl)] at h
  exact h
theorem Rp_sR {G : GE} {E : EN} {M : ME} {H1 : Heap} {k j : Nat} {v : Nat} {x : va_E} (hw : wfE E) (hk : (shp E k).1 ≠ 0) (hx : ent G E (sR M k j v) k = x) (h : va_P G.2.2.1 vwCl ((wsOf G E M).set (k - 1) (G.1 + k, x)) H1) : Rp G E (sR M k j v) H1 := by
  rw [ws_set (M' := sR M k j v) hw hk hx (fun i hi => ent_congr (M := M) (M' := sR M k j v) rfl rfl (up2_ne hi))] at h
  exact h
theorem flds_sI {B : Nat} {M : ME} {raw : Bool} {ci k j : Nat} {v : Int32} (hk : kdF ci j = 0) : (flds B M raw ci k).set j (.int v) = flds B (sI M k j v) raw ci k := by
  have h := rng_set (n := cFn ci) (fv B M raw ci k) (fv B (sI M k j v) raw ci k) (k := j) (fun i hi => fv_congr (by show (up2 M.1 k j v) k i = M.1 k i; rw [up2_eq]; exact if_neg hi) rfl)
  have hv : fv B (sI M k j v) raw ci k j = .int v := by
    unfold fv; rw [hk]
    show Value.int ((up2 M.1 k j v) k j) = _
    rw [up2_eq]; simp
  rw [hv] at h
  exact h
theorem flds_sR {B : Nat} {M : ME} {ci k j : Nat} {v : Nat} {raw : Bool} (hk : kdF ci j = 1 ∨ (raw = true ∧ kdF ci j ≠ 0)) (hv0 : v ≠ 0) : (flds B M raw ci k).set j (.ref (B + v)) = flds B (sR M k j v) raw ci k := by
  have h := rng_set (n := cFn ci) (fv B M raw ci k) (fv B (sR M k j v) raw ci k) (k := j) (fun i hi => fv_congr rfl (by show (up2 M.2.2 k j v) k i = M.2.2 k i; rw [up2_eq]; exact if_neg hi))
  have hr : va_rf (rfG B (gR (sR M k j v) k j)) = .ref (B + v) := by
    show va_rf (rfG B ((up2 M.2.2 k j v) k j)) = _
    rw [up2_eq]; simp [rfG, hv0, va_rf]
  have hv : fv B (sR M k j v) raw ci k j = .ref (B + v) := by
    unfold fv
    rcases hk with hk | ⟨hk, h0⟩
    · rw [hk]; exact hr
    · subst hk
      split
      · rename_i h1; exact absurd h1 h0
      · exact hr
      · rw [if_pos rfl]; exact hr
  rw [hv] at h
  exact h
/-- links of fields -/
def LkF (own : String) (idx ci j : Nat) : Prop := ∃ q : vw_C, vwCl[ci]? = some q ∧ j < q.2.2 ∧ Cond.fieldLink own idx (q.2.1 j).1 (q.2.1 j).2.1 (q.2.1 j).2.2.1 ∈ TB
def LkP (own : String) (idx ci j : Nat) (ty : FieldType) : Prop := ∃ q : vw_C, vwCl[ci]? = some q ∧ j < q.2.2 ∧ Cond.fieldLink own idx (q.2.1 j).1 (q.2.1 j).2.1 (q.2.1 j).2.2.1 ∈ TB ∧ (q.2.1 j).2.2.2 = false ∧ parseFieldDescriptor (q.2.1 j).2.2.1 = some ty
theorem cl_lt {ci : Nat} {q : vw_C} (h : vwCl[ci]? = some q) : ci < 20 := by
  have := (List.getElem?_eq_some_iff.mp h).1
  exact Nat.lt_of_lt_of_le this (by decide)
theorem cFn_of {ci : Nat} {q : vw_C} (h : vwCl[ci]? = some q) : cFn ci = q.2.2 := by unfold cFn; rw [h]
section RM
variable {E : EN} {d : Nat} {μ : MR} {pc : Nat} {lv st : List Value} {M : ME} {R : Option Value → ME → Prop}
theorem r_getI {a idx ci j : Nat} (h : (mI μ) pc = (.getfield idx, 3)) (f : LkF (mO μ) idx ci j) (hs : (shp E a).1 = ci + 10) (hk : kdF ci j = 0) (k : Wp E d μ (pc + 3) lv (.int (gI M a j) :: st) M R) : Wp E d μ pc lv (.ref a :: st) M R := by
  intro G l p e Rm s m args below meth c H locs cells slots Q ls C P S L K
  obtain ⟨hx, hb, hml, ho, ht, hK, hrm, hw, hlt, hX, O⟩ := id C
  obtain ⟨q, f1, f2, f3⟩ := f
  have c1 := cl_ok ci q f1
  have h1 := ws_at (G := G) (M := M) hw (k := a) (by rw [hs]; exact Nat.succ_ne_zero _)
  rw [ent_o hs (cl_lt f1)] at h1
  have h2 : (flds G.1 M false ci a)[j]? = some (fv G.1 M false ci a j) := rng_at _ (by rw [cFn_of f1]; exact f2)
  have h3 : fv G.1 M false ci a j = shV G (.int (gI M a j)) := by
    unfold fv; rw [hk]; rfl
  rw [h3] at h2
  exact va_get hx hb ht c1.1 ho hK P (a - 1) h1 f1 j f2 (ht _ f3) (fun _ h9 => h9) h2 (O.d h) (k G l p e Rm s m args below meth c H locs cells slots Q ls C P S L K)
theorem r_getR {a idx ci j : Nat} (h : (mI μ) pc = (.getfield idx, 3)) (f : LkF (mO μ) idx ci j) (hs : (shp E a).1 = ci + 10) (hk : kdF ci j = 1) (h0 : gR M a j ≠ 0) (k : Wp E d μ (pc + 3) lv (.ref (gR M a j) :: st) M R) : Wp E d μ pc lv (.ref a :: st) M R := by
  intro G l p e Rm s m args below meth c H locs cells slots Q ls C P S L K
  obtain ⟨hx, hb, hml, ho, ht, hK, hrm, hw, hlt, hX, O⟩ := id C
  obtain ⟨q, f1, f2, f3⟩ := f
  have c1 := cl_ok ci q f1
  have h1 := ws_at (G := G) (M := M) hw (k := a) (by rw [hs]; exact Nat.succ_ne_zero _)
  rw [ent_o hs (cl_lt f1)] at h1
  have h2 : (flds G.1 M false ci a)[j]? = some (fv G.1 M false ci a j) := rng_at _ (by rw [cFn_of f1]; exact f2)
  have h3 : fv G.1 M false ci a j = shV G (.ref (gR M a j)) := by
    unfold fv; rw [hk]; simp [rfG, h0, va_rf, shV]
  rw [h3] at h2
  exact va_get hx hb ht c1.1 ho hK P (a - 1) h1 f1 j f2 (ht _ f3) (fun _ h9 => h9) h2 (O.d h) (k G l p e Rm s m args below meth c H locs cells slots Q ls C P S L K)
theorem r_getF {a idx ci j o : Nat} (h : (mI μ) pc = (.getfield idx, 3)) (f : LkF (mO μ) idx ci j) (hs : (shp E a).1 = ci + 10) (hk : kdF ci j = o + 2) (k : Wp E d μ (pc + 3) lv (.ref (a + o) :: st) M R) : Wp E d μ pc lv (.ref a :: st) M R := by
  intro G l p e Rm s m args below meth c H locs cells slots Q ls C P S L K
  obtain ⟨hx, hb, hml, ho, ht, hK, hrm, hw, hlt, hX, O⟩ := id C
  obtain ⟨q, f1, f2, f3⟩ := f
  have c1 := cl_ok ci q f1
  have h1 := ws_at (G := G) (M := M) hw (k := a) (by rw [hs]; exact Nat.succ_ne_zero _)
  rw [ent_o hs (cl_lt f1)] at h1
  have h2 : (flds G.1 M false ci a)[j]? = some (fv G.1 M false ci a j) := rng_at _ (by rw [cFn_of f1]; exact f2)
  have h3 : fv G.1 M false ci a j = shV G (.ref (a + o)) := by
    unfold fv; rw [hk]; rfl
  rw [h3] at h2
  exact va_get hx hb ht c1.1 ho hK P (a - 1) h1 f1 j f2 (ht _ f3) (fun _ h9 => h9) h2 (O.d h) (k G l p e Rm s m args below meth c H locs cells slots Q ls C P S L K)
theorem r_putI {a idx ci j : Nat} {x : Int32} {ty : FieldType} (h : (mI μ) pc = (.putfield idx, 3)) (f : LkP (mO μ) idx ci j ty) (hs : (shp E a).1 = ci + 10) (hk : kdF ci j = 0) (hn : narrow ty (.int x) = .int x) (hf : fits ty (.int x) = true) (k : Wp E d μ (pc + 3) lv st (sI M a j x) R) : Wp E d μ pc lv (.int x :: .ref a :: st) M R := by
  intro G l p e Rm s m args below meth c H locs cells slots Q ls C P S L K
  obtain ⟨hx, hb, hml, ho, ht, hK, hrm, hw, hlt, hX, O⟩ := id C
  obtain ⟨q, f1, f2, f3, f4, f5⟩ := f
  have c1 := cl_ok ci q f1
  have h0 : (shp E a).1 ≠ 0 := by rw [hs]; exact Nat.succ_ne_zero _
  have h1 := ws_at (G := G) (M := M) hw (k := a) h0
  rw [ent_o hs (cl_lt f1)] at h1
  obtain ⟨ty0, hty⟩ := c1.2.2
  have hlen : j < (flds G.1 M false ci a).length := by unfold flds; rw [List.length_map, List.length_range, cFn_of f1]; exact f2
  refine va_put hx hb ht c1.1 ty0 hty c1.2.1 ho hK P ws_D S (a - 1) h1 f1 j f2 (ht _ f3) (fun _ h9 => h9) f4 f5 hn hf hlen (O.d h) (fun H1 locs1 P1 D1 S1 => ?_)
  rw [show shV G (Value.int x) = .int x from rfl, flds_sI hk] at P1
  exact k G l p e Rm s m args below meth c H1 locs1 cells slots Q ls C (Rp_sI hw h0 (ent_o hs (cl_lt f1)) P1) S1 L K
theorem r_putR {a idx ci j x : Nat} {ty : FieldType} (h : (mI μ) pc = (.putfield idx, 3)) (f : LkP (mO μ) idx ci j ty) (hs : (shp E a).1 = ci + 10) (hk : kdF ci j = 1) (hn : ∀ z : Nat, narrow ty (.ref z) = .ref z) (hf : ∀ z : Nat, fits ty (.ref z) = true) (hx0 : x ≠ 0) (k : Wp E d μ (pc + 3) lv st (sR M a j x) R) : Wp E d μ pc lv (.ref x :: .ref a :: st) M R := by
  intro G l p e Rm s m args below meth c H locs cells slots Q ls C P S L K
  obtain ⟨hx, hb, hml, ho, ht, hK, hrm, hw, hlt, hX, O⟩ := id C
  obtain ⟨q, f1, f2, f3, f4, f5⟩ := f
  have c1 := cl_ok ci q f1
  have h0 : (shp E a).1 ≠ 0 := by rw [hs]; exact Nat.succ_ne_zero _
  have h1 := ws_at (G := G) (M := M) hw (k := a) h0
  rw [ent_o hs (cl_lt f1)] at h1
  obtain ⟨ty0, hty⟩ := c1.2.2
  have hlen : j < (flds G.1 M false ci a).length := by unfold flds; rw [List.length_map, List.length_range, cFn_of f1]; exact f2
  refine va_put hx hb ht c1.1 ty0 hty c1.2.1 ho hK P ws_D S (a - 1) h1 f1 j f2 (ht _ f3) (fun _ h9 => h9) f4 f5 (hn _) (hf _) hlen (O.d h) (fun H1 locs1 P1 D1 S1 => ?_)
  rw [show shV G (Value.ref x) = .ref (G.1 + x) from rfl, flds_sR (Or.inl hk) hx0] at P1
  exact k G l p e Rm s m args below meth c H1 locs1 cells slots Q ls C (Rp_sR hw h0 (ent_o hs (cl_lt f1)) P1) S1 L K
theorem r_iald {a n : Nat} {i : Int32} (h : (mI μ) pc = (.iaload, 1)) (hs : shp E a = (1, n)) (hi : vp_in i n) (k : Wp E d μ (pc + 1) lv (.int (gI M a i.toNatClampNeg) :: st) M R) : Wp E d μ pc lv (.int i :: .ref a :: st) M R := by
  intro G l p e Rm s m args below meth c H locs cells slots Q ls C P S L K
  obtain ⟨hx, hb, hml, ho, ht, hK, hrm, hw, hlt, hX, O⟩ := id C
  have h1 := ws_at (G := G) (M := M) hw (k := a) (by rw [hs]; exact Nat.succ_ne_zero _)
  rw [ent_1 hs] at h1
  exact va_iald hx hb hK P (a - 1) 0 h1 rfl hi (O.d h) (k G l p e Rm s m args below meth c H locs cells slots Q ls C P S L K)
theorem r_lald {a n : Nat} {i : Int32} (h : (mI μ) pc = (.laload, 1)) (hs : shp E a = (2, n)) (hi : vp_in i n) (k : Wp E d μ (pc + 1) lv (.long (gL M a i.toNatClampNeg) :: st) M R) : Wp E d μ pc lv (.int i :: .ref a :: st) M R := by
  intro G l p e Rm s m args below meth c H locs cells slots Q ls C P S L K
  obtain ⟨hx, hb, hml, ho, ht, hK, hrm, hw, hlt, hX, O⟩ := id C
  have h1 := ws_at (G := G) (M := M) hw (k := a) (by rw [hs]; exact Nat.succ_ne_zero _)
  rw [ent_2 hs] at h1
  exact va_lald hx hb hK P (a - 1) 1 h1 rfl hi (O.d h) (k G l p e Rm s m args below meth c H locs cells slots Q ls C P S L K)
theorem r_iast {a n : Nat} {i : Int32} {x : Int32} (h : (mI μ) pc = (.iastore, 1)) (hs : shp E a = (1, n)) (hi : vp_in i n) (k : Wp E d μ (pc + 1) lv st (sI M a i.toNatClampNeg x) R) : Wp E d μ pc lv (.int x :: .int i :: .ref a :: st) M R := by
  intro G l p e Rm s m args below meth c H locs cells slots Q ls C P S L K
  obtain ⟨hx, hb, hml, ho, ht, hK, hrm, hw, hlt, hX, O⟩ := id C
  have h0 : (shp E a).1 ≠ 0 := by rw [hs]; exact Nat.succ_ne_zero _
  have h1 := ws_at (G := G) (M := M) hw (k := a) h0
  rw [ent_1 hs] at h1
  refine va_iast hx hb hK P ws_D S (a - 1) 0 h1 rfl hi (O.d h) (fun H1 locs1 P1 D1 S1 => ?_)
  refine k G l p e Rm s m args below meth c H1 locs1 cells slots Q ls C (Rp_sI hw h0 ?_ P1) S1 L K
  rw [ent_1 hs]
  congr 4
  show up2 _ a _ x a = _
  rw [up2_eq]
  rfl
theorem r_last {a n : Nat} {i : Int32} {x : Int64} (h : (mI μ) pc = (.lastore, 1)) (hs : shp E a = (2, n)) (hi : vp_in i n) (k : Wp E d μ (pc + 1) lv st (sL M a i.toNatClampNeg x) R) : Wp E d μ pc lv (.long x :: .int i :: .ref a :: st) M R := by
  intro G l p e Rm s m args below meth c H locs cells slots Q ls C P S L K
  obtain ⟨hx, hb, hml, ho, ht, hK, hrm, hw, hlt, hX, O⟩ := id C
  have h0 : (shp E a).1 ≠ 0 := by rw [hs]; exact Nat.succ_ne_zero _
  have h1 := ws_at (G := G) (M := M) hw (k := a) h0
  rw [ent_2 hs] at h1
  refine va_last hx hb hK P ws_D S (a - 1) 1 h1 rfl hi (O.d h) (fun H1 locs1 P1 D1 S1 => ?_)
  refine k G l p e Rm s m args below meth c H1 locs1 cells slots Q ls C (Rp_sL hw h0 ?_ P1) S1 L K
  rw [ent_2 hs]
  congr 5
  show up2 _ a _ x a = _
  rw [up2_eq]
  rfl
theorem r_aald3 {a n : Nat} {i : Int32} (h : (mI μ) pc = (.aaload, 1)) (hs : shp E a = (3, n)) (hi : vp_in i n) (h0 : gR M a i.toNatClampNeg ≠ 0) (k : Wp E d μ (pc + 1) lv (.ref (gR M a i.toNatClampNeg) :: st) M R) : Wp E d μ pc lv (.int i :: .ref a :: st) M R := by
  intro G l p e Rm s m args below meth c H locs cells slots Q ls C P S L K
  obtain ⟨hx, hb, hml, ho, ht, hK, hrm, hw, hlt, hX, O⟩ := id C
  have h1 := ws_at (G := G) (M := M) hw (k := a) (by rw [hs]; exact Nat.succ_ne_zero _)
  rw [ent_3 hs] at h1
  have k1 := k G l p e Rm s m args below meth c H locs cells slots Q ls C P S L K
  have e1 : va_rf (rfG G.1 (gR M a i.toNatClampNeg)) = shV G (.ref (gR M a i.toNatClampNeg)) := by simp [rfG, h0, va_rf, shV]
  refine va_aldq hx hb hK P (a - 1) 2 h1 rfl hi (O.d h) ?_
  show W p l e Rm s m args below meth c H locs cells slots Q (F0 m (pc + 1) ls (va_rf (rfG G.1 (gR M a i.toNatClampNeg)) :: _))
  rw [e1]
  exact k1
theorem r_aald4 {a n : Nat} {i : Int32} (h : (mI μ) pc = (.aaload, 1)) (hs : shp E a = (4, n)) (hi : vp_in i n) (h0 : gR M a i.toNatClampNeg ≠ 0) (k : Wp E d μ (pc + 1) lv (.ref (gR M a i.toNatClampNeg) :: st) M R) : Wp E d μ pc lv (.int i :: .ref a :: st) M R := by
  intro G l p e Rm s m args below meth c H locs cells slots Q ls C P S L K
  obtain ⟨hx, hb, hml, ho, ht, hK, hrm, hw, hlt, hX, O⟩ := id C
  have h1 := ws_at (G := G) (M := M) hw (k := a) (by rw [hs]; exact Nat.succ_ne_zero _)
  rw [ent_4 hs] at h1
  have k1 := k G l p e Rm s m args below meth c H locs cells slots Q ls C P S L K
  have e1 : va_rf (rfG G.1 (gR M a i.toNatClampNeg)) = shV G (.ref (gR M a i.toNatClampNeg)) := by simp [rfG, h0, va_rf, shV]
  refine va_aldq hx hb hK P (a - 1) 3 h1 rfl hi (O.d h) ?_
  show W p l e Rm s m args below meth c H locs cells slots Q (F0 m (pc + 1) ls (va_rf (rfG G.1 (gR M a i.toNatClampNeg)) :: _))
  rw [e1]
  exact k1
theorem r_aald5 {a n : Nat} {i : Int32} (h : (mI μ) pc = (.aaload, 1)) (hs : shp E a = (5, n)) (hi : vp_in i n) (k : Wp E d μ (pc + 1) lv (.ref (a + 1 + i.toNatClampNeg) :: st) M R) : Wp E d μ pc lv (.int i :: .ref a :: st) M R := by
  intro G l p e Rm s m args below meth c H locs cells slots Q ls C P S L K
  obtain ⟨hx, hb, hml, ho, ht, hK, hrm, hw, hlt, hX, O⟩ := id C
  have h1 := ws_at (G := G) (M := M) hw (k := a) (by rw [hs]; exact Nat.succ_ne_zero _)
  rw [ent_5 hs] at h1
  have hlt2 : i.toNatClampNeg < n := Nat.not_le.mp fun q => hi (Or.inr q)
  have k1 := k G l p e Rm s m args below meth c H locs cells slots Q ls C P S L K
  refine W.aald (v := shV G (.ref (a + 1 + i.toNatClampNeg))) (ty := .array .int) hx hb (P (a - 1) _ h1) ((hK.2 4 _ rfl).1 n (fun j => va_rf (if j < n then some (G.1 + (a + 1 + j)) else none))) rfl (fun q => by cases q) (by show ¬ (i < 0 ∨ (arrV _ _ _).slots.size ≤ _); rw [arrV_size]; exact hi) (by
    show (arrV _ _ _).slots[_]? = _
    rw [arrV_read _ _ hlt2]
    simp [hlt2, va_rf, shV]) rfl rfl (O.d h) k1
theorem r_aald6 {a n : Nat} {i : Int32} (h : (mI μ) pc = (.aaload, 1)) (hs : shp E a = (6, n)) (hi : vp_in i n) (k : Wp E d μ (pc + 1) lv (.ref (a + 1 + i.toNatClampNeg) :: st) M R) : Wp E d μ pc lv (.int i :: .ref a :: st) M R := by
  intro G l p e Rm s m args below meth c H locs cells slots Q ls C P S L K
  obtain ⟨hx, hb, hml, ho, ht, hK, hrm, hw, hlt, hX, O⟩ := id C
  have h1 := ws_at (G := G) (M := M) hw (k := a) (by rw [hs]; exact Nat.succ_ne_zero _)
  rw [ent_6 hs] at h1
  have hlt2 : i.toNatClampNeg < n := Nat.not_le.mp fun q => hi (Or.inr q)
  have k1 := k G l p e Rm s m args below meth c H locs cells slots Q ls C P S L K
  refine W.aald (v := shV G (.ref (a + 1 + i.toNatClampNeg))) (ty := .array .long) hx hb (P (a - 1) _ h1) ((hK.2 5 _ rfl).1 n (fun j => va_rf (if j < n then some (G.1 + (a + 1 + j)) else none))) rfl (fun q => by cases q) (by show ¬ (i < 0 ∨ (arrV _ _ _).slots.size ≤ _); rw [arrV_size]; exact hi) (by
    show (arrV _ _ _).slots[_]? = _
    rw [arrV_read _ _ hlt2]
    simp [hlt2, va_rf, shV]) rfl rfl (O.d h) k1
theorem r_aast4 {a n x : Nat} {i : Int32} (h : (mI μ) pc = (.aastore, 1)) (hs : shp E a = (4, n)) (hi : vp_in i n) (hv : (shp E x).1 = 14) (k : Wp E d μ (pc + 1) lv st (sR M a i.toNatClampNeg x) R) : Wp E d μ pc lv (.ref x :: .int i :: .ref a :: st) M R := by
  intro G l p e Rm s m args below meth c H locs cells slots Q ls C P S L K
  obtain ⟨hx, hb, hml, ho, ht, hK, hrm, hw, hlt, hX, O⟩ := id C
  have h0 : (shp E a).1 ≠ 0 := by rw [hs]; exact Nat.succ_ne_zero _
  have h1 := ws_at (G := G) (M := M) hw (k := a) h0
  rw [ent_4 hs] at h1
  have h0x : (shp E x).1 ≠ 0 := by rw [hv]; exact Nat.succ_ne_zero _
  have h2 := ws_at (G := G) (M := M) hw (k := x) h0x
  rw [ent_o (ci := 4) hv (by decide)] at h2
  have hx0 : x ≠ 0 := Nat.pos_iff_ne_zero.mp (hw x h0x).1
  refine va_astq hx hb hK P ws_D S (a - 1) 3 (x - 1) 4 (r := (RX4, TX4, 10)) h1 rfl h2 rfl hi (O.d h) (fun H1 locs1 P1 D1 S1 => ?_)
  refine k G l p e Rm s m args below meth c H1 locs1 cells slots Q ls C (Rp_sR hw h0 ?_ P1) S1 L K
  rw [ent_4 hs]
  congr 7
  funext z
  show rfG G.1 (up2 _ a _ x a z) = va_up _ _ _ z
  rw [up2_eq]
  by_cases hz : z = i.toNatClampNeg
  · simp [va_up, hz, rfG, hx0]
  · simp [va_up, hz]
theorem r_alen {a n : Nat} {v : Int32} (h : (mI μ) pc = (.arraylength, 1)) (hs : shp E a = (1, n)) (hv : Int32.ofNat n = v) (k : Wp E d μ (pc + 1) lv (.int v :: st) M R) : Wp E d μ pc lv (.ref a :: st) M R := by
  intro G l p e Rm s m args below meth c H locs cells slots Q ls C P S L K
  obtain ⟨hx, hb, hml, ho, ht, hK, hrm, hw, hlt, hX, O⟩ := id C
  have h1 := ws_at (G := G) (M := M) hw (k := a) (by rw [hs]; exact Nat.succ_ne_zero _)
  rw [ent_1 hs] at h1
  exact va_alen hx hb hK P (a - 1) 0 h1 rfl hv (O.d h) (k G l p e Rm s m args below meth c H locs cells slots Q ls C P S L K)
theorem r_sld {z : Nat} {i : Int32} (h : (mI μ) pc = (.iaload, 1)) (hi : vp_in i E.2.2.1) (k : Wp E d μ (pc + 1) lv (.int (E.2.2.2 i.toNatClampNeg) :: st) M R) : Wp E d μ pc lv (.int i :: .retAddr z :: st) M R := by
  intro G l p e Rm s m args below meth c H locs cells slots Q ls C P S L K
  obtain ⟨hx, hb, hml, ho, ht, hK, hrm, hw, hlt, hX, O⟩ := id C
  exact va_sld hx hb hX.1 (Nat.lt_of_le_of_lt hX.2 hlt) (Nat.not_lt.mpr hX.2) S hi (O.d h) (k G l p e Rm s m args below meth c H locs cells slots Q ls C P S L K)
theorem r_slen {z : Nat} (h : (mI μ) pc = (.arraylength, 1)) (k : Wp E d μ (pc + 1) lv (.int (nI E.2.2.1) :: st) M R) : Wp E d μ pc lv (.retAddr z :: st) M R := by
  intro G l p e Rm s m args below meth c H locs cells slots Q ls C P S L K
  obtain ⟨hx, hb, hml, ho, ht, hK, hrm, hw, hlt, hX, O⟩ := id C
  exact va_slen hx hb hX.1 (Nat.lt_of_le_of_lt hX.2 hlt) (Nat.not_lt.mpr hX.2) S (O.d h) (k G l p e Rm s m args below meth c H locs cells slots Q ls C P S L K)
end RM
