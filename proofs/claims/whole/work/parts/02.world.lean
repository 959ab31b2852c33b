/-! THE WORLD. Cells are numbered from 1 on in the order in which they are made; cell k lies at B + k. Memory: ints, longs, references by cell and place. -/
abbrev GE : Type := Nat × Nat × va_G × (Nat → ClassId)
abbrev EN : Type := Nat × (Nat → Nat × Nat) × Nat × (Nat → Int32)
abbrev ME : Type := (Nat → Nat → Int32) × (Nat → Nat → Int64) × (Nat → Nat → Nat)
abbrev gI (M : ME) (k j : Nat) : Int32 := M.1 k j
abbrev gL (M : ME) (k j : Nat) : Int64 := M.2.1 k j
abbrev gR (M : ME) (k j : Nat) : Nat := M.2.2 k j
def up2 {α : Type} (f : Nat → Nat → α) (k j : Nat) (v : α) : Nat → Nat → α := fun a => if a = k then (fun b => if b = j then v else f a b) else f a
def sI (M : ME) (k j : Nat) (v : Int32) : ME := (up2 M.1 k j v, M.2.1, M.2.2)
def sL (M : ME) (k j : Nat) (v : Int64) : ME := (M.1, up2 M.2.1 k j v, M.2.2)
def sR (M : ME) (k j : Nat) (v : Nat) : ME := (M.1, M.2.1, up2 M.2.2 k j v)
theorem up2_ne {α : Type} {f : Nat → Nat → α} {k j : Nat} {v : α} {a : Nat} (h : a ≠ k) : up2 f k j v a = f a := if_neg h
theorem up2_eq {α : Type} {f : Nat → Nat → α} {k j : Nat} {v : α} : up2 f k j v k = fun b => if b = j then v else f k b := if_pos rfl
abbrev shp (E : EN) (k : Nat) : Nat × Nat := E.2.1 k
def rfG (B : Nat) (r : Nat) : Option Nat := if r = 0 then none else some (B + r)
/-- number of fields -/
def cFn (ci : Nat) : Nat := match vwCl[ci]? with
  | some q => q.2.2
  | none => 0
/-- a field's kind: 0 a number; 1 a reference that may change; o + 2 a final one, to the cell o behind the object's -/
def kdF (ci j : Nat) : Nat := match ci with
  | 0 => match j with
    | 0 => 3
    | _ => 0
  | 1 => match j with
    | 0 => 3
    | _ => 0
  | 2 => match j with
    | 0 => 3
    | 1 => 4
    | 2 => 5
    | _ => 0
  | 3 => match j with
    | 5 => 3
    | 6 => 4
    | 7 => 5
    | _ => 0
  | 4 => match j with
    | 4 => 3
    | 5 => 4
    | 6 => 5
    | 7 => 6
    | 8 => 7
    | 9 => 8
    | _ => 0
  | 5 => 0
  | 6 => 3
  | 7 => match j with
    | 0 => 3
    | _ => 0
  | 8 => match j with
    | 0 => 0
    | 1 => 3
    | 2 => 4
    | 3 => 5
    | 4 => 6
    | _ => 7
  | 9 => match j with
    | 0 => 3
    | 1 => 0
    | 2 => 4
    | 3 => 5
    | 4 => 1
    | 5 => 13
    | 6 => 17
    | 7 => 19
    | 8 => 36
    | 9 => 55
    | 10 => 57
    | 11 => 58
    | 12 => 62
    | 13 => 63
    | _ => 64
  | 10 => match j with
    | 1 => 3
    | 2 => 4
    | 3 => 5
    | 4 => 6
    | 5 => 7
    | 6 => 8
    | 9 => 9
    | 10 => 10
    | 11 => 11
    | 12 => 12
    | 13 => 13
    | 14 => 14
    | 15 => 15
    | 16 => 16
    | 21 => 17
    | 33 => 18
    | 34 => 19
    | 35 => 20
    | 36 => 21
    | _ => 0
  | _ => 0
/-- a field's value; raw: the object is being made, final fields stand in memory like the others -/
def fv (B : Nat) (M : ME) (raw : Bool) (ci k j : Nat) : Value := match kdF ci j with
  | 0 => .int (gI M k j)
  | 1 => va_rf (rfG B (gR M k j))
  | o + 2 => if raw = true then va_rf (rfG B (gR M k j)) else .ref (B + (k + o))
def flds (B : Nat) (M : ME) (raw : Bool) (ci k : Nat) : List Value := (List.range (cFn ci)).map (fv B M raw ci k)
/-- what a cell holds, by its shape: (1, n) ints, (2, n) longs, (3, n) trees, (4, n) maps, (5, n) rows of ints, (6, n) rows of longs, (c + 10, _) an object of class c, (c + 30, _) one that is being made -/
def ent (G : GE) (E : EN) (M : ME) (k : Nat) : va_E := match (shp E k).1 with
  | 1 => .inl (G.2.2.2 1, (shp E k).2, .inl (M.1 k))
  | 2 => .inl (G.2.2.2 2, (shp E k).2, .inr (.inl (M.2.1 k)))
  | 3 => .inl (G.2.2.2 3, (shp E k).2, .inr (.inr (.inr (.inr (fun j => rfG G.1 (gR M k j))))))
  | 4 => .inl (G.2.2.2 4, (shp E k).2, .inr (.inr (.inr (.inr (fun j => rfG G.1 (gR M k j))))))
  | 5 => .inl (G.2.2.2 5, (shp E k).2, .inr (.inr (.inr (.inr (fun j => if j < (shp E k).2 then some (G.1 + (k + 1 + j)) else none)))))
  | 6 => .inl (G.2.2.2 6, (shp E k).2, .inr (.inr (.inr (.inr (fun j => if j < (shp E k).2 then some (G.1 + (k + 1 + j)) else none)))))
  | c => if c < 30 then .inr (c - 10, flds G.1 M false (c - 10) k) else .inr (c - 30, flds G.1 M true (c - 30) k)
def wsOf (G : GE) (E : EN) (M : ME) : va_W := (List.range (E.1 - 1)).map (fun k => (G.1 + (k + 1), ent G E M (k + 1)))
def tysG (G : GE) : List (ClassId × FieldType) := [(G.2.2.2 1, .int), (G.2.2.2 2, .long), (G.2.2.2 3, .object "PlaneMaps$Tree"), (G.2.2.2 4, .object "PlaneMaps$RootedMap"), (G.2.2.2 5, .array .int), (G.2.2.2 6, .array .long)]
def wfE (E : EN) : Prop := ∀ k, (shp E k).1 ≠ 0 → 0 < k ∧ k < E.1
def Rp (G : GE) (E : EN) (M : ME) (H : Heap) : Prop := va_P G.2.2.1 vwCl (wsOf G E M) H
theorem rng_at {α : Type} (f : Nat → α) {n k : Nat} (h : k < n) : ((List.range n).map f)[k]? = some (f k) := by
  rw [List.getElem?_map, List.getElem?_range h]; rfl
theorem rng_set {α : Type} (f g : Nat → α) {n k : Nat} (hg : ∀ j, j ≠ k → g j = f j) : ((List.range n).map f).set k (g k) = (List.range n).map g := by
  apply List.ext_getElem?
  intro j
  by_cases hj : j = k
  · subst hj
    by_cases hn : j < n
    · rw [List.getElem?_set_self (by simpa using hn), rng_at g hn]
    · rw [List.getElem?_eq_none (by simpa using hn), List.getElem?_eq_none (by simpa using hn)]
  · rw [List.getElem?_set_ne (Ne.symm hj), List.getElem?_map, List.getElem?_map]
    cases h : (List.range n)[j]? with
    | none => rfl
    | some x =>
      have : x = j := by
        have h2 := List.getElem?_eq_some_iff.mp h
        obtain ⟨h3, h4⟩ := h2
        rw [List.getElem_range] at h4
        exact h4.symm
      subst this
      simp [hg x hj]
theorem ws_at {G : GE} {E : EN} {M : ME} (hw : wfE E) {k : Nat} (hk : (shp E k).1 ≠ 0) : (wsOf G E M)[k - 1]? = some (G.1 + k, ent G E M k) := by
  obtain ⟨h1, h2⟩ := hw k hk
  obtain ⟨j, rfl⟩ : ∃ j, k = j + 1 := ⟨k - 1, by omega⟩
  exact rng_at (fun k => (G.1 + (k + 1), ent G E M (k + 1))) (by omega : j < E.1 - 1)
theorem ws_set {G : GE} {E : EN} {M M' : ME} (hw : wfE E) {k : Nat} (hk : (shp E k).1 ≠ 0) {x : va_E} (hx : ent G E M' k = x) (ho : ∀ j, j ≠ k → ent G E M' j = ent G E M j) : (wsOf G E M).set (k - 1) (G.1 + k, x) = wsOf G E M' := by
  obtain ⟨h1, h2⟩ := hw k hk
  obtain ⟨j, rfl⟩ : ∃ j, k = j + 1 := ⟨k - 1, by omega⟩
  subst hx
  exact rng_set (fun k => (G.1 + (k + 1), ent G E M (k + 1))) (fun k => (G.1 + (k + 1), ent G E M' (k + 1))) (k := j) (fun i hi => by
    show (_, _) = (_, _)
    rw [ho (i + 1) (by omega)])
theorem ws_D {G : GE} {E : EN} {M : ME} : va_D (fun q => G.1 < q) (wsOf G E M) := by
  have key : ∀ (i : Nat) (x : Nat × va_E), (wsOf G E M)[i]? = some x → x.1 = G.1 + (i + 1) := by
    intro i x hx
    by_cases h : i < E.1 - 1
    · have := rng_at (fun k => (G.1 + (k + 1), ent G E M (k + 1))) h
      have e := hx.symm.trans this
      cases e
      rfl
    · have : (wsOf G E M)[i]? = none := List.getElem?_eq_none (by simp [wsOf]; omega)
      rw [this] at hx; cases hx
  refine ⟨fun i j x y hi hj hxy => ?_, fun i x hx => ?_⟩
  · have h1 := key i x hi
    have h2 := key j y hj
    omega
  · have h1 := key i x hx
    show G.1 < x.1
    omega
/-- a pure value as the machine has it: references are cells' numbers; a return address stands for the script -/
def shV (G : GE) : Value → Value
  | .ref k => .ref (G.1 + k)
  | .retAddr _ => .ref G.2.1
  | v => v
theorem shV_cat (G : GE) (v : Value) : (shV G v).category = v.category := by cases v <;> rfl
theorem shV_null (G : GE) (v : Value) : shV G v = .null ↔ v = .null := by cases v <;> simp [shV]
/-! locals: by place; .null where nothing is known -/
def hsL (ls : Array Slot) (nL : Nat) (lv : List Value) : Prop := ls.size = nL ∧ lv_wf ls ∧ ∀ (i : Nat) (v : Value), lv[i]? = some v → v ≠ .null → ls[i]? = some (.val v)
def ivL (lv : List Value) (i : Nat) : List Value := match i with
  | 0 => lv
  | j + 1 => match lv[j]? with
    | some w => if w.category = 2 then lv.set j .null else lv
    | none => lv
def stL (lv : List Value) (i : Nat) (v : Value) : List Value := (ivL lv i).set i v
def stL2 (lv : List Value) (i : Nat) (v : Value) : List Value := (stL lv i v).set (i + 1) .null
def asL (lv : List Value) : List (Nat × Value) := (List.range lv.length).filterMap (fun i => match lv[i]? with
  | some Value.null => none
  | some v => some (i, v)
  | none => none)
theorem asL_mem {lv : List Value} {i : Nat} {v : Value} (h : lv[i]? = some v) (hv : v ≠ .null) : (i, v) ∈ asL lv := by
  refine List.mem_filterMap.mpr ⟨i, List.mem_range.mpr (List.getElem?_eq_some_iff.mp h).1, ?_⟩
  rw [h]
  cases v <;> simp_all
theorem asL_of {lv : List Value} {q : Nat × Value} (h : q ∈ asL lv) : lv[q.1]? = some q.2 ∧ q.2 ≠ .null := by
  obtain ⟨i, -, hi⟩ := List.mem_filterMap.mp h
  cases hl : lv[i]? with
  | none => rw [hl] at hi; cases hi
  | some w =>
    rw [hl] at hi
    cases w <;> simp at hi <;> subst hi <;> exact ⟨hl, by simp⟩
theorem hsL_kit {ls : Array Slot} {nL : Nat} {lv : List Value} (h : hsL ls nL lv) : lv_has ls nL (asL lv) := ⟨h.1, h.2.1, fun q hq => h.2.2 q.1 q.2 (asL_of hq).1 (asL_of hq).2⟩
theorem ivL_at {lv : List Value} {i j : Nat} {v : Value} (h : (ivL lv i)[j]? = some v) (hv : v ≠ .null) : lv[j]? = some v ∧ ¬ (j + 1 = i ∧ v.category = 2) := by
  unfold ivL at h
  cases i with
  | zero => exact ⟨h, fun q => by omega⟩
  | succ m =>
    dsimp only at h
    cases hm : lv[m]? with
    | none =>
      rw [hm] at h
      refine ⟨h, fun q => ?_⟩
      obtain ⟨q1, -⟩ := q
      have : j = m := by omega
      subst this
      have h' : lv[j]? = some v := h
      rw [hm] at h'; cases h'
    | some w =>
      rw [hm] at h
      dsimp only at h
      by_cases hc : w.category = 2
      · rw [if_pos hc] at h
        by_cases hj : j = m
        · subst hj
          rw [List.getElem?_set_self (List.getElem?_eq_some_iff.mp hm).1] at h
          cases h
          exact absurd rfl hv
        · rw [List.getElem?_set_ne (Ne.symm hj)] at h
          exact ⟨h, fun q => hj (by omega)⟩
      · rw [if_neg hc] at h
        refine ⟨h, fun q => ?_⟩
        obtain ⟨q1, q2⟩ := q
        have : j = m := by omega
        subst this
        rw [hm] at h
        cases h
        exact hc q2
theorem stL_at {lv : List Value} {i j : Nat} {v w : Value} (h : (stL lv i v)[j]? = some w) (hw : w ≠ .null) : (j = i ∧ w = v) ∨ (j ≠ i ∧ lv[j]? = some w ∧ ¬ (j + 1 = i ∧ w.category = 2)) := by
  unfold stL at h
  by_cases hj : j = i
  · subst hj
    have hl := (List.getElem?_eq_some_iff.mp h).1
    rw [List.length_set] at hl
    rw [List.getElem?_set_self hl] at h
    cases h
    exact Or.inl ⟨rfl, rfl⟩
  · rw [List.getElem?_set_ne (Ne.symm hj)] at h
    exact Or.inr ⟨hj, ivL_at h hw⟩
theorem hsL_st {ls' : Array Slot} {nL i : Nat} {lv : List Value} {v : Value} (h : lv_has ls' nL ((i, v) :: (asL lv).filter (fun q => !(q.1 == i) && !(q.1 + 1 == i && q.2.category == 2)))) : hsL ls' nL (stL lv i v) := by
  refine ⟨h.1, h.2.1, fun j w hj hw => ?_⟩
  rcases stL_at hj hw with ⟨rfl, rfl⟩ | ⟨h1, h2, h3⟩
  · exact h.2.2 (_, _) List.mem_cons_self
  · refine h.2.2 (j, w) (List.mem_cons_of_mem _ (List.mem_filter.mpr ⟨asL_mem h2 hw, ?_⟩))
    by_cases e : j + 1 = i
    · have : ¬ w.category = 2 := fun q => h3 ⟨e, q⟩
      simp [h1, this]
    · simp [h1, e]
theorem hsL_st2 {ls' : Array Slot} {nL i : Nat} {lv : List Value} {v : Value} (h : lv_has ls' nL ((i, v) :: (asL lv).filter (fun q => !(q.1 == i) && (!(q.1 == i + 1) && !(q.1 + 1 == i && q.2.category == 2))))) : hsL ls' nL (stL2 lv i v) := by
  refine ⟨h.1, h.2.1, fun j w hj hw => ?_⟩
  unfold stL2 at hj
  by_cases hji : j = i + 1
  · subst hji
    have hl := (List.getElem?_eq_some_iff.mp hj).1
    rw [List.length_set] at hl
    rw [List.getElem?_set_self hl] at hj
    cases hj
    exact absurd rfl hw
  · rw [List.getElem?_set_ne (Ne.symm hji)] at hj
    rcases stL_at hj hw with ⟨rfl, rfl⟩ | ⟨h1, h2, h3⟩
    · exact h.2.2 (_, _) List.mem_cons_self
    · refine h.2.2 (j, w) (List.mem_cons_of_mem _ (List.mem_filter.mpr ⟨asL_mem h2 hw, ?_⟩))
      by_cases e : j + 1 = i
      · have : ¬ w.category = 2 := fun q => h3 ⟨e, q⟩
        simp [h1, hji, this]
      · simp [h1, hji, e]
theorem map_ivL (G : GE) (lv : List Value) (i : Nat) : (ivL lv i).map (shV G) = ivL (lv.map (shV G)) i := by
  unfold ivL
  cases i with
  | zero => rfl
  | succ m =>
    dsimp only
    rw [List.getElem?_map]
    cases lv[m]? with
    | none => rfl
    | some w =>
      simp only [Option.map_some, shV_cat]
      by_cases hc : w.category = 2
      · rw [if_pos hc, if_pos hc, List.map_set]; rfl
      · rw [if_neg hc, if_neg hc]
theorem map_stL (G : GE) (lv : List Value) (i : Nat) (v : Value) : (stL lv i v).map (shV G) = stL (lv.map (shV G)) i (shV G v) := by
  unfold stL; rw [List.map_set, map_ivL]
theorem map_stL2 (G : GE) (lv : List Value) (i : Nat) (v : Value) : (stL2 lv i v).map (shV G) = stL2 (lv.map (shV G)) i (shV G v) := by
  unfold stL2; rw [List.map_set, map_stL]; rfl
theorem hsL_ld {G : GE} {ls : Array Slot} {nL i : Nat} {lv : List Value} {v : Value} (h : hsL ls nL (lv.map (shV G))) (hi : lv[i]? = some v) (hv : v ≠ .null) : ls[i]? = some (.val (shV G v)) :=
  h.2.2 i (shV G v) (by rw [List.getElem?_map, hi]; rfl) (fun e => hv ((shV_null G v).mp e))
/-! a method: name, bytes, locals, answer's type, class, instructions -/
abbrev MR : Type := MethodName × ByteArray × Nat × Option FieldType × String × (Nat → Instr × Nat)
abbrev mY (μ : MR) : MethodName := μ.1
abbrev mB (μ : MR) : ByteArray := μ.2.1
abbrev mX (μ : MR) : Nat := μ.2.2.1
abbrev mT (μ : MR) : Option FieldType := μ.2.2.2.1
abbrev mO (μ : MR) : String := μ.2.2.2.2.1
abbrev mI (μ : MR) : Nat → Instr × Nat := μ.2.2.2.2.2
/-- its instructions are those of its bytes; its class; its code is among the words -/
def MOK (μ : MR) : Prop := (∀ pc : Nat, ((mI μ) pc).2 = 0 ∨ decode (mB μ) pc = .ok ((mI μ) pc))
theorem MOK.d {μ : MR} (O : MOK μ) {pc : Nat} {i : Instr} {n : Nat} (h : (mI μ) pc = (i, n + 1)) : decode (mB μ) pc = .ok (i, n + 1) := by
  rcases O pc with h1 | h1
  · rw [h] at h1; cases h1
  · rw [h1, h]
def rmD (d : Nat) : Room := { frames := d, cells := 0, slots := 0, locals := 64 * d }
def Cx (G : GE) (E : EN) (d : Nat) (μ : MR) (p : Program) (Rm : Room) (s : State) (m : MethodId) (args : Array Value) (c : Code) (cells slots : Nat) : Prop :=
  p.tables.exec = Jvm.exec ∧ c.code = mB μ ∧ c.maxLocals = mX μ ∧ s.vm.findClass (mO μ) = some m.cls ∧ (∀ w ∈ TB, w.before args s = true) ∧ va_K G.2.2.1 vwCl (tysG G) s ∧ (d ≤ Rm.frames ∧ 64 * d ≤ Rm.locals ∧ cells ≤ Rm.cells ∧ slots ≤ Rm.slots) ∧ wfE E ∧ G.1 < s.heap.size ∧ (va_X G.2.1 E.2.2.1 E.2.2.2 s s.heap ∧ G.2.1 ≤ G.1) ∧ MOK μ
/-- where a method may end, with what -/
def rOK (μ : MR) (pc : Nat) (v : Option Value) : Prop := (∃ (x : Int32) (t : FieldType), v = some (.int x) ∧ (mI μ) pc = (.ireturn, 1) ∧ mT μ = some t ∧ narrow t (.int x) = .int x) ∨ (∃ x : Int64, v = some (.long x) ∧ (mI μ) pc = (.lreturn, 1) ∧ mT μ = some .long) ∨ (v = none ∧ (mI μ) pc = (.return_, 1) ∧ mT μ = none)
def Wp (E : EN) (d : Nat) (μ : MR) (pc : Nat) (lv st : List Value) (M : ME) (R : Option Value → ME → Prop) : Prop :=
  ∀ (G : GE) (l : Launch) (p : Program) (e : Env) (Rm : Room) (s : State) (m : MethodId) (args : Array Value) (below : List Frame) (meth : Method) (c : Code) (H : Heap) (locs : List Loc) (cells slots : Nat) (Q : State → Prop) (ls : Array Slot),
    Cx G E d μ p Rm s m args c cells slots → Rp G E M H → va_S (fun q => G.1 < q) s.heap H locs → hsL ls (mX μ) (lv.map (shV G)) →
    (∀ (v : Option Value) (M' : ME) (H' : Heap) (locs' : List Loc) (pc' : Nat) (ls' : Array Slot), R v M' → rOK μ pc' v → Rp G E M' H' → va_S (fun q => G.1 < q) s.heap H' locs' → W p l e Rm s m args below meth c H' locs' cells slots Q (F0 m pc' ls' (v.toList.map (shV G)))) →
    W p l e Rm s m args below meth c H locs cells slots Q (F0 m pc ls (st.map (shV G)))
