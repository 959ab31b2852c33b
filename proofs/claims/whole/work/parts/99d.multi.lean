/-! a row of rows is made at one go (multianewarray of two dimensions): the outer cell first, then its rows -/
section MLT
variable {p : Program} {l : Launch} {e : Env} {R : Room} {s : State} {m : MethodId} {args : Array Value} {below : List Frame} {meth : Method} {c : Code} {locs : List Loc} {cells slots : Nat}
/-- the outer cell when i of its rows stand -/
def mlO (cA : ClassId) (N h i : Nat) : Cell := arrV cA N (fun j => if j < i then .ref (h + 1 + j) else .null)
def mlS (T : State) (cA comp : ClassId) (N K : Nat) (dv : Value) : Nat → State
  | 0 => T.pushCell (mlO cA N T.heap.size 0)
  | i + 1 => ((mlS T cA comp N K dv i).pushCell (arrV comp K (fun _ => dv))).setCell T.heap.size ((mlO cA N T.heap.size i).setSlot i (.ref (T.heap.size + 1 + i)))
theorem mlO_next (cA : ClassId) (N h i : Nat) : (mlO cA N h i).setSlot i (.ref (h + 1 + i)) = mlO cA N h (i + 1) := by
  unfold mlO
  rw [arrV_store]
  congr 1
  funext j
  unfold updV
  by_cases q : j = i
  · rw [if_pos q, if_pos (by omega), q]
  · rw [if_neg q]
    show (if j < i then Value.ref (h + 1 + j) else Value.null) = _
    by_cases w : j < i
    · rw [if_pos w, if_pos (by omega)]
    · rw [if_neg w, if_neg (by omega)]
theorem mlO_zero (cA : ClassId) (N h : Nat) : mlO cA N h 0 = arrV cA N (fun _ => .null) := by
  unfold mlO
  congr 1
/-- what holds of the heap when i rows stand -/
def mlG (T U : State) (cA comp : ClassId) (N K : Nat) (dv : Value) (i : Nat) : Prop := U.vm = T.vm ∧ U.heap.size = T.heap.size + 1 + i ∧ (∀ q : Nat, q < T.heap.size → U.heap[q]? = T.heap[q]?) ∧ U.heap[T.heap.size]? = some (mlO cA N T.heap.size i) ∧ ∀ j, j < i → U.heap[T.heap.size + 1 + j]? = some (arrV comp K (fun _ => dv))
theorem ml_good {T : State} (cA comp : ClassId) (N K : Nat) (dv : Value) : ∀ i, mlG T (mlS T cA comp N K dv i) cA comp N K dv i
  | 0 => ⟨rfl, by simp [mlS], fun q hq => State.heap_pushCell_of_lt _ _ hq, by simp [mlS], fun j hj => absurd hj (Nat.not_lt_zero _)⟩
  | i + 1 => by
    obtain ⟨g1, g2, g3, g4, g5⟩ := ml_good (T := T) cA comp N K dv i
    generalize hU : mlS T cA comp N K dv i = U at g1 g2 g3 g4 g5
    have hn : mlS T cA comp N K dv (i + 1) = (U.pushCell (arrV comp K (fun _ => dv))).setCell T.heap.size (mlO cA N T.heap.size (i + 1)) := by
      rw [← mlO_next, ← hU]; rfl
    have hs : (U.pushCell (arrV comp K (fun _ => dv))).heap.size = U.heap.size + 1 := by simp
    have hlt : T.heap.size < (U.pushCell (arrV comp K (fun _ => dv))).heap.size := by rw [hs, g2]; omega
    have hne : ∀ q : Nat, q ≠ T.heap.size → (mlS T cA comp N K dv (i + 1)).heap[q]? = (U.pushCell (arrV comp K (fun _ => dv))).heap[q]? := fun q hq => by
      rw [hn]; exact heapAt_setCell_ne _ (Ne.symm hq)
    refine ⟨by rw [hn]; exact g1, by rw [hn, size_setCell, hs, g2]; omega, fun q hq => ?_, by rw [hn]; exact heapAt_setCell_self _ hlt, fun j hj => ?_⟩
    · rw [hne q (by omega), State.heap_pushCell_of_lt _ _ (show q < U.heap.size by rw [g2]; omega)]
      exact g3 q hq
    · rw [hne _ (by omega)]
      by_cases w : j < i
      · rw [State.heap_pushCell_of_lt _ _ (show T.heap.size + 1 + j < U.heap.size by rw [g2]; omega)]
        exact g5 j w
      · have : T.heap.size + 1 + j = U.heap.size := by rw [g2]; omega
        rw [this]
        exact State.heap_pushCell_size _ _
theorem ml_stand {T : State} (X : Stand p l e R s m args below meth c T locs cells slots) (cA comp : ClassId) (N K : Nat) (dv : Value) : ∀ i, ∃ lo : List Loc, (∀ x ∈ lo, x.base = T.heap.size) ∧ Stand p l e R s m args below meth c (mlS T cA comp N K dv i) (locs ++ lo) (cells + 1 + i) (slots + N + i * K)
  | 0 => by
    refine ⟨[], fun x hx => absurd hx (by simp), ?_⟩
    have h := X.pushed (mlO cA N T.heap.size 0)
    rw [show (mlO cA N T.heap.size 0).slots.size = N from arrV_size _ _ _] at h
    rw [List.append_nil, Nat.zero_mul]
    exact h
  | i + 1 => by
    obtain ⟨lo, hlo, Xi⟩ := ml_stand X cA comp N K dv i
    obtain ⟨g1, g2, g3, g4, g5⟩ := ml_good (T := T) cA comp N K dv i
    have h := Xi.pushed (arrV comp K (fun _ => dv))
    rw [arrV_size] at h
    have hc : ((mlS T cA comp N K dv i).pushCell (arrV comp K (fun _ => dv))).heap[T.heap.size]? = some (mlO cA N T.heap.size i) := by
      rw [State.heap_pushCell_of_lt _ _ (show T.heap.size < (mlS T cA comp N K dv i).heap.size by rw [g2]; omega)]; exact g4
    have h2 := h.stored hc i (.ref (T.heap.size + 1 + i))
    refine ⟨lo ++ [⟨T.heap.size, i⟩], fun x hx => ?_, ?_⟩
    · rcases List.mem_append.mp hx with q | q
      · exact hlo x q
      · rw [List.mem_singleton.mp q]
    · rw [List.append_assoc] at h2
      rw [show slots + N + (i + 1) * K = slots + N + i * K + K by rw [Nat.succ_mul]; omega]
      exact h2
theorem ml_top (T : State) (f : JFrame) (cA comp : ClassId) (N K : Nat) (dv : Value) : ∀ i, mlS (T.setTop f) cA comp N K dv i = (mlS T cA comp N K dv i).setTop f
  | 0 => rfl
  | i + 1 => by
    show ((mlS (T.setTop f) cA comp N K dv i).pushCell _).setCell _ _ = _
    rw [ml_top T f cA comp N K dv i]
    rfl
end MLT
section MLP
variable {E : CtlPost} {e : Env} {d : Bool} {acts : List Action}
theorem ml_row {S : State} {comp cc : ClassId} {kC : Class} {ty : FieldType} {K : Nat} (hK : K < 1000) (hkC : S.vm.classes[comp]? = some kC) (hkC2 : kC.kind = .array cc ty) (hl : ¬ K > e.platform.arrayLengthLimit) (hh : ¬ K * componentBytes ty > e.platform.maxHeapBytes) (hdf : fits ty (defaultValue ty) = true) (r1 : S.heap.size < e.platform.maxCells) (r2 : S.slotsUsed + K ≤ e.platform.maxSlots)
    {Q : Addr → Pre} (hq : ∀ a', Q S.heap.size d a' (S.pushCell (arrV comp K (fun _ => defaultValue ty)))) : wp (multianewarray.make comp [nI K]) Q E e d acts S := by
  have hc : (nI K).toNatClampNeg = K := nI_clamp (by omega)
  have hp : ¬ nI K < 0 := nI_pos (by omega)
  rw [multianewarray.make]
  simp only [wp_bind', Jvm.W.ite, hp, if_false, wp_pure', Jvm.W.theClass, hkC, hkC2, Option.some.injEq, exists_eq_left', hc]
  refine Jvm.W.newArray_of hkC hkC2 hl hh r1 r2 hdf (fun a' => ?_)
  rw [arrV_new]
  exact hq a'
theorem ml_make {T : State} {cA comp cc : ClassId} {kA kC : Class} {ty : FieldType} {N K : Nat} (hN : N < 1000) (hK : K < 1000) (hkA : T.vm.classes[cA]? = some kA) (hkA2 : kA.kind = .array comp (.array ty)) (hkC : T.vm.classes[comp]? = some kC) (hkC2 : kC.kind = .array cc ty)
    (hl1 : ¬ N > e.platform.arrayLengthLimit) (hh1 : ¬ N * componentBytes (.array ty) > e.platform.maxHeapBytes) (hl : ¬ K > e.platform.arrayLengthLimit) (hh : ¬ K * componentBytes ty > e.platform.maxHeapBytes) (hdf : fits ty (defaultValue ty) = true)
    (r1 : T.heap.size < e.platform.maxCells) (r2 : T.slotsUsed + N ≤ e.platform.maxSlots) (r3 : ∀ i, i < N → (mlS T cA comp N K (defaultValue ty) i).heap.size < e.platform.maxCells ∧ (mlS T cA comp N K (defaultValue ty) i).slotsUsed + K ≤ e.platform.maxSlots)
    {Q : Addr → Pre} (hq : ∀ d' a', Q T.heap.size d' a' (mlS T cA comp N K (defaultValue ty) N)) : wp (multianewarray.make cA [nI N, nI K]) Q E e d acts T := by
  have hc : (nI N).toNatClampNeg = N := nI_clamp (by omega)
  have hp : ¬ nI N < 0 := nI_pos (by omega)
  have hp2 : ¬ nI K < 0 := nI_pos (by omega)
  have hfind : ([nI K].find? (· < 0)) = none := by simp [hp2]
  rw [multianewarray.make]
  simp only [wp_bind', Jvm.W.ite, hp, if_false, wp_pure', Jvm.W.theClass, hkA, hkA2, Option.some.injEq, exists_eq_left', hc]
  refine Jvm.W.newArray_of hkA hkA2 hl1 hh1 r1 r2 rfl (fun a' => ?_)
  simp only [hfind]
  rw [ite_self, wp_bind', Std.Legacy.Range.forIn_eq_forIn_range']
  rw [show ([:N] : Std.Legacy.Range).size = N by simp [Std.Legacy.Range.size]]
  show wp (forIn (List.range' 0 N 1) PUnit.unit _) _ E e d _ _
  refine wp_forIn_inv (fun rest S => ∃ i, i ≤ N ∧ rest = List.range' i (N - i) ∧ S = mlS T cA comp N K (defaultValue ty) i) _ _ ⟨0, Nat.zero_le _, rfl, ?_⟩ ?_ ?_
  · show T.pushCell _ = T.pushCell _
    rw [mlO_zero, ← arrV_new]
  · rintro x rest S d' a'' Q' ⟨i, hi, hl9, rfl⟩ hnext
    have hlt : i < N := by
      rcases Nat.lt_or_ge i N with q | q
      · exact q
      · rw [show N - i = 0 by omega] at hl9; simp at hl9
    rw [show N - i = (N - (i + 1)) + 1 by omega, List.range'_succ] at hl9
    obtain ⟨rfl, hrest⟩ := List.cons.inj hl9
    obtain ⟨g1, g2, g3, g4, g5⟩ := ml_good (T := T) cA comp N K (defaultValue ty) x
    obtain ⟨q1, q2⟩ := r3 x hlt
    simp only [wp_bind']
    refine ml_row hK (by rw [g1]; exact hkC) hkC2 hl hh hdf q1 q2 (fun a3 => ?_)
    simp only [wp_bind', Jvm.W.writeLoc, wp_pure']
    refine ⟨mlO cA N T.heap.size x, by rw [State.heap_pushCell_of_lt _ _ (show T.heap.size < (mlS T cA comp N K (defaultValue ty) x).heap.size by rw [g2]; omega)]; exact g4, (by unfold mlO arrV; simp), by rw [show (mlO cA N T.heap.size x).slots.size = N from arrV_size _ _ _]; exact hlt, ?_, hnext _ _ _ ⟨x + 1, hlt, hrest, ?_⟩⟩
    · show State.fitsSlot _ cA .none x _ = true
      simp [State.fitsSlot, State.slotType?, g1, hkA, hkA2, fits]
    · rw [g2]; rfl
  · rintro S d' a'' ⟨i, hi, hl9, rfl⟩
    have hiN : i = N := by
      rcases Nat.lt_or_ge i N with q | q
      · rw [show N - i = (N - (i + 1)) + 1 by omega, List.range'_succ] at hl9; cases hl9
      · omega
    subst hiN
    simp only [wp_pure']
    exact hq _ _
end MLP
section MLW
variable {p : Program} {l : Launch} {e : Env} {R : Room} {s : State} {m : MethodId} {args : Array Value} {below : List Frame} {meth : Method} {c : Code} {H : Heap} {locs : List Loc} {cells slots : Nat} {Q : State → Prop}
theorem wm_multi {cc : ByteArray} (hexec : p.tables.exec = Jvm.exec) (hb : c.code = cc) {own : String} {index : Nat} {ty : FieldType} (hown : s.vm.findClass own = some m.cls) (hclink : (Cond.classLink own index ("[" ++ (FieldType.array ty).toString)).before args s = true) (hover : (Cond.arrayOver (.array ty)).before args s = true) (harr : (Cond.arrayClass ty).before args s = true)
    {pc : Nat} {ls : Array Slot} {rest : List Value} {N K : Nat} (hN : N < 1000) (hK : K < 1000) (hdg : decode cc pc = .ok (.multianewarray index 2, 4)) (hdf : fits ty (defaultValue ty) = true) (hcb : componentBytes ty ≤ 8) (hcells : cells + (1 + N) ≤ R.cells) (hslots : slots + (N + N * K) ≤ R.slots)
    (kk : ∀ (H' : Heap) (cA comp : ClassId) (lo : List Loc), s.vm.findClass ("[" ++ (FieldType.array ty).toString) = some cA → s.vm.findClass (FieldType.array ty).toString = some comp → H'.size = H.size + 1 + N → (∀ q : Nat, q < H.size → H'[q]? = H[q]?) → H'[H.size]? = some (mlO cA N H.size N) → (∀ j, j < N → H'[H.size + 1 + j]? = some (arrV comp K (fun _ => defaultValue ty))) → (∀ x ∈ lo, x.base = H.size) →
      W p l e R s m args below meth c H' (locs ++ lo) (cells + 1 + N) (slots + N + N * K) Q (F0 m (pc + 4) ls (.ref H.size :: rest))) : W p l e R s m args below meth c H locs cells slots Q (F0 m pc ls (.int (nI K) :: .int (nI N) :: rest)) := by
  intro T hT X
  subst hT
  subst hb
  have hpl : e.platform.magicAccessors = ({} : Platform).magicAccessors := by rw [X.admits.platform]
  obtain ⟨comp, cA, kA, hcomp, -, hkA, hkA2, hnameA⟩ := arrayOverA_spec hover
  obtain ⟨comp', kC, cc2, hcomp', hkC, hkC2⟩ := Cond.arrayClass_spec harr
  have ec : comp' = comp := Option.some.inj (hcomp'.symm.trans hcomp)
  subst ec
  obtain ⟨c0, hfc0, hcl⟩ := Cond.classLink_spec hown hclink e.platform hpl
  cases hnameA.symm.trans hfc0
  obtain ⟨hg₁, hwarm₁, hready₁⟩ := State.classEntry (e := e) X.warmed hcl
  generalize T.vm.noted m.cls index (.cls cA) = vm₁ at hg₁ hwarm₁ hready₁
  obtain ⟨kA₁, hkA₁, heA⟩ := hwarm₁.alike.2.2 _ _ hkA
  obtain ⟨kC₁, hkC₁, heC⟩ := hwarm₁.alike.2.2 _ _ hkC
  have hkA3 : kA₁.kind = .array comp' (.array ty) := by rw [heA]; exact hkA2
  have hkC3 : kC₁.kind = .array cc2 ty := by rw [heC]; exact hkC2
  have X₁ := X.noted hwarm₁
  obtain ⟨lo, hlo, XN⟩ := ml_stand X₁ cA comp' N K (defaultValue ty) N
  obtain ⟨g1, g2, g3, g4, g5⟩ := ml_good (T := T.setVm vm₁) cA comp' N K (defaultValue ty) N
  obtain ⟨t, st1, hQ⟩ := kk _ cA comp' lo hnameA hcomp g2 g3 g4 g5 hlo _ rfl XN
  refine ⟨t, ?_, hQ⟩
  have hl1 : ¬ N > e.platform.arrayLengthLimit := by rw [Launch.admits_arrayLengthLimit X.admits]; omega
  have hh1 : ¬ N * componentBytes (.array ty) > e.platform.maxHeapBytes := by
    rw [Launch.admits_maxHeapBytes X.admits]; show ¬ N * 4 > 536870912; omega
  have hl2 : ¬ K > e.platform.arrayLengthLimit := by rw [Launch.admits_arrayLengthLimit X.admits]; omega
  have hh2 : ¬ K * componentBytes ty > e.platform.maxHeapBytes := by
    rw [Launch.admits_maxHeapBytes X.admits]
    have := Nat.mul_le_mul (Nat.le_of_lt hK) hcb
    omega
  have hroom : ∀ i, i < N → (mlS (T.setVm vm₁) cA comp' N K (defaultValue ty) i).heap.size < e.platform.maxCells ∧ (mlS (T.setVm vm₁) cA comp' N K (defaultValue ty) i).slotsUsed + K ≤ e.platform.maxSlots := fun i hi => by
    obtain ⟨lo2, -, Xi⟩ := ml_stand X₁ cA comp' N K (defaultValue ty) i
    have hm : (i + 1) * K ≤ N * K := Nat.mul_le_mul_right K hi
    rw [Nat.succ_mul] at hm
    obtain ⟨a1, a2⟩ := Xi.roomAbove (a := 1) (b := K) (by omega) (by omega)
    exact ⟨by omega, a2⟩
  obtain ⟨r1, r2⟩ := X₁.roomAbove (a := 1) (b := N) (by omega) (by omega)
  jvm_step X.here [hexec, hdg]
  simp only [multianewarray.sem, wp_bind', Jvm.W.resolveClassAt_links (State.method?_setTop (F0 m pc ls (.int (nI K) :: .int (nI N) :: rest)) X.here.top) hg₁]
  rw [Jvm.W.popN, if_neg (by decide)]
  refine ⟨F0 m pc ls (.int (nI K) :: .int (nI N) :: rest), State.topJava?_setTop' (s := T.setVm vm₁) _ X.here.top, [.int (nI N), .int (nI K)], rest, rfl, rfl, ?_⟩
  simp only [List.mapM_cons, List.mapM_nil, wp_bind', wp_pure']
  have eS : ((T.setTop (F0 m pc ls (.int (nI K) :: .int (nI N) :: rest))).setVm vm₁).setTop (F0 m pc ls rest) = (T.setVm vm₁).setTop (F0 m pc ls rest) := by
    show ((T.setVm vm₁).setTop _).setTop _ = _
    rw [State.setTop_setTop]
  rw [eS]
  refine ml_make (T := (T.setVm vm₁).setTop (F0 m pc ls rest)) (kA := kA₁) (kC := kC₁) (comp := comp') (cc := cc2) (ty := ty) hN hK hkA₁ hkA3 hkC₁ hkC3 hl1 hh1 hl2 hh2 hdf (by show T.heap.size < _; have : T.heap.size + 1 ≤ _ := r1; omega) r2 (fun i hi => by rw [ml_top]; exact hroom i hi) (fun d' a' => ?_)
  rw [ml_top]
  simp only [wp_bind', Jvm.W.mark, Jvm.W.pushRef, State.topJava?_setTop' _ XN.here.top, Option.some.injEq, exists_eq_left', State.setTop_setTop, State.heap_setTop]
  intro acts
  simp [jvm, XN.here.top]
  exact st1
end MLW
