/-! THE MAKING: a world that grows. Wx E F: from the world E on, to a return over the world F -/
/-- how many fields or elements a cell has; all cells together -/
def szC (q : Nat × Nat) : Nat := if q.1 = 0 then 0 else if q.1 < 10 then q.2 else if q.1 < 30 then cFn (q.1 - 10) else cFn (q.1 - 30)
def szK (f : Nat → Nat × Nat) : Nat → Nat
  | 0 => 0
  | k + 1 => szK f k + szC (f (k + 1))
def szE (E : EN) : Nat := szK (shp E) (E.1 - 1)
def Sz (G : GE) (E F : EN) (Rm : Room) (s : State) (cells slots sg : Nat) : Prop := s.heap.size + cells = G.1 + E.1 ∧ slots + sg = szE E ∧ G.1 + F.1 ≤ s.heap.size + Rm.cells ∧ szE F ≤ sg + Rm.slots
/-- words that a callee isn't handed by the tables: nest mates' makers, arrays over arrays and objects -/
def nbW (w : Cond) : Bool := match w with
  | .methodLinkNest _ _ _ _ => true
  | .arrayOver (.array _) => true
  | .arrayOver (.object _) => true
  | _ => false
def NB : List Cond := lw_tbl.filter nbW
theorem nb_in {w : Cond} (i : Nat) (h : lw_tbl[i]? = some w) (g : nbW w = true) : w ∈ NB := List.mem_filter.mpr ⟨List.mem_of_getElem? h, g⟩
def NW (s : State) : Prop := ∀ w ∈ NB, va_Nw w s
theorem NW_moved {s U : State} (hW : s.WarmedH U.vm) (h : NW s) : NW U := fun w hw => by
  have h1 := h w hw
  have h2 : nbW w = true := (List.mem_filter.mp hw).2
  unfold nbW at h2
  split at h2
  · exact va_Nw.warmM hW h1
  · exact over_moved hW.alike h1
  · exact va_AO.moved hW.alike h1
  · cases h2
theorem NW_same {s U : State} (hv : s.vm = U.vm) (h : NW s) : NW U := fun w hw => by
  have h1 := h w hw
  have h2 : nbW w = true := (List.mem_filter.mp hw).2
  have hal : s.vm.Alike U.vm := by rw [← hv]; exact Vm.Alike.refl _
  unfold nbW at h2
  split at h2
  · exact va_Nw.same rfl hv h1
  · exact over_moved hal h1
  · exact va_AO.moved hal h1
  · cases h2
def Sy (G : GE) (E F : EN) (μ : MR) (meth : Method) (Rm : Room) (s : State) (cells slots sg : Nat) : Prop := Sz G E F Rm s cells slots sg ∧ ((mY μ).name = "<init>" → meth.name = "<init>") ∧ NW s
def Wx (E F : EN) (d : Nat) (μ : MR) (pc : Nat) (lv st : List Value) (M : ME) (R : Option Value → ME → Prop) : Prop :=
  ∀ (G : GE) (l : Launch) (p : Program) (e : Env) (Rm : Room) (s : State) (m : MethodId) (args : Array Value) (below : List Frame) (meth : Method) (c : Code) (H : Heap) (locs : List Loc) (cells slots : Nat) (Q : State → Prop) (ls : Array Slot),
    Cx G E d μ p Rm s m args c cells slots → Rp G E M H → va_S (fun q => G.1 < q) s.heap H locs → hsL ls (mX μ) (lv.map (shV G)) → ∀ sg : Nat, Sy G E F μ meth Rm s cells slots sg →
    (∀ (v : Option Value) (M' : ME) (H' : Heap) (locs' : List Loc) (pc' : Nat) (ls' : Array Slot) (cells' slots' : Nat), R v M' → rOK μ pc' v → Rp G F M' H' → va_S (fun q => G.1 < q) s.heap H' locs' → Sz G F F Rm s cells' slots' sg → W p l e Rm s m args below meth c H' locs' cells' slots' Q (F0 m pc' ls' (v.toList.map (shV G)))) →
    W p l e Rm s m args below meth c H locs cells slots Q (F0 m pc ls (st.map (shV G)))
section XW
variable {E F : EN} {d : Nat} {μ : MR} {pc : Nat} {lv lv2 st : List Value} {M : ME} {R : Option Value → ME → Prop}
theorem x_iadd {x y : Int32} (h : (mI μ) pc = (.iadd, 1))  (k : Wx E F d μ (pc + 1) lv (.int (x + y) :: st) M R) : Wx E F d μ pc lv (.int y :: .int x :: st) M R := by
  intro G l p e Rm s m args below meth c H locs cells slots Q ls C P S L sg Z K
  obtain ⟨hx, hb, hml, ho, ht, hK, hrm, hw, hlt, hX, O⟩ := id C
  exact lv_iadd hx hb (O.d h)  (k G l p e Rm s m args below meth c H locs cells slots Q ls C P S L sg Z K)
theorem x_isub {x y : Int32} (h : (mI μ) pc = (.isub, 1))  (k : Wx E F d μ (pc + 1) lv (.int (x - y) :: st) M R) : Wx E F d μ pc lv (.int y :: .int x :: st) M R := by
  intro G l p e Rm s m args below meth c H locs cells slots Q ls C P S L sg Z K
  obtain ⟨hx, hb, hml, ho, ht, hK, hrm, hw, hlt, hX, O⟩ := id C
  exact lv_isub hx hb (O.d h)  (k G l p e Rm s m args below meth c H locs cells slots Q ls C P S L sg Z K)
theorem x_iconst {n : Int} (v : Int32) (h : (mI μ) pc = (.iconst n, 1)) (hv : Int32.ofInt n = v) (k : Wx E F d μ (pc + 1) lv (.int v :: st) M R) : Wx E F d μ pc lv (st) M R := by
  intro G l p e Rm s m args below meth c H locs cells slots Q ls C P S L sg Z K
  obtain ⟨hx, hb, hml, ho, ht, hK, hrm, hw, hlt, hX, O⟩ := id C
  exact lv_iconst hx hb (O.d h) hv (k G l p e Rm s m args below meth c H locs cells slots Q ls C P S L sg Z K)
theorem x_bipush {n : Int} (v : Int32) (h : (mI μ) pc = (.bipush n, 2)) (hv : (Int8.ofInt n).toInt32 = v) (k : Wx E F d μ (pc + 2) lv (.int v :: st) M R) : Wx E F d μ pc lv (st) M R := by
  intro G l p e Rm s m args below meth c H locs cells slots Q ls C P S L sg Z K
  obtain ⟨hx, hb, hml, ho, ht, hK, hrm, hw, hlt, hX, O⟩ := id C
  exact lv_bipush hx hb (O.d h) hv (k G l p e Rm s m args below meth c H locs cells slots Q ls C P S L sg Z K)
theorem x_sipush {n : Int} (v : Int32) (h : (mI μ) pc = (.sipush n, 3)) (hv : (Int16.ofInt n).toInt32 = v) (k : Wx E F d μ (pc + 3) lv (.int v :: st) M R) : Wx E F d μ pc lv (st) M R := by
  intro G l p e Rm s m args below meth c H locs cells slots Q ls C P S L sg Z K
  obtain ⟨hx, hb, hml, ho, ht, hK, hrm, hw, hlt, hX, O⟩ := id C
  exact lv_sipush hx hb (O.d h) hv (k G l p e Rm s m args below meth c H locs cells slots Q ls C P S L sg Z K)
theorem x_lconst {n : Fin 2} (v : Int64) (h : (mI μ) pc = (.lconst n, 1)) (hv : Int64.ofNat (n : Nat) = v) (k : Wx E F d μ (pc + 1) lv (.long v :: st) M R) : Wx E F d μ pc lv (st) M R := by
  intro G l p e Rm s m args below meth c H locs cells slots Q ls C P S L sg Z K
  obtain ⟨hx, hb, hml, ho, ht, hK, hrm, hw, hlt, hX, O⟩ := id C
  exact lv_lconst hx hb (O.d h) hv (k G l p e Rm s m args below meth c H locs cells slots Q ls C P S L sg Z K)
theorem x_iload_n {i : Fin 4} {x : Int32} (h : (mI μ) pc = (.iload_n i, 1)) (hv : lv[(i : Nat)]? = some (.int x)) (k : Wx E F d μ (pc + 1) lv (.int x :: st) M R) : Wx E F d μ pc lv (st) M R := by
  intro G l p e Rm s m args below meth c H locs cells slots Q ls C P S L sg Z K
  obtain ⟨hx, hb, hml, ho, ht, hK, hrm, hw, hlt, hX, O⟩ := id C
  exact lv_iload_n hx hb (O.d h) rfl (hsL_ld L hv (by simp)) (k G l p e Rm s m args below meth c H locs cells slots Q ls C P S L sg Z K)
theorem x_aload_n {i : Fin 4} {x : Nat} (h : (mI μ) pc = (.aload_n i, 1)) (hv : lv[(i : Nat)]? = some (.ref x)) (k : Wx E F d μ (pc + 1) lv (.ref x :: st) M R) : Wx E F d μ pc lv (st) M R := by
  intro G l p e Rm s m args below meth c H locs cells slots Q ls C P S L sg Z K
  obtain ⟨hx, hb, hml, ho, ht, hK, hrm, hw, hlt, hX, O⟩ := id C
  exact lv_aload_n hx hb (O.d h) rfl (hsL_ld L hv (by simp)) (k G l p e Rm s m args below meth c H locs cells slots Q ls C P S L sg Z K)
theorem x_istore_n {i : Fin 4} {x : Int32} (h : (mI μ) pc = (.istore_n i, 1)) (hn : (i : Nat) < mX μ) (hl : stL lv (i : Nat) (.int x) = lv2) (k : Wx E F d μ (pc + 1) lv2 st M R) : Wx E F d μ pc lv (.int x :: st) M R := by
  intro G l p e Rm s m args below meth c H locs cells slots Q ls C P S L sg Z K
  obtain ⟨hx, hb, hml, ho, ht, hK, hrm, hw, hlt, hX, O⟩ := id C
  exact lv_istore_n hx hb (O.d h) rfl (hsL_kit L) hn rfl (fun ls2 hl2 => k G l p e Rm s m args below meth c H locs cells slots Q ls2 C P S (by rw [← hl, map_stL]; exact hsL_st hl2) sg Z K)
theorem x_iinc {i : Nat} {n : Int} {x v : Int32} (h : (mI μ) pc = (.iinc i n, 3)) (hn : i < mX μ) (hg : lv[i]? = some (.int x)) (hv : x + Int32.ofInt n = v) (hl : stL lv i (.int v) = lv2) (k : Wx E F d μ (pc + 3) lv2 st M R) : Wx E F d μ pc lv st M R := by
  intro G l p e Rm s m args below meth c H locs cells slots Q ls C P S L sg Z K
  obtain ⟨hx, hb, hml, ho, ht, hK, hrm, hw, hlt, hX, O⟩ := id C
  have hm : (i, Value.int x) ∈ asL (lv.map (shV G)) := asL_mem (by rw [List.getElem?_map, hg]; rfl) (by simp)
  obtain ⟨q, hq⟩ := List.getElem?_of_mem hm
  exact lv_iinc hx hb (O.d h) (hsL_kit L) hq hv hn rfl (fun ls2 hl2 => k G l p e Rm s m args below meth c H locs cells slots Q ls2 C P S (by rw [← hl, map_stL]; exact hsL_st hl2) sg Z K)
theorem x_dup {v : Value} (h : (mI μ) pc = (.dup, 1)) (hv : v.category = 1) (k : Wx E F d μ (pc + 1) lv (v :: v :: st) M R) : Wx E F d μ pc lv (v :: st) M R := by
  intro G l p e Rm s m args below meth c H locs cells slots Q ls C P S L sg Z K
  obtain ⟨hx, hb, hml, ho, ht, hK, hrm, hw, hlt, hX, O⟩ := id C
  exact lv_dup hx hb (O.d h) ((shV_cat G v).trans hv) (k G l p e Rm s m args below meth c H locs cells slots Q ls C P S L sg Z K)
theorem x_if_eq {x : Int32} {off : Int} {tgt : Nat} (h : (mI μ) pc = (.ifCond .eq off, 3)) (hg : (pc : Int) + off = (tgt : Int)) (kt : x = 0 → Wx E F d μ tgt lv st M R) (kf : ¬ x = 0 → Wx E F d μ (pc + 3) lv st M R) : Wx E F d μ pc lv (.int x :: st) M R := by
  intro G l p e Rm s m args below meth c H locs cells slots Q ls C P S L sg Z K
  obtain ⟨hx, hb, hml, ho, ht, hK, hrm, hw, hlt, hX, O⟩ := id C
  exact lv_if_eq hx hb (O.d h) hg (fun q => kt q G l p e Rm s m args below meth c H locs cells slots Q ls C P S L sg Z K) (fun q => kf q G l p e Rm s m args below meth c H locs cells slots Q ls C P S L sg Z K)
theorem x_icmp_eq {x y : Int32} {off : Int} {tgt : Nat} (h : (mI μ) pc = (.if_icmp .eq off, 3)) (hg : (pc : Int) + off = (tgt : Int)) (kt : x = y → Wx E F d μ tgt lv st M R) (kf : ¬ x = y → Wx E F d μ (pc + 3) lv st M R) : Wx E F d μ pc lv (.int y :: .int x :: st) M R := by
  intro G l p e Rm s m args below meth c H locs cells slots Q ls C P S L sg Z K
  obtain ⟨hx, hb, hml, ho, ht, hK, hrm, hw, hlt, hX, O⟩ := id C
  exact lv_icmp_eq hx hb (O.d h) hg (fun q => kt q G l p e Rm s m args below meth c H locs cells slots Q ls C P S L sg Z K) (fun q => kf q G l p e Rm s m args below meth c H locs cells slots Q ls C P S L sg Z K)
theorem x_if_ne {x : Int32} {off : Int} {tgt : Nat} (h : (mI μ) pc = (.ifCond .ne off, 3)) (hg : (pc : Int) + off = (tgt : Int)) (kt : ¬ x = 0 → Wx E F d μ tgt lv st M R) (kf : x = 0 → Wx E F d μ (pc + 3) lv st M R) : Wx E F d μ pc lv (.int x :: st) M R := by
  intro G l p e Rm s m args below meth c H locs cells slots Q ls C P S L sg Z K
  obtain ⟨hx, hb, hml, ho, ht, hK, hrm, hw, hlt, hX, O⟩ := id C
  exact lv_if_ne hx hb (O.d h) hg (fun q => kt q G l p e Rm s m args below meth c H locs cells slots Q ls C P S L sg Z K) (fun q => kf q G l p e Rm s m args below meth c H locs cells slots Q ls C P S L sg Z K)
theorem x_icmp_ne {x y : Int32} {off : Int} {tgt : Nat} (h : (mI μ) pc = (.if_icmp .ne off, 3)) (hg : (pc : Int) + off = (tgt : Int)) (kt : ¬ x = y → Wx E F d μ tgt lv st M R) (kf : x = y → Wx E F d μ (pc + 3) lv st M R) : Wx E F d μ pc lv (.int y :: .int x :: st) M R := by
  intro G l p e Rm s m args below meth c H locs cells slots Q ls C P S L sg Z K
  obtain ⟨hx, hb, hml, ho, ht, hK, hrm, hw, hlt, hX, O⟩ := id C
  exact lv_icmp_ne hx hb (O.d h) hg (fun q => kt q G l p e Rm s m args below meth c H locs cells slots Q ls C P S L sg Z K) (fun q => kf q G l p e Rm s m args below meth c H locs cells slots Q ls C P S L sg Z K)
theorem x_if_lt {x : Int32} {off : Int} {tgt : Nat} (h : (mI μ) pc = (.ifCond .lt off, 3)) (hg : (pc : Int) + off = (tgt : Int)) (kt : x < 0 → Wx E F d μ tgt lv st M R) (kf : ¬ x < 0 → Wx E F d μ (pc + 3) lv st M R) : Wx E F d μ pc lv (.int x :: st) M R := by
  intro G l p e Rm s m args below meth c H locs cells slots Q ls C P S L sg Z K
  obtain ⟨hx, hb, hml, ho, ht, hK, hrm, hw, hlt, hX, O⟩ := id C
  exact lv_if_lt hx hb (O.d h) hg (fun q => kt q G l p e Rm s m args below meth c H locs cells slots Q ls C P S L sg Z K) (fun q => kf q G l p e Rm s m args below meth c H locs cells slots Q ls C P S L sg Z K)
theorem x_icmp_lt {x y : Int32} {off : Int} {tgt : Nat} (h : (mI μ) pc = (.if_icmp .lt off, 3)) (hg : (pc : Int) + off = (tgt : Int)) (kt : x < y → Wx E F d μ tgt lv st M R) (kf : ¬ x < y → Wx E F d μ (pc + 3) lv st M R) : Wx E F d μ pc lv (.int y :: .int x :: st) M R := by
  intro G l p e Rm s m args below meth c H locs cells slots Q ls C P S L sg Z K
  obtain ⟨hx, hb, hml, ho, ht, hK, hrm, hw, hlt, hX, O⟩ := id C
  exact lv_icmp_lt hx hb (O.d h) hg (fun q => kt q G l p e Rm s m args below meth c H locs cells slots Q ls C P S L sg Z K) (fun q => kf q G l p e Rm s m args below meth c H locs cells slots Q ls C P S L sg Z K)
theorem x_if_ge {x : Int32} {off : Int} {tgt : Nat} (h : (mI μ) pc = (.ifCond .ge off, 3)) (hg : (pc : Int) + off = (tgt : Int)) (kt : 0 ≤ x → Wx E F d μ tgt lv st M R) (kf : ¬ 0 ≤ x → Wx E F d μ (pc + 3) lv st M R) : Wx E F d μ pc lv (.int x :: st) M R := by
  intro G l p e Rm s m args below meth c H locs cells slots Q ls C P S L sg Z K
  obtain ⟨hx, hb, hml, ho, ht, hK, hrm, hw, hlt, hX, O⟩ := id C
  exact lv_if_ge hx hb (O.d h) hg (fun q => kt q G l p e Rm s m args below meth c H locs cells slots Q ls C P S L sg Z K) (fun q => kf q G l p e Rm s m args below meth c H locs cells slots Q ls C P S L sg Z K)
theorem x_icmp_ge {x y : Int32} {off : Int} {tgt : Nat} (h : (mI μ) pc = (.if_icmp .ge off, 3)) (hg : (pc : Int) + off = (tgt : Int)) (kt : y ≤ x → Wx E F d μ tgt lv st M R) (kf : ¬ y ≤ x → Wx E F d μ (pc + 3) lv st M R) : Wx E F d μ pc lv (.int y :: .int x :: st) M R := by
  intro G l p e Rm s m args below meth c H locs cells slots Q ls C P S L sg Z K
  obtain ⟨hx, hb, hml, ho, ht, hK, hrm, hw, hlt, hX, O⟩ := id C
  exact lv_icmp_ge hx hb (O.d h) hg (fun q => kt q G l p e Rm s m args below meth c H locs cells slots Q ls C P S L sg Z K) (fun q => kf q G l p e Rm s m args below meth c H locs cells slots Q ls C P S L sg Z K)
theorem x_if_gt {x : Int32} {off : Int} {tgt : Nat} (h : (mI μ) pc = (.ifCond .gt off, 3)) (hg : (pc : Int) + off = (tgt : Int)) (kt : 0 < x → Wx E F d μ tgt lv st M R) (kf : ¬ 0 < x → Wx E F d μ (pc + 3) lv st M R) : Wx E F d μ pc lv (.int x :: st) M R := by
  intro G l p e Rm s m args below meth c H locs cells slots Q ls C P S L sg Z K
  obtain ⟨hx, hb, hml, ho, ht, hK, hrm, hw, hlt, hX, O⟩ := id C
  exact lv_if_gt hx hb (O.d h) hg (fun q => kt q G l p e Rm s m args below meth c H locs cells slots Q ls C P S L sg Z K) (fun q => kf q G l p e Rm s m args below meth c H locs cells slots Q ls C P S L sg Z K)
theorem x_icmp_gt {x y : Int32} {off : Int} {tgt : Nat} (h : (mI μ) pc = (.if_icmp .gt off, 3)) (hg : (pc : Int) + off = (tgt : Int)) (kt : y < x → Wx E F d μ tgt lv st M R) (kf : ¬ y < x → Wx E F d μ (pc + 3) lv st M R) : Wx E F d μ pc lv (.int y :: .int x :: st) M R := by
  intro G l p e Rm s m args below meth c H locs cells slots Q ls C P S L sg Z K
  obtain ⟨hx, hb, hml, ho, ht, hK, hrm, hw, hlt, hX, O⟩ := id C
  exact lv_icmp_gt hx hb (O.d h) hg (fun q => kt q G l p e Rm s m args below meth c H locs cells slots Q ls C P S L sg Z K) (fun q => kf q G l p e Rm s m args below meth c H locs cells slots Q ls C P S L sg Z K)
theorem x_if_le {x : Int32} {off : Int} {tgt : Nat} (h : (mI μ) pc = (.ifCond .le off, 3)) (hg : (pc : Int) + off = (tgt : Int)) (kt : x ≤ 0 → Wx E F d μ tgt lv st M R) (kf : ¬ x ≤ 0 → Wx E F d μ (pc + 3) lv st M R) : Wx E F d μ pc lv (.int x :: st) M R := by
  intro G l p e Rm s m args below meth c H locs cells slots Q ls C P S L sg Z K
  obtain ⟨hx, hb, hml, ho, ht, hK, hrm, hw, hlt, hX, O⟩ := id C
  exact lv_if_le hx hb (O.d h) hg (fun q => kt q G l p e Rm s m args below meth c H locs cells slots Q ls C P S L sg Z K) (fun q => kf q G l p e Rm s m args below meth c H locs cells slots Q ls C P S L sg Z K)
theorem x_icmp_le {x y : Int32} {off : Int} {tgt : Nat} (h : (mI μ) pc = (.if_icmp .le off, 3)) (hg : (pc : Int) + off = (tgt : Int)) (kt : x ≤ y → Wx E F d μ tgt lv st M R) (kf : ¬ x ≤ y → Wx E F d μ (pc + 3) lv st M R) : Wx E F d μ pc lv (.int y :: .int x :: st) M R := by
  intro G l p e Rm s m args below meth c H locs cells slots Q ls C P S L sg Z K
  obtain ⟨hx, hb, hml, ho, ht, hK, hrm, hw, hlt, hX, O⟩ := id C
  exact lv_icmp_le hx hb (O.d h) hg (fun q => kt q G l p e Rm s m args below meth c H locs cells slots Q ls C P S L sg Z K) (fun q => kf q G l p e Rm s m args below meth c H locs cells slots Q ls C P S L sg Z K)
theorem x_goto {off : Int} {tgt : Nat} (h : (mI μ) pc = (.goto off, 3)) (hg : (pc : Int) + off = (tgt : Int)) (k : Wx E F d μ tgt lv st M R) : Wx E F d μ pc lv st M R := by
  intro G l p e Rm s m args below meth c H locs cells slots Q ls C P S L sg Z K
  obtain ⟨hx, hb, hml, ho, ht, hK, hrm, hw, hlt, hX, O⟩ := id C
  exact lv_goto hx hb (O.d h) hg (k G l p e Rm s m args below meth c H locs cells slots Q ls C P S L sg Z K)
theorem x_getI {a idx ci j : Nat} (h : (mI μ) pc = (.getfield idx, 3)) (f : LkF (mO μ) idx ci j) (hs : (shp E a).1 = ci + 10) (hk : kdF ci j = 0) (k : Wx E F d μ (pc + 3) lv (.int (gI M a j) :: st) M R) : Wx E F d μ pc lv (.ref a :: st) M R := by
  intro G l p e Rm s m args below meth c H locs cells slots Q ls C P S L sg Z K
  obtain ⟨hx, hb, hml, ho, ht, hK, hrm, hw, hlt, hX, O⟩ := id C
  obtain ⟨q, f1, f2, f3⟩ := f
  have c1 := cl_ok ci q f1
  have h1 := ws_at (G := G) (M := M) hw (k := a) (by rw [hs]; exact Nat.succ_ne_zero _)
  rw [ent_o hs (cl_lt f1)] at h1
  have h2 : (flds G.1 M false ci a)[j]? = some (fv G.1 M false ci a j) := rng_at _ (by rw [cFn_of f1]; exact f2)
  have h3 : fv G.1 M false ci a j = shV G (.int (gI M a j)) := by
    unfold fv; rw [hk]; rfl
  rw [h3] at h2
  exact va_get hx hb ht c1.1 ho hK P (a - 1) h1 f1 j f2 (ht _ f3) (fun _ h9 => h9) h2 (O.d h) (k G l p e Rm s m args below meth c H locs cells slots Q ls C P S L sg Z K)
theorem x_putI {a idx ci j : Nat} {x : Int32} {ty : FieldType} (h : (mI μ) pc = (.putfield idx, 3)) (f : LkP (mO μ) idx ci j ty) (hs : (shp E a).1 = ci + 10) (hk : kdF ci j = 0) (hn : narrow ty (.int x) = .int x) (hf : fits ty (.int x) = true) (k : Wx E F d μ (pc + 3) lv st (sI M a j x) R) : Wx E F d μ pc lv (.int x :: .ref a :: st) M R := by
  intro G l p e Rm s m args below meth c H locs cells slots Q ls C P S L sg Z K
  obtain ⟨hx, hb, hml, ho, ht, hK, hrm, hw, hlt, hX, O⟩ := id C
  obtain ⟨q, f1, f2, f3, f4, f5⟩ := f
  have c1 := cl_ok ci q f1
  have h0 : (shp E a).1 ≠ 0 := by rw [hs]; exact Nat.succ_ne_zero _
  have h1 := ws_at (G := G) (M := M) hw (k := a) h0
  rw [ent_o hs (cl_lt f1)] at h1
  obtain ⟨ty0, hty⟩ := c1.2.2
  have hlen : j < (flds G.1 M false ci a).length := by unfold flds; rw [List.length_map, List.length_range, cFn_of f1]; exact f2
  refine va_put hx hb ht c1.1 ty0 hty c1.2.1 ho hK P ws_D S (a - 1) h1 f1 j f2 (ht _ f3) (fun _ h9 => h9) f4 f5 hn hf hlen (O.d h) (fun H1 locs1 P1 D1 S1 => ?_)
  rw [show shV G (Value.int x) = .int x from rfl, flds_sI hk] at P1
  exact k G l p e Rm s m args below meth c H1 locs1 cells slots Q ls C (Rp_sI hw h0 (ent_o hs (cl_lt f1)) P1) S1 L sg Z K
theorem x_iald {a n : Nat} {i : Int32} (h : (mI μ) pc = (.iaload, 1)) (hs : shp E a = (1, n)) (hi : vp_in i n) (k : Wx E F d μ (pc + 1) lv (.int (gI M a i.toNatClampNeg) :: st) M R) : Wx E F d μ pc lv (.int i :: .ref a :: st) M R := by
  intro G l p e Rm s m args below meth c H locs cells slots Q ls C P S L sg Z K
  obtain ⟨hx, hb, hml, ho, ht, hK, hrm, hw, hlt, hX, O⟩ := id C
  have h1 := ws_at (G := G) (M := M) hw (k := a) (by rw [hs]; exact Nat.succ_ne_zero _)
  rw [ent_1 hs] at h1
  exact va_iald hx hb hK P (a - 1) 0 h1 rfl hi (O.d h) (k G l p e Rm s m args below meth c H locs cells slots Q ls C P S L sg Z K)
theorem x_iast {a n : Nat} {i : Int32} {x : Int32} (h : (mI μ) pc = (.iastore, 1)) (hs : shp E a = (1, n)) (hi : vp_in i n) (k : Wx E F d μ (pc + 1) lv st (sI M a i.toNatClampNeg x) R) : Wx E F d μ pc lv (.int x :: .int i :: .ref a :: st) M R := by
  intro G l p e Rm s m args below meth c H locs cells slots Q ls C P S L sg Z K
  obtain ⟨hx, hb, hml, ho, ht, hK, hrm, hw, hlt, hX, O⟩ := id C
  have h0 : (shp E a).1 ≠ 0 := by rw [hs]; exact Nat.succ_ne_zero _
  have h1 := ws_at (G := G) (M := M) hw (k := a) h0
  rw [ent_1 hs] at h1
  refine va_iast hx hb hK P ws_D S (a - 1) 0 h1 rfl hi (O.d h) (fun H1 locs1 P1 D1 S1 => ?_)
  refine k G l p e Rm s m args below meth c H1 locs1 cells slots Q ls C (Rp_sI hw h0 ?_ P1) S1 L sg Z K
  rw [ent_1 hs]
  congr 4
  show up2 _ a _ x a = _
  rw [up2_eq]
  rfl
theorem x_last {a n : Nat} {i : Int32} {x : Int64} (h : (mI μ) pc = (.lastore, 1)) (hs : shp E a = (2, n)) (hi : vp_in i n) (k : Wx E F d μ (pc + 1) lv st (sL M a i.toNatClampNeg x) R) : Wx E F d μ pc lv (.long x :: .int i :: .ref a :: st) M R := by
  intro G l p e Rm s m args below meth c H locs cells slots Q ls C P S L sg Z K
  obtain ⟨hx, hb, hml, ho, ht, hK, hrm, hw, hlt, hX, O⟩ := id C
  have h0 : (shp E a).1 ≠ 0 := by rw [hs]; exact Nat.succ_ne_zero _
  have h1 := ws_at (G := G) (M := M) hw (k := a) h0
  rw [ent_2 hs] at h1
  refine va_last hx hb hK P ws_D S (a - 1) 1 h1 rfl hi (O.d h) (fun H1 locs1 P1 D1 S1 => ?_)
  refine k G l p e Rm s m args below meth c H1 locs1 cells slots Q ls C (Rp_sL hw h0 ?_ P1) S1 L sg Z K
  rw [ent_2 hs]
  congr 5
  show up2 _ a _ x a = _
  rw [up2_eq]
  rfl
theorem x_aald5 {a n : Nat} {i : Int32} (h : (mI μ) pc = (.aaload, 1)) (hs : shp E a = (5, n)) (hi : vp_in i n) (k : Wx E F d μ (pc + 1) lv (.ref (a + 1 + i.toNatClampNeg) :: st) M R) : Wx E F d μ pc lv (.int i :: .ref a :: st) M R := by
  intro G l p e Rm s m args below meth c H locs cells slots Q ls C P S L sg Z K
  obtain ⟨hx, hb, hml, ho, ht, hK, hrm, hw, hlt, hX, O⟩ := id C
  have h1 := ws_at (G := G) (M := M) hw (k := a) (by rw [hs]; exact Nat.succ_ne_zero _)
  rw [ent_5 hs] at h1
  have hlt2 : i.toNatClampNeg < n := Nat.not_le.mp fun q => hi (Or.inr q)
  have k1 := k G l p e Rm s m args below meth c H locs cells slots Q ls C P S L sg Z K
  refine W.aald (v := shV G (.ref (a + 1 + i.toNatClampNeg))) (ty := .array .int) hx hb (P (a - 1) _ h1) ((hK.2 4 _ rfl).1 n (fun j => va_rf (if j < n then some (G.1 + (a + 1 + j)) else none))) rfl (fun q => by cases q) (by show ¬ (i < 0 ∨ (arrV _ _ _).slots.size ≤ _); rw [arrV_size]; exact hi) (by
    show (arrV _ _ _).slots[_]? = _
    rw [arrV_read _ _ hlt2]
    simp [hlt2, va_rf, shV]) rfl rfl (O.d h) k1
theorem x_aald6 {a n : Nat} {i : Int32} (h : (mI μ) pc = (.aaload, 1)) (hs : shp E a = (6, n)) (hi : vp_in i n) (k : Wx E F d μ (pc + 1) lv (.ref (a + 1 + i.toNatClampNeg) :: st) M R) : Wx E F d μ pc lv (.int i :: .ref a :: st) M R := by
  intro G l p e Rm s m args below meth c H locs cells slots Q ls C P S L sg Z K
  obtain ⟨hx, hb, hml, ho, ht, hK, hrm, hw, hlt, hX, O⟩ := id C
  have h1 := ws_at (G := G) (M := M) hw (k := a) (by rw [hs]; exact Nat.succ_ne_zero _)
  rw [ent_6 hs] at h1
  have hlt2 : i.toNatClampNeg < n := Nat.not_le.mp fun q => hi (Or.inr q)
  have k1 := k G l p e Rm s m args below meth c H locs cells slots Q ls C P S L sg Z K
  refine W.aald (v := shV G (.ref (a + 1 + i.toNatClampNeg))) (ty := .array .long) hx hb (P (a - 1) _ h1) ((hK.2 5 _ rfl).1 n (fun j => va_rf (if j < n then some (G.1 + (a + 1 + j)) else none))) rfl (fun q => by cases q) (by show ¬ (i < 0 ∨ (arrV _ _ _).slots.size ≤ _); rw [arrV_size]; exact hi) (by
    show (arrV _ _ _).slots[_]? = _
    rw [arrV_read _ _ hlt2]
    simp [hlt2, va_rf, shV]) rfl rfl (O.d h) k1
theorem x_aast4 {a n x : Nat} {i : Int32} (h : (mI μ) pc = (.aastore, 1)) (hs : shp E a = (4, n)) (hi : vp_in i n) (hv : (shp E x).1 = 14) (k : Wx E F d μ (pc + 1) lv st (sR M a i.toNatClampNeg x) R) : Wx E F d μ pc lv (.ref x :: .int i :: .ref a :: st) M R := by
  intro G l p e Rm s m args below meth c H locs cells slots Q ls C P S L sg Z K
  obtain ⟨hx, hb, hml, ho, ht, hK, hrm, hw, hlt, hX, O⟩ := id C
  have h0 : (shp E a).1 ≠ 0 := by rw [hs]; exact Nat.succ_ne_zero _
  have h1 := ws_at (G := G) (M := M) hw (k := a) h0
  rw [ent_4 hs] at h1
  have h0x : (shp E x).1 ≠ 0 := by rw [hv]; exact Nat.succ_ne_zero _
  have h2 := ws_at (G := G) (M := M) hw (k := x) h0x
  rw [ent_o (ci := 4) hv (by decide)] at h2
  have hx0 : x ≠ 0 := Nat.pos_iff_ne_zero.mp (hw x h0x).1
  refine va_astq hx hb hK P ws_D S (a - 1) 3 (x - 1) 4 (r := (RX4, TX4, 10)) h1 rfl h2 rfl hi (O.d h) (fun H1 locs1 P1 D1 S1 => ?_)
  refine k G l p e Rm s m args below meth c H1 locs1 cells slots Q ls C (Rp_sR hw h0 ?_ P1) S1 L sg Z K
  rw [ent_4 hs]
  congr 7
  funext z
  show rfG G.1 (up2 _ a _ x a z) = va_up _ _ _ z
  rw [up2_eq]
  by_cases hz : z = i.toNatClampNeg
  · simp [va_up, hz, rfG, hx0]
  · simp [va_up, hz]
theorem x_ret (h : (mI μ) pc = (.return_, 1)) (ht2 : mT μ = none) (hR : R none M) : Wx E E d μ pc lv [] M R := by
  intro G l p e Rm s m args below meth c H locs cells slots Q ls C P S L sg Z K
  exact K none M H locs pc ls cells slots hR (Or.inr (Or.inr ⟨rfl, h, ht2⟩)) P S Z.1
end XW
/-! makings -/
def grow (E : EN) (q : Nat × Nat) : EN := (E.1 + 1, (fun k => if k = E.1 then q else shp E k), E.2.2)
theorem ent_g {G : GE} {E : EN} {M : ME} {q : Nat × Nat} {k : Nat} (h : k ≠ E.1) : ent G (grow E q) M k = ent G E M k := by
  have : shp (grow E q) k = shp E k := if_neg h
  unfold ent
  rw [this]
theorem ws_grow {G : GE} {E : EN} {M : ME} {q : Nat × Nat} (h1 : 1 ≤ E.1) : wsOf G (grow E q) M = wsOf G E M ++ [(G.1 + E.1, ent G (grow E q) M E.1)] := by
  unfold wsOf
  show (List.range (E.1 + 1 - 1)).map _ = _
  rw [show E.1 + 1 - 1 = (E.1 - 1) + 1 by omega, List.range_succ, List.map_append]
  congr 1
  · refine List.map_congr_left (fun k hk => ?_)
    have : k < E.1 - 1 := List.mem_range.mp hk
    rw [ent_g (by omega)]
  · show [(G.1 + (E.1 - 1 + 1), ent G (grow E q) M (E.1 - 1 + 1))] = _
    rw [show E.1 - 1 + 1 = E.1 by omega]
theorem szK_c {f g : Nat → Nat × Nat} : ∀ {n : Nat}, (∀ k, 1 ≤ k → k ≤ n → f k = g k) → szK f n = szK g n
  | 0, _ => rfl
  | n + 1, h => by
    show szK f n + szC (f (n + 1)) = szK g n + szC (g (n + 1))
    rw [szK_c (fun k h1 h2 => h k h1 (by omega)), h (n + 1) (by omega) (Nat.le_refl _)]
theorem sz_grow {E : EN} {q : Nat × Nat} (h1 : 1 ≤ E.1) : szE (grow E q) = szE E + szC q := by
  unfold szE
  show szK (shp (grow E q)) (E.1 + 1 - 1) = _
  rw [show E.1 + 1 - 1 = (E.1 - 1) + 1 by omega]
  show szK (shp (grow E q)) (E.1 - 1) + szC (shp (grow E q) (E.1 - 1 + 1)) = _
  rw [show E.1 - 1 + 1 = E.1 by omega, show shp (grow E q) E.1 = q from if_pos rfl]
  congr 1
  exact szK_c (fun k k1 k2 => if_neg (by omega))
theorem wf_grow {E : EN} {q : Nat × Nat} (hw : wfE E) (h1 : 1 ≤ E.1) : wfE (grow E q) := fun k hk => by
  by_cases e : k = E.1
  · rw [e]
    show 0 < E.1 ∧ E.1 < E.1 + 1
    omega
  · have : shp (grow E q) k = shp E k := if_neg e
    rw [this] at hk
    have := hw k hk
    show 0 < k ∧ k < E.1 + 1
    omega
/-- the heap ends where the world does -/
theorem sz_heap {p : Program} {l : Launch} {e : Env} {Rm : Room} {s : State} {m : MethodId} {args : Array Value} {below : List Frame} {meth : Method} {c : Code} {T : State} {locs locs2 : List Loc} {cells slots sg : Nat} {G : GE} {E F : EN} {M : ME} {H : Heap} (X : Stand p l e Rm s m args below meth c T locs cells slots) (hT : T.heap = H) (P : Rp G E M H) (S : va_S (fun q => G.1 < q) s.heap H locs2) (hlt : G.1 < s.heap.size) (h1 : 1 ≤ E.1) (Z : Sz G E F Rm s cells slots sg) : H.size = G.1 + E.1 := by
  have a : T.heap.size ≤ s.heap.size + cells := X.same.2.2.1
  rw [hT, Z.1] at a
  by_cases e1 : E.1 = 1
  · have := S.1
    omega
  · have hk := rng_at (fun k => (G.1 + (k + 1), ent G E M (k + 1))) (n := E.1 - 1) (k := E.1 - 2) (by omega)
    have := (P (E.1 - 2) _ hk).lt
    have this' : G.1 + (E.1 - 2 + 1) < H.size := this
    omega
section MKW
variable {E F : EN} {d : Nat} {μ : MR} {pc : Nat} {lv st : List Value} {M : ME} {R : Option Value → ME → Prop}
theorem Cx_grow {G : GE} {p : Program} {Rm : Room} {s : State} {m : MethodId} {args : Array Value} {c : Code} {cells slots sg : Nat} {q : Nat × Nat} (C : Cx G E d μ p Rm s m args c cells slots) (Z : Sz G E F Rm s cells slots sg) (h1 : 1 ≤ E.1) (hF : E.1 + 1 ≤ F.1) (hsz : szE E + szC q ≤ szE F) : Cx G (grow E q) d μ p Rm s m args c (cells + 1) (slots + szC q) ∧ Sz G (grow E q) F Rm s (cells + 1) (slots + szC q) sg := by
  obtain ⟨hx, hb, hml, ho, ht, hK, hrm, hw, hlt, hX, O⟩ := C
  obtain ⟨z1, z2, z3, z4⟩ := Z
  refine ⟨⟨hx, hb, hml, ho, ht, hK, ⟨hrm.1, hrm.2.1, by omega, by omega⟩, wf_grow hw h1, hlt, hX, O⟩, ?_, ?_, z3, z4⟩
  · show s.heap.size + (cells + 1) = G.1 + (E.1 + 1)
    omega
  · rw [sz_grow h1]; omega
theorem x_newI {N : Nat} (h : (mI μ) pc = (.newarray .int, 2)) (ha : Cond.arrayClass (newarray.typeOf .int) ∈ TB) (hN : N < 2 ^ 20) (h1 : 1 ≤ E.1) (hF : E.1 + 1 ≤ F.1) (hsz : szE E + N ≤ szE F) (hz : ∀ j, M.1 E.1 j = 0) (k : Wx (grow E (1, N)) F d μ (pc + 2) lv (.ref E.1 :: st) M R) : Wx E F d μ pc lv (.int (nI N) :: st) M R := by
  intro G l p e Rm s m args below meth c H locs cells slots Q ls C P S L sg Z K
  obtain ⟨hx, hb, hml, ho, ht, hK, hrm, hw, hlt, hX, O⟩ := id C
  intro T hT X
  have hH := sz_heap X hT P S hlt h1 Z.1
  have hsc : szC (1, N) = N := rfl
  obtain ⟨C1, Z1⟩ := Cx_grow (q := (1, N)) C Z.1 h1 hF (by rw [hsc]; exact hsz)
  rw [hsc] at C1 Z1
  obtain ⟨⟨z1, z2, z3, z4⟩, znm⟩ := Z
  have hR : W p l e Rm s m args below meth c H locs cells slots Q (F0 m pc ls (.int (nI N) :: st.map (shV G))) := by
    refine va_newaK hx hb (atype := .int) (ht _ ha) rfl (O.d h) (n := nI N) (N := N) rfl (nI_pos (by omega)) (nI_clamp (by omega)) ?_ (by omega) (by omega) hH (fun H' cA e1 s1 o1 hAr hNm => ?_)
    · show N * 4 ≤ 536870912
      omega
    · have hcA : cA = G.2.2.2 1 := by
        have := (hK.2 0 (G.2.2.2 1, .int) rfl).2
        have this' : s.vm.findClass ("[" ++ FieldType.int.toString) = some (G.2.2.2 1) := this
        have hNm' : s.vm.findClass ("[" ++ FieldType.int.toString) = some cA := hNm
        rw [this'] at hNm'
        exact (Option.some.inj hNm').symm
      have hk : ∀ (i : Nat) (x : Nat × va_E), (wsOf G E M)[i]? = some x → H'[x.1]? = H[x.1]? := fun i x hx => o1 x.1 (by rw [← hH]; exact (P i x hx).lt)
      have P1 : Rp G (grow E (1, N)) M H' := by
        unfold Rp
        rw [ws_grow h1]
        refine (va_P.kept P hk).app (fun i x hx => ?_)
        have hi : i < 1 := (List.getElem?_eq_some_iff.mp hx).1
        rw [show i = 0 by omega] at hx
        cases hx
        have ee : ent G (grow E (1, N)) M E.1 = .inl (G.2.2.2 1, N, .inl (M.1 E.1)) := by
          unfold ent
          rw [show shp (grow E (1, N)) E.1 = (1, N) from if_pos rfl]
          rfl
        rw [ee]
        show H'[G.1 + E.1]? = some (arrV (G.2.2.2 1) N (fun j => .int (M.1 E.1 j)))
        rw [e1, hcA]
        congr 2
        funext j
        rw [hz j]; rfl
      have S1 : va_S (fun q => G.1 < q) s.heap H' locs := ⟨by have := S.1; omega, fun q q1 q2 => (o1 q (by have := S.1; omega)).trans (S.2.1 q q1 q2), S.2.2⟩
      exact k G l p e Rm s m args below meth c H' locs (cells + 1) (slots + N) Q ls C1 P1 S1 L sg ⟨Z1, znm⟩ K
  exact hR T hT X
end MKW
