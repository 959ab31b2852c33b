/-! ROWS: an instruction each, over the world -/
section RW
variable {E : EN} {d : Nat} {μ : MR} {pc : Nat} {lv lv2 st : List Value} {M : ME} {R : Option Value → ME → Prop}
theorem r_iadd {x y : Int32} (h : (mI μ) pc = (.iadd, 1))  (k : Wp E d μ (pc + 1) lv (.int (x + y) :: st) M R) : Wp E d μ pc lv (.int y :: .int x :: st) M R := by
  intro G l p e Rm s m args below meth c H locs cells slots Q ls C P S L K
  obtain ⟨hx, hb, hml, ho, ht, hK, hrm, hw, hlt, hX, O⟩ := id C
  exact lv_iadd hx hb (O.d h)  (k G l p e Rm s m args below meth c H locs cells slots Q ls C P S L K)
theorem r_isub {x y : Int32} (h : (mI μ) pc = (.isub, 1))  (k : Wp E d μ (pc + 1) lv (.int (x - y) :: st) M R) : Wp E d μ pc lv (.int y :: .int x :: st) M R := by
  intro G l p e Rm s m args below meth c H locs cells slots Q ls C P S L K
  obtain ⟨hx, hb, hml, ho, ht, hK, hrm, hw, hlt, hX, O⟩ := id C
  exact lv_isub hx hb (O.d h)  (k G l p e Rm s m args below meth c H locs cells slots Q ls C P S L K)
theorem r_imul {x y : Int32} (h : (mI μ) pc = (.imul, 1))  (k : Wp E d μ (pc + 1) lv (.int (x * y) :: st) M R) : Wp E d μ pc lv (.int y :: .int x :: st) M R := by
  intro G l p e Rm s m args below meth c H locs cells slots Q ls C P S L K
  obtain ⟨hx, hb, hml, ho, ht, hK, hrm, hw, hlt, hX, O⟩ := id C
  exact lv_imul hx hb (O.d h)  (k G l p e Rm s m args below meth c H locs cells slots Q ls C P S L K)
theorem r_iand {x y : Int32} (h : (mI μ) pc = (.iand, 1))  (k : Wp E d μ (pc + 1) lv (.int (x &&& y) :: st) M R) : Wp E d μ pc lv (.int y :: .int x :: st) M R := by
  intro G l p e Rm s m args below meth c H locs cells slots Q ls C P S L K
  obtain ⟨hx, hb, hml, ho, ht, hK, hrm, hw, hlt, hX, O⟩ := id C
  exact lv_iand hx hb (O.d h)  (k G l p e Rm s m args below meth c H locs cells slots Q ls C P S L K)
theorem r_ior {x y : Int32} (h : (mI μ) pc = (.ior, 1))  (k : Wp E d μ (pc + 1) lv (.int (x ||| y) :: st) M R) : Wp E d μ pc lv (.int y :: .int x :: st) M R := by
  intro G l p e Rm s m args below meth c H locs cells slots Q ls C P S L K
  obtain ⟨hx, hb, hml, ho, ht, hK, hrm, hw, hlt, hX, O⟩ := id C
  exact lv_ior hx hb (O.d h)  (k G l p e Rm s m args below meth c H locs cells slots Q ls C P S L K)
theorem r_ixor {x y : Int32} (h : (mI μ) pc = (.ixor, 1))  (k : Wp E d μ (pc + 1) lv (.int (x ^^^ y) :: st) M R) : Wp E d μ pc lv (.int y :: .int x :: st) M R := by
  intro G l p e Rm s m args below meth c H locs cells slots Q ls C P S L K
  obtain ⟨hx, hb, hml, ho, ht, hK, hrm, hw, hlt, hX, O⟩ := id C
  exact lv_ixor hx hb (O.d h)  (k G l p e Rm s m args below meth c H locs cells slots Q ls C P S L K)
theorem r_idiv {x y : Int32} (h : (mI μ) pc = (.idiv, 1)) (hne : ¬ y = 0) (k : Wp E d μ (pc + 1) lv (.int (x / y) :: st) M R) : Wp E d μ pc lv (.int y :: .int x :: st) M R := by
  intro G l p e Rm s m args below meth c H locs cells slots Q ls C P S L K
  obtain ⟨hx, hb, hml, ho, ht, hK, hrm, hw, hlt, hX, O⟩ := id C
  exact lv_idiv hx hb (O.d h) hne (k G l p e Rm s m args below meth c H locs cells slots Q ls C P S L K)
theorem r_irem {x y : Int32} (h : (mI μ) pc = (.irem, 1)) (hne : ¬ y = 0) (k : Wp E d μ (pc + 1) lv (.int (x - x / y * y) :: st) M R) : Wp E d μ pc lv (.int y :: .int x :: st) M R := by
  intro G l p e Rm s m args below meth c H locs cells slots Q ls C P S L K
  obtain ⟨hx, hb, hml, ho, ht, hK, hrm, hw, hlt, hX, O⟩ := id C
  exact lv_irem hx hb (O.d h) hne (k G l p e Rm s m args below meth c H locs cells slots Q ls C P S L K)
theorem r_ladd {x y : Int64} (h : (mI μ) pc = (.ladd, 1))  (k : Wp E d μ (pc + 1) lv (.long (x + y) :: st) M R) : Wp E d μ pc lv (.long y :: .long x :: st) M R := by
  intro G l p e Rm s m args below meth c H locs cells slots Q ls C P S L K
  obtain ⟨hx, hb, hml, ho, ht, hK, hrm, hw, hlt, hX, O⟩ := id C
  exact lv_ladd hx hb (O.d h)  (k G l p e Rm s m args below meth c H locs cells slots Q ls C P S L K)
theorem r_lsub {x y : Int64} (h : (mI μ) pc = (.lsub, 1))  (k : Wp E d μ (pc + 1) lv (.long (x - y) :: st) M R) : Wp E d μ pc lv (.long y :: .long x :: st) M R := by
  intro G l p e Rm s m args below meth c H locs cells slots Q ls C P S L K
  obtain ⟨hx, hb, hml, ho, ht, hK, hrm, hw, hlt, hX, O⟩ := id C
  exact lv_lsub hx hb (O.d h)  (k G l p e Rm s m args below meth c H locs cells slots Q ls C P S L K)
theorem r_lmul {x y : Int64} (h : (mI μ) pc = (.lmul, 1))  (k : Wp E d μ (pc + 1) lv (.long (x * y) :: st) M R) : Wp E d μ pc lv (.long y :: .long x :: st) M R := by
  intro G l p e Rm s m args below meth c H locs cells slots Q ls C P S L K
  obtain ⟨hx, hb, hml, ho, ht, hK, hrm, hw, hlt, hX, O⟩ := id C
  exact lv_lmul hx hb (O.d h)  (k G l p e Rm s m args below meth c H locs cells slots Q ls C P S L K)
theorem r_land {x y : Int64} (h : (mI μ) pc = (.land, 1))  (k : Wp E d μ (pc + 1) lv (.long (x &&& y) :: st) M R) : Wp E d μ pc lv (.long y :: .long x :: st) M R := by
  intro G l p e Rm s m args below meth c H locs cells slots Q ls C P S L K
  obtain ⟨hx, hb, hml, ho, ht, hK, hrm, hw, hlt, hX, O⟩ := id C
  exact lv_land hx hb (O.d h)  (k G l p e Rm s m args below meth c H locs cells slots Q ls C P S L K)
theorem r_lor {x y : Int64} (h : (mI μ) pc = (.lor, 1))  (k : Wp E d μ (pc + 1) lv (.long (x ||| y) :: st) M R) : Wp E d μ pc lv (.long y :: .long x :: st) M R := by
  intro G l p e Rm s m args below meth c H locs cells slots Q ls C P S L K
  obtain ⟨hx, hb, hml, ho, ht, hK, hrm, hw, hlt, hX, O⟩ := id C
  exact lv_lor hx hb (O.d h)  (k G l p e Rm s m args below meth c H locs cells slots Q ls C P S L K)
theorem r_ldiv {x y : Int64} (h : (mI μ) pc = (.ldiv, 1)) (hne : ¬ y = 0) (k : Wp E d μ (pc + 1) lv (.long (x / y) :: st) M R) : Wp E d μ pc lv (.long y :: .long x :: st) M R := by
  intro G l p e Rm s m args below meth c H locs cells slots Q ls C P S L K
  obtain ⟨hx, hb, hml, ho, ht, hK, hrm, hw, hlt, hX, O⟩ := id C
  exact lv_ldiv hx hb (O.d h) hne (k G l p e Rm s m args below meth c H locs cells slots Q ls C P S L K)
theorem r_lrem {x y : Int64} (h : (mI μ) pc = (.lrem, 1)) (hne : ¬ y = 0) (k : Wp E d μ (pc + 1) lv (.long (x - x / y * y) :: st) M R) : Wp E d μ pc lv (.long y :: .long x :: st) M R := by
  intro G l p e Rm s m args below meth c H locs cells slots Q ls C P S L K
  obtain ⟨hx, hb, hml, ho, ht, hK, hrm, hw, hlt, hX, O⟩ := id C
  exact lv_lrem hx hb (O.d h) hne (k G l p e Rm s m args below meth c H locs cells slots Q ls C P S L K)
theorem r_ishl {x y : Int32} (h : (mI μ) pc = (.ishl, 1))  (k : Wp E d μ (pc + 1) lv (.int (x <<< (y &&& 31)) :: st) M R) : Wp E d μ pc lv (.int y :: .int x :: st) M R := by
  intro G l p e Rm s m args below meth c H locs cells slots Q ls C P S L K
  obtain ⟨hx, hb, hml, ho, ht, hK, hrm, hw, hlt, hX, O⟩ := id C
  exact lv_ishl hx hb (O.d h)  (k G l p e Rm s m args below meth c H locs cells slots Q ls C P S L K)
theorem r_ishr {x y : Int32} (h : (mI μ) pc = (.ishr, 1))  (k : Wp E d μ (pc + 1) lv (.int (x >>> (y &&& 31)) :: st) M R) : Wp E d μ pc lv (.int y :: .int x :: st) M R := by
  intro G l p e Rm s m args below meth c H locs cells slots Q ls C P S L K
  obtain ⟨hx, hb, hml, ho, ht, hK, hrm, hw, hlt, hX, O⟩ := id C
  exact lv_ishr hx hb (O.d h)  (k G l p e Rm s m args below meth c H locs cells slots Q ls C P S L K)
theorem r_iushr {x y : Int32} (h : (mI μ) pc = (.iushr, 1))  (k : Wp E d μ (pc + 1) lv (.int ((x.toUInt32 >>> (y.toUInt32 &&& Int32.toUInt32 31)).toInt32) :: st) M R) : Wp E d μ pc lv (.int y :: .int x :: st) M R := by
  intro G l p e Rm s m args below meth c H locs cells slots Q ls C P S L K
  obtain ⟨hx, hb, hml, ho, ht, hK, hrm, hw, hlt, hX, O⟩ := id C
  exact lv_iushr hx hb (O.d h) rfl (k G l p e Rm s m args below meth c H locs cells slots Q ls C P S L K)
theorem r_lshl {x : Int64} {y : Int32} (h : (mI μ) pc = (.lshl, 1))  (k : Wp E d μ (pc + 1) lv (.long (x <<< (y.toInt64 &&& 63)) :: st) M R) : Wp E d μ pc lv (.int y :: .long x :: st) M R := by
  intro G l p e Rm s m args below meth c H locs cells slots Q ls C P S L K
  obtain ⟨hx, hb, hml, ho, ht, hK, hrm, hw, hlt, hX, O⟩ := id C
  exact lv_lshl hx hb (O.d h) rfl (k G l p e Rm s m args below meth c H locs cells slots Q ls C P S L K)
theorem r_i2l {x : Int32} (h : (mI μ) pc = (.i2l, 1))  (k : Wp E d μ (pc + 1) lv (.long x.toInt64 :: st) M R) : Wp E d μ pc lv (.int x :: st) M R := by
  intro G l p e Rm s m args below meth c H locs cells slots Q ls C P S L K
  obtain ⟨hx, hb, hml, ho, ht, hK, hrm, hw, hlt, hX, O⟩ := id C
  exact lv_i2l hx hb (O.d h) rfl (k G l p e Rm s m args below meth c H locs cells slots Q ls C P S L K)
theorem r_l2i {x : Int64} (h : (mI μ) pc = (.l2i, 1))  (k : Wp E d μ (pc + 1) lv (.int x.toInt32 :: st) M R) : Wp E d μ pc lv (.long x :: st) M R := by
  intro G l p e Rm s m args below meth c H locs cells slots Q ls C P S L K
  obtain ⟨hx, hb, hml, ho, ht, hK, hrm, hw, hlt, hX, O⟩ := id C
  exact lv_l2i hx hb (O.d h) rfl (k G l p e Rm s m args below meth c H locs cells slots Q ls C P S L K)
theorem r_lcmp {x y : Int64} (h : (mI μ) pc = (.lcmp, 1))  (k : Wp E d μ (pc + 1) lv (.int (lg_cmp x y) :: st) M R) : Wp E d μ pc lv (.long y :: .long x :: st) M R := by
  intro G l p e Rm s m args below meth c H locs cells slots Q ls C P S L K
  obtain ⟨hx, hb, hml, ho, ht, hK, hrm, hw, hlt, hX, O⟩ := id C
  exact W.lcmp hx hb (O.d h)  (k G l p e Rm s m args below meth c H locs cells slots Q ls C P S L K)
theorem r_iconst {n : Int} (v : Int32) (h : (mI μ) pc = (.iconst n, 1)) (hv : Int32.ofInt n = v) (k : Wp E d μ (pc + 1) lv (.int v :: st) M R) : Wp E d μ pc lv (st) M R := by
  intro G l p e Rm s m args below meth c H locs cells slots Q ls C P S L K
  obtain ⟨hx, hb, hml, ho, ht, hK, hrm, hw, hlt, hX, O⟩ := id C
  exact lv_iconst hx hb (O.d h) hv (k G l p e Rm s m args below meth c H locs cells slots Q ls C P S L K)
theorem r_bipush {n : Int} (v : Int32) (h : (mI μ) pc = (.bipush n, 2)) (hv : (Int8.ofInt n).toInt32 = v) (k : Wp E d μ (pc + 2) lv (.int v :: st) M R) : Wp E d μ pc lv (st) M R := by
  intro G l p e Rm s m args below meth c H locs cells slots Q ls C P S L K
  obtain ⟨hx, hb, hml, ho, ht, hK, hrm, hw, hlt, hX, O⟩ := id C
  exact lv_bipush hx hb (O.d h) hv (k G l p e Rm s m args below meth c H locs cells slots Q ls C P S L K)
theorem r_sipush {n : Int} (v : Int32) (h : (mI μ) pc = (.sipush n, 3)) (hv : (Int16.ofInt n).toInt32 = v) (k : Wp E d μ (pc + 3) lv (.int v :: st) M R) : Wp E d μ pc lv (st) M R := by
  intro G l p e Rm s m args below meth c H locs cells slots Q ls C P S L K
  obtain ⟨hx, hb, hml, ho, ht, hK, hrm, hw, hlt, hX, O⟩ := id C
  exact lv_sipush hx hb (O.d h) hv (k G l p e Rm s m args below meth c H locs cells slots Q ls C P S L K)
theorem r_lconst {n : Fin 2} (v : Int64) (h : (mI μ) pc = (.lconst n, 1)) (hv : Int64.ofNat (n : Nat) = v) (k : Wp E d μ (pc + 1) lv (.long v :: st) M R) : Wp E d μ pc lv (st) M R := by
  intro G l p e Rm s m args below meth c H locs cells slots Q ls C P S L K
  obtain ⟨hx, hb, hml, ho, ht, hK, hrm, hw, hlt, hX, O⟩ := id C
  exact lv_lconst hx hb (O.d h) hv (k G l p e Rm s m args below meth c H locs cells slots Q ls C P S L K)
theorem r_ldc2 {idx : Nat} {v : Int64} (h : (mI μ) pc = (.ldc2_w idx, 3)) (hc : Cond.constantLong (mO μ) idx v ∈ TB) (k : Wp E d μ (pc + 3) lv (.long v :: st) M R) : Wp E d μ pc lv st M R := by
  intro G l p e Rm s m args below meth c H locs cells slots Q ls C P S L K
  obtain ⟨hx, hb, hml, ho, ht, hK, hrm, hw, hlt, hX, O⟩ := id C
  exact W.ldc2 hx hb ho (ht _ hc) rfl (O.d h) (k G l p e Rm s m args below meth c H locs cells slots Q ls C P S L K)
theorem r_iload {i : Nat} {x : Int32} (h : (mI μ) pc = (.iload i, 2)) (hv : lv[i]? = some (.int x)) (k : Wp E d μ (pc + 2) lv (.int x :: st) M R) : Wp E d μ pc lv (st) M R := by
  intro G l p e Rm s m args below meth c H locs cells slots Q ls C P S L K
  obtain ⟨hx, hb, hml, ho, ht, hK, hrm, hw, hlt, hX, O⟩ := id C
  exact lv_iload hx hb (O.d h) (hsL_ld L hv (by simp)) (k G l p e Rm s m args below meth c H locs cells slots Q ls C P S L K)
theorem r_iload_n {i : Fin 4} {x : Int32} (h : (mI μ) pc = (.iload_n i, 1)) (hv : lv[(i : Nat)]? = some (.int x)) (k : Wp E d μ (pc + 1) lv (.int x :: st) M R) : Wp E d μ pc lv (st) M R := by
  intro G l p e Rm s m args below meth c H locs cells slots Q ls C P S L K
  obtain ⟨hx, hb, hml, ho, ht, hK, hrm, hw, hlt, hX, O⟩ := id C
  exact lv_iload_n hx hb (O.d h) rfl (hsL_ld L hv (by simp)) (k G l p e Rm s m args below meth c H locs cells slots Q ls C P S L K)
theorem r_lload {i : Nat} {x : Int64} (h : (mI μ) pc = (.lload i, 2)) (hv : lv[i]? = some (.long x)) (k : Wp E d μ (pc + 2) lv (.long x :: st) M R) : Wp E d μ pc lv (st) M R := by
  intro G l p e Rm s m args below meth c H locs cells slots Q ls C P S L K
  obtain ⟨hx, hb, hml, ho, ht, hK, hrm, hw, hlt, hX, O⟩ := id C
  exact lv_lload hx hb (O.d h) (hsL_ld L hv (by simp)) (k G l p e Rm s m args below meth c H locs cells slots Q ls C P S L K)
theorem r_lload_n {i : Fin 4} {x : Int64} (h : (mI μ) pc = (.lload_n i, 1)) (hv : lv[(i : Nat)]? = some (.long x)) (k : Wp E d μ (pc + 1) lv (.long x :: st) M R) : Wp E d μ pc lv (st) M R := by
  intro G l p e Rm s m args below meth c H locs cells slots Q ls C P S L K
  obtain ⟨hx, hb, hml, ho, ht, hK, hrm, hw, hlt, hX, O⟩ := id C
  exact lv_lload_n hx hb (O.d h) rfl (hsL_ld L hv (by simp)) (k G l p e Rm s m args below meth c H locs cells slots Q ls C P S L K)
theorem r_aload {i : Nat} {x : Nat} (h : (mI μ) pc = (.aload i, 2)) (hv : lv[i]? = some (.ref x)) (k : Wp E d μ (pc + 2) lv (.ref x :: st) M R) : Wp E d μ pc lv (st) M R := by
  intro G l p e Rm s m args below meth c H locs cells slots Q ls C P S L K
  obtain ⟨hx, hb, hml, ho, ht, hK, hrm, hw, hlt, hX, O⟩ := id C
  exact lv_aload hx hb (O.d h) (hsL_ld L hv (by simp)) (k G l p e Rm s m args below meth c H locs cells slots Q ls C P S L K)
theorem r_aload_n {i : Fin 4} {x : Nat} (h : (mI μ) pc = (.aload_n i, 1)) (hv : lv[(i : Nat)]? = some (.ref x)) (k : Wp E d μ (pc + 1) lv (.ref x :: st) M R) : Wp E d μ pc lv (st) M R := by
  intro G l p e Rm s m args below meth c H locs cells slots Q ls C P S L K
  obtain ⟨hx, hb, hml, ho, ht, hK, hrm, hw, hlt, hX, O⟩ := id C
  exact lv_aload_n hx hb (O.d h) rfl (hsL_ld L hv (by simp)) (k G l p e Rm s m args below meth c H locs cells slots Q ls C P S L K)
theorem r_aloadS {i : Fin 4} {x : Nat} (h : (mI μ) pc = (.aload_n i, 1)) (hv : lv[(i : Nat)]? = some (.retAddr x)) (k : Wp E d μ (pc + 1) lv (.retAddr x :: st) M R) : Wp E d μ pc lv (st) M R := by
  intro G l p e Rm s m args below meth c H locs cells slots Q ls C P S L K
  obtain ⟨hx, hb, hml, ho, ht, hK, hrm, hw, hlt, hX, O⟩ := id C
  exact lv_aload_n hx hb (O.d h) rfl (hsL_ld L hv (by simp)) (k G l p e Rm s m args below meth c H locs cells slots Q ls C P S L K)
theorem r_istore {i : Nat} {x : Int32} (h : (mI μ) pc = (.istore i, 2)) (hn : i < mX μ) (hl : stL lv i (.int x) = lv2) (k : Wp E d μ (pc + 2) lv2 st M R) : Wp E d μ pc lv (.int x :: st) M R := by
  intro G l p e Rm s m args below meth c H locs cells slots Q ls C P S L K
  obtain ⟨hx, hb, hml, ho, ht, hK, hrm, hw, hlt, hX, O⟩ := id C
  exact lv_istore hx hb (O.d h) (hsL_kit L) hn rfl (fun ls2 hl2 => k G l p e Rm s m args below meth c H locs cells slots Q ls2 C P S (by rw [← hl, map_stL]; exact hsL_st hl2) K)
theorem r_istore_n {i : Fin 4} {x : Int32} (h : (mI μ) pc = (.istore_n i, 1)) (hn : (i : Nat) < mX μ) (hl : stL lv (i : Nat) (.int x) = lv2) (k : Wp E d μ (pc + 1) lv2 st M R) : Wp E d μ pc lv (.int x :: st) M R := by
  intro G l p e Rm s m args below meth c H locs cells slots Q ls C P S L K
  obtain ⟨hx, hb, hml, ho, ht, hK, hrm, hw, hlt, hX, O⟩ := id C
  exact lv_istore_n hx hb (O.d h) rfl (hsL_kit L) hn rfl (fun ls2 hl2 => k G l p e Rm s m args below meth c H locs cells slots Q ls2 C P S (by rw [← hl, map_stL]; exact hsL_st hl2) K)
theorem r_lstore {i : Nat} {x : Int64} (h : (mI μ) pc = (.lstore i, 2)) (hn : i + 1 < mX μ) (hl : stL2 lv i (.long x) = lv2) (k : Wp E d μ (pc + 2) lv2 st M R) : Wp E d μ pc lv (.long x :: st) M R := by
  intro G l p e Rm s m args below meth c H locs cells slots Q ls C P S L K
  obtain ⟨hx, hb, hml, ho, ht, hK, hrm, hw, hlt, hX, O⟩ := id C
  exact lv_lstore hx hb (O.d h) (hsL_kit L) hn rfl (fun ls2 hl2 => k G l p e Rm s m args below meth c H locs cells slots Q ls2 C P S (by rw [← hl, map_stL2]; exact hsL_st2 hl2) K)
theorem r_lstore_n {i : Fin 4} {x : Int64} (h : (mI μ) pc = (.lstore_n i, 1)) (hn : (i : Nat) + 1 < mX μ) (hl : stL2 lv (i : Nat) (.long x) = lv2) (k : Wp E d μ (pc + 1) lv2 st M R) : Wp E d μ pc lv (.long x :: st) M R := by
  intro G l p e Rm s m args below meth c H locs cells slots Q ls C P S L K
  obtain ⟨hx, hb, hml, ho, ht, hK, hrm, hw, hlt, hX, O⟩ := id C
  exact lv_lstore_n hx hb (O.d h) rfl (hsL_kit L) hn rfl (fun ls2 hl2 => k G l p e Rm s m args below meth c H locs cells slots Q ls2 C P S (by rw [← hl, map_stL2]; exact hsL_st2 hl2) K)
theorem r_astore {i : Nat} {x : Nat} (h : (mI μ) pc = (.astore i, 2)) (hn : i < mX μ) (hl : stL lv i (.ref x) = lv2) (k : Wp E d μ (pc + 2) lv2 st M R) : Wp E d μ pc lv (.ref x :: st) M R := by
  intro G l p e Rm s m args below meth c H locs cells slots Q ls C P S L K
  obtain ⟨hx, hb, hml, ho, ht, hK, hrm, hw, hlt, hX, O⟩ := id C
  exact lv_astore hx hb (O.d h) (hsL_kit L) hn rfl (fun ls2 hl2 => k G l p e Rm s m args below meth c H locs cells slots Q ls2 C P S (by rw [← hl, map_stL]; exact hsL_st hl2) K)
theorem r_astore_n {i : Fin 4} {x : Nat} (h : (mI μ) pc = (.astore_n i, 1)) (hn : (i : Nat) < mX μ) (hl : stL lv (i : Nat) (.ref x) = lv2) (k : Wp E d μ (pc + 1) lv2 st M R) : Wp E d μ pc lv (.ref x :: st) M R := by
  intro G l p e Rm s m args below meth c H locs cells slots Q ls C P S L K
  obtain ⟨hx, hb, hml, ho, ht, hK, hrm, hw, hlt, hX, O⟩ := id C
  exact lv_astore_n hx hb (O.d h) rfl (hsL_kit L) hn rfl (fun ls2 hl2 => k G l p e Rm s m args below meth c H locs cells slots Q ls2 C P S (by rw [← hl, map_stL]; exact hsL_st hl2) K)
theorem r_iinc {i : Nat} {n : Int} {x v : Int32} (h : (mI μ) pc = (.iinc i n, 3)) (hn : i < mX μ) (hg : lv[i]? = some (.int x)) (hv : x + Int32.ofInt n = v) (hl : stL lv i (.int v) = lv2) (k : Wp E d μ (pc + 3) lv2 st M R) : Wp E d μ pc lv st M R := by
  intro G l p e Rm s m args below meth c H locs cells slots Q ls C P S L K
  obtain ⟨hx, hb, hml, ho, ht, hK, hrm, hw, hlt, hX, O⟩ := id C
  have hm : (i, Value.int x) ∈ asL (lv.map (shV G)) := asL_mem (by rw [List.getElem?_map, hg]; rfl) (by simp)
  obtain ⟨q, hq⟩ := List.getElem?_of_mem hm
  exact lv_iinc hx hb (O.d h) (hsL_kit L) hq hv hn rfl (fun ls2 hl2 => k G l p e Rm s m args below meth c H locs cells slots Q ls2 C P S (by rw [← hl, map_stL]; exact hsL_st hl2) K)
theorem r_dup {v : Value} (h : (mI μ) pc = (.dup, 1)) (hv : v.category = 1) (k : Wp E d μ (pc + 1) lv (v :: v :: st) M R) : Wp E d μ pc lv (v :: st) M R := by
  intro G l p e Rm s m args below meth c H locs cells slots Q ls C P S L K
  obtain ⟨hx, hb, hml, ho, ht, hK, hrm, hw, hlt, hX, O⟩ := id C
  exact lv_dup hx hb (O.d h) ((shV_cat G v).trans hv) (k G l p e Rm s m args below meth c H locs cells slots Q ls C P S L K)
theorem r_pop {v : Value} (h : (mI μ) pc = (.pop, 1)) (hv : v.category = 1) (k : Wp E d μ (pc + 1) lv (st) M R) : Wp E d μ pc lv (v :: st) M R := by
  intro G l p e Rm s m args below meth c H locs cells slots Q ls C P S L K
  obtain ⟨hx, hb, hml, ho, ht, hK, hrm, hw, hlt, hX, O⟩ := id C
  exact lv_pop hx hb (O.d h) ((shV_cat G v).trans hv) (k G l p e Rm s m args below meth c H locs cells slots Q ls C P S L K)
theorem r_dup2 {v w : Value} (h : (mI μ) pc = (.dup2, 1)) (hv : v.category = 1) (hw2 : w.category = 1) (k : Wp E d μ (pc + 1) lv (v :: w :: v :: w :: st) M R) : Wp E d μ pc lv (v :: w :: st) M R := by
  intro G l p e Rm s m args below meth c H locs cells slots Q ls C P S L K
  obtain ⟨hx, hb, hml, ho, ht, hK, hrm, hw, hlt, hX, O⟩ := id C
  exact lv_dup2_11 hx hb (O.d h) ((shV_cat G v).trans hv) ((shV_cat G w).trans hw2) (k G l p e Rm s m args below meth c H locs cells slots Q ls C P S L K)
theorem r_if_eq {x : Int32} {off : Int} {tgt : Nat} (h : (mI μ) pc = (.ifCond .eq off, 3)) (hg : (pc : Int) + off = (tgt : Int)) (kt : x = 0 → Wp E d μ tgt lv st M R) (kf : ¬ x = 0 → Wp E d μ (pc + 3) lv st M R) : Wp E d μ pc lv (.int x :: st) M R := by
  intro G l p e Rm s m args below meth c H locs cells slots Q ls C P S L K
  obtain ⟨hx, hb, hml, ho, ht, hK, hrm, hw, hlt, hX, O⟩ := id C
  exact lv_if_eq hx hb (O.d h) hg (fun q => kt q G l p e Rm s m args below meth c H locs cells slots Q ls C P S L K) (fun q => kf q G l p e Rm s m args below meth c H locs cells slots Q ls C P S L K)
theorem r_icmp_eq {x y : Int32} {off : Int} {tgt : Nat} (h : (mI μ) pc = (.if_icmp .eq off, 3)) (hg : (pc : Int) + off = (tgt : Int)) (kt : x = y → Wp E d μ tgt lv st M R) (kf : ¬ x = y → Wp E d μ (pc + 3) lv st M R) : Wp E d μ pc lv (.int y :: .int x :: st) M R := by
  intro G l p e Rm s m args below meth c H locs cells slots Q ls C P S L K
  obtain ⟨hx, hb, hml, ho, ht, hK, hrm, hw, hlt, hX, O⟩ := id C
  exact lv_icmp_eq hx hb (O.d h) hg (fun q => kt q G l p e Rm s m args below meth c H locs cells slots Q ls C P S L K) (fun q => kf q G l p e Rm s m args below meth c H locs cells slots Q ls C P S L K)
theorem r_if_ne {x : Int32} {off : Int} {tgt : Nat} (h : (mI μ) pc = (.ifCond .ne off, 3)) (hg : (pc : Int) + off = (tgt : Int)) (kt : ¬ x = 0 → Wp E d μ tgt lv st M R) (kf : x = 0 → Wp E d μ (pc + 3) lv st M R) : Wp E d μ pc lv (.int x :: st) M R := by
  intro G l p e Rm s m args below meth c H locs cells slots Q ls C P S L K
  obtain ⟨hx, hb, hml, ho, ht, hK, hrm, hw, hlt, hX, O⟩ := id C
  exact lv_if_ne hx hb (O.d h) hg (fun q => kt q G l p e Rm s m args below meth c H locs cells slots Q ls C P S L K) (fun q => kf q G l p e Rm s m args below meth c H locs cells slots Q ls C P S L K)
theorem r_icmp_ne {x y : Int32} {off : Int} {tgt : Nat} (h : (mI μ) pc = (.if_icmp .ne off, 3)) (hg : (pc : Int) + off = (tgt : Int)) (kt : ¬ x = y → Wp E d μ tgt lv st M R) (kf : x = y → Wp E d μ (pc + 3) lv st M R) : Wp E d μ pc lv (.int y :: .int x :: st) M R := by
  intro G l p e Rm s m args below meth c H locs cells slots Q ls C P S L K
  obtain ⟨hx, hb, hml, ho, ht, hK, hrm, hw, hlt, hX, O⟩ := id C
  exact lv_icmp_ne hx hb (O.d h) hg (fun q => kt q G l p e Rm s m args below meth c H locs cells slots Q ls C P S L K) (fun q => kf q G l p e Rm s m args below meth c H locs cells slots Q ls C P S L K)
theorem r_if_lt {x : Int32} {off : Int} {tgt : Nat} (h : (mI μ) pc = (.ifCond .lt off, 3)) (hg : (pc : Int) + off = (tgt : Int)) (kt : x < 0 → Wp E d μ tgt lv st M R) (kf : ¬ x < 0 → Wp E d μ (pc + 3) lv st M R) : Wp E d μ pc lv (.int x :: st) M R := by
  intro G l p e Rm s m args below meth c H locs cells slots Q ls C P S L K
  obtain ⟨hx, hb, hml, ho, ht, hK, hrm, hw, hlt, hX, O⟩ := id C
  exact lv_if_lt hx hb (O.d h) hg (fun q => kt q G l p e Rm s m args below meth c H locs cells slots Q ls C P S L K) (fun q => kf q G l p e Rm s m args below meth c H locs cells slots Q ls C P S L K)
theorem r_icmp_lt {x y : Int32} {off : Int} {tgt : Nat} (h : (mI μ) pc = (.if_icmp .lt off, 3)) (hg : (pc : Int) + off = (tgt : Int)) (kt : x < y → Wp E d μ tgt lv st M R) (kf : ¬ x < y → Wp E d μ (pc + 3) lv st M R) : Wp E d μ pc lv (.int y :: .int x :: st) M R := by
  intro G l p e Rm s m args below meth c H locs cells slots Q ls C P S L K
  obtain ⟨hx, hb, hml, ho, ht, hK, hrm, hw, hlt, hX, O⟩ := id C
  exact lv_icmp_lt hx hb (O.d h) hg (fun q => kt q G l p e Rm s m args below meth c H locs cells slots Q ls C P S L K) (fun q => kf q G l p e Rm s m args below meth c H locs cells slots Q ls C P S L K)
theorem r_if_ge {x : Int32} {off : Int} {tgt : Nat} (h : (mI μ) pc = (.ifCond .ge off, 3)) (hg : (pc : Int) + off = (tgt : Int)) (kt : 0 ≤ x → Wp E d μ tgt lv st M R) (kf : ¬ 0 ≤ x → Wp E d μ (pc + 3) lv st M R) : Wp E d μ pc lv (.int x :: st) M R := by
  intro G l p e Rm s m args below meth c H locs cells slots Q ls C P S L K
  obtain ⟨hx, hb, hml, ho, ht, hK, hrm, hw, hlt, hX, O⟩ := id C
  exact lv_if_ge hx hb (O.d h) hg (fun q => kt q G l p e Rm s m args below meth c H locs cells slots Q ls C P S L K) (fun q => kf q G l p e Rm s m args below meth c H locs cells slots Q ls C P S L K)
theorem r_icmp_ge {x y : Int32} {off : Int} {tgt : Nat} (h : (mI μ) pc = (.if_icmp .ge off, 3)) (hg : (pc : Int) + off = (tgt : Int)) (kt : y ≤ x → Wp E d μ tgt lv st M R) (kf : ¬ y ≤ x → Wp E d μ (pc + 3) lv st M R) : Wp E d μ pc lv (.int y :: .int x :: st) M R := by
  intro G l p e Rm s m args below meth c H locs cells slots Q ls C P S L K
  obtain ⟨hx, hb, hml, ho, ht, hK, hrm, hw, hlt, hX, O⟩ := id C
  exact lv_icmp_ge hx hb (O.d h) hg (fun q => kt q G l p e Rm s m args below meth c H locs cells slots Q ls C P S L K) (fun q => kf q G l p e Rm s m args below meth c H locs cells slots Q ls C P S L K)
theorem r_if_gt {x : Int32} {off : Int} {tgt : Nat} (h : (mI μ) pc = (.ifCond .gt off, 3)) (hg : (pc : Int) + off = (tgt : Int)) (kt : 0 < x → Wp E d μ tgt lv st M R) (kf : ¬ 0 < x → Wp E d μ (pc + 3) lv st M R) : Wp E d μ pc lv (.int x :: st) M R := by
  intro G l p e Rm s m args below meth c H locs cells slots Q ls C P S L K
  obtain ⟨hx, hb, hml, ho, ht, hK, hrm, hw, hlt, hX, O⟩ := id C
  exact lv_if_gt hx hb (O.d h) hg (fun q => kt q G l p e Rm s m args below meth c H locs cells slots Q ls C P S L K) (fun q => kf q G l p e Rm s m args below meth c H locs cells slots Q ls C P S L K)
theorem r_icmp_gt {x y : Int32} {off : Int} {tgt : Nat} (h : (mI μ) pc = (.if_icmp .gt off, 3)) (hg : (pc : Int) + off = (tgt : Int)) (kt : y < x → Wp E d μ tgt lv st M R) (kf : ¬ y < x → Wp E d μ (pc + 3) lv st M R) : Wp E d μ pc lv (.int y :: .int x :: st) M R := by
  intro G l p e Rm s m args below meth c H locs cells slots Q ls C P S L K
  obtain ⟨hx, hb, hml, ho, ht, hK, hrm, hw, hlt, hX, O⟩ := id C
  exact lv_icmp_gt hx hb (O.d h) hg (fun q => kt q G l p e Rm s m args below meth c H locs cells slots Q ls C P S L K) (fun q => kf q G l p e Rm s m args below meth c H locs cells slots Q ls C P S L K)
theorem r_if_le {x : Int32} {off : Int} {tgt : Nat} (h : (mI μ) pc = (.ifCond .le off, 3)) (hg : (pc : Int) + off = (tgt : Int)) (kt : x ≤ 0 → Wp E d μ tgt lv st M R) (kf : ¬ x ≤ 0 → Wp E d μ (pc + 3) lv st M R) : Wp E d μ pc lv (.int x :: st) M R := by
  intro G l p e Rm s m args below meth c H locs cells slots Q ls C P S L K
  obtain ⟨hx, hb, hml, ho, ht, hK, hrm, hw, hlt, hX, O⟩ := id C
  exact lv_if_le hx hb (O.d h) hg (fun q => kt q G l p e Rm s m args below meth c H locs cells slots Q ls C P S L K) (fun q => kf q G l p e Rm s m args below meth c H locs cells slots Q ls C P S L K)
theorem r_icmp_le {x y : Int32} {off : Int} {tgt : Nat} (h : (mI μ) pc = (.if_icmp .le off, 3)) (hg : (pc : Int) + off = (tgt : Int)) (kt : x ≤ y → Wp E d μ tgt lv st M R) (kf : ¬ x ≤ y → Wp E d μ (pc + 3) lv st M R) : Wp E d μ pc lv (.int y :: .int x :: st) M R := by
  intro G l p e Rm s m args below meth c H locs cells slots Q ls C P S L K
  obtain ⟨hx, hb, hml, ho, ht, hK, hrm, hw, hlt, hX, O⟩ := id C
  exact lv_icmp_le hx hb (O.d h) hg (fun q => kt q G l p e Rm s m args below meth c H locs cells slots Q ls C P S L K) (fun q => kf q G l p e Rm s m args below meth c H locs cells slots Q ls C P S L K)
theorem r_goto {off : Int} {tgt : Nat} (h : (mI μ) pc = (.goto off, 3)) (hg : (pc : Int) + off = (tgt : Int)) (k : Wp E d μ tgt lv st M R) : Wp E d μ pc lv st M R := by
  intro G l p e Rm s m args below meth c H locs cells slots Q ls C P S L K
  obtain ⟨hx, hb, hml, ho, ht, hK, hrm, hw, hlt, hX, O⟩ := id C
  exact lv_goto hx hb (O.d h) hg (k G l p e Rm s m args below meth c H locs cells slots Q ls C P S L K)
theorem r_tsOut {dflt lo hi : Int} {offs : Array Int} {n : Nat} {x : Int32} {tgt : Nat} (h : (mI μ) pc = (.tableswitch dflt lo hi offs, n + 1)) (hq : x.toInt < lo ∨ hi < x.toInt) (hg : (pc : Int) + dflt = (tgt : Int)) (k : Wp E d μ tgt lv st M R) : Wp E d μ pc lv (.int x :: st) M R := by
  intro G l p e Rm s m args below meth c H locs cells slots Q ls C P S L K
  obtain ⟨hx, hb, hml, ho, ht, hK, hrm, hw, hlt, hX, O⟩ := id C
  exact lv_tableOut hx hb (O.d h) hq hg (k G l p e Rm s m args below meth c H locs cells slots Q ls C P S L K)
theorem r_tsIn {dflt lo hi : Int} {offs : Array Int} {n : Nat} {x : Int32} {off : Int} {tgt : Nat} (h : (mI μ) pc = (.tableswitch dflt lo hi offs, n + 1)) (h1 : ¬ x.toInt < lo) (h2 : ¬ hi < x.toInt) (hq : offs[(x.toInt - lo).toNat]? = some off) (hg : (pc : Int) + off = (tgt : Int)) (k : Wp E d μ tgt lv st M R) : Wp E d μ pc lv (.int x :: st) M R := by
  intro G l p e Rm s m args below meth c H locs cells slots Q ls C P S L K
  obtain ⟨hx, hb, hml, ho, ht, hK, hrm, hw, hlt, hX, O⟩ := id C
  exact lv_tableIn hx hb (O.d h) h1 h2 hq hg (k G l p e Rm s m args below meth c H locs cells slots Q ls C P S L K)
theorem r_lk {dflt : Int} {ps : Array (Int × Int)} {n : Nat} {x : Int32} {off : Int} {tgt : Nat} (h : (mI μ) pc = (.lookupswitch dflt ps, n + 1)) (hp : (ps.toList.zip (ps.toList.drop 1)).all (fun (a, next) => a.1 < next.1) = true) (hq : Op.lookupswitch.offset ps.toList dflt x.toInt = off) (hg : (pc : Int) + off = (tgt : Int)) (k : Wp E d μ tgt lv st M R) : Wp E d μ pc lv (.int x :: st) M R := by
  intro G l p e Rm s m args below meth c H locs cells slots Q ls C P S L K
  obtain ⟨hx, hb, hml, ho, ht, hK, hrm, hw, hlt, hX, O⟩ := id C
  exact lv_lookup hx hb (O.d h) hp hq hg (k G l p e Rm s m args below meth c H locs cells slots Q ls C P S L K)
theorem r_iret {x : Int32} {t : FieldType} (h : (mI μ) pc = (.ireturn, 1)) (ht2 : mT μ = some t) (hn : narrow t (.int x) = .int x) (hR : R (some (.int x)) M) : Wp E d μ pc lv [.int x] M R := by
  intro G l p e Rm s m args below meth c H locs cells slots Q ls C P S L K
  obtain ⟨hx, hb, hml, ho, ht, hK, hrm, hw, hlt, hX, O⟩ := id C
  exact K (some (.int x)) M H locs pc ls hR (Or.inl ⟨x, t, rfl, h, ht2, hn⟩) P S
theorem r_lret {x : Int64} (h : (mI μ) pc = (.lreturn, 1)) (ht2 : mT μ = some .long) (hR : R (some (.long x)) M) : Wp E d μ pc lv [.long x] M R := by
  intro G l p e Rm s m args below meth c H locs cells slots Q ls C P S L K
  obtain ⟨hx, hb, hml, ho, ht, hK, hrm, hw, hlt, hX, O⟩ := id C
  exact K (some (.long x)) M H locs pc ls hR (Or.inr (Or.inl ⟨x, rfl, h, ht2⟩)) P S
theorem r_ret (h : (mI μ) pc = (.return_, 1)) (ht2 : mT μ = none) (hR : R none M) : Wp E d μ pc lv [] M R := by
  intro G l p e Rm s m args below meth c H locs cells slots Q ls C P S L K
  obtain ⟨hx, hb, hml, ho, ht, hK, hrm, hw, hlt, hX, O⟩ := id C
  exact K none M H locs pc ls hR (Or.inr (Or.inr ⟨rfl, h, ht2⟩)) P S
end RW
