/-! what the printed blocks use -/
def Fg : List Value → List Value → Prop
  | [], [] => True
  | a :: l, b :: l' => (b = .null ∨ b = a) ∧ Fg l l'
  | _, _ => False
theorem fgc {a b : Value} {l l' : List Value} (h : b = .null ∨ b = a) (k : Fg l l') : Fg (a :: l) (b :: l') := ⟨h, k⟩
theorem fgk {a : Value} {l l' : List Value} (k : Fg l l') : Fg (a :: l) (a :: l') := ⟨Or.inr rfl, k⟩
theorem fgd {a : Value} {l l' : List Value} (k : Fg l l') : Fg (a :: l) (.null :: l') := ⟨Or.inl rfl, k⟩
theorem fgn : Fg [] [] := trivial
theorem Fg_at : ∀ {lv lv' : List Value}, Fg lv lv' → ∀ (i : Nat) (v : Value), lv'[i]? = some v → v ≠ .null → lv[i]? = some v
  | [], [], _, i, v, h, _ => by simp at h
  | a :: l, b :: l', ⟨h1, h2⟩, i, v, h, hv => by
    cases i with
    | zero =>
      simp at h
      subst h
      rcases h1 with h1 | h1
      · exact absurd h1 hv
      · simp [h1]
    | succ i =>
      simp at h
      simp
      exact Fg_at h2 i v h hv
theorem w_fgt {E : EN} {d : Nat} {μ : MR} {pc : Nat} {lv lv' st : List Value} {M : ME} {R : Option Value → ME → Prop} (k : Wp E d μ pc lv' st M R) (hf : Fg lv lv') : Wp E d μ pc lv st M R := by
  intro G l p e Rm s m args below meth c H locs cells slots Q ls C P S L K
  refine k G l p e Rm s m args below meth c H locs cells slots Q ls C P S ⟨L.1, L.2.1, fun i v hi hv => ?_⟩ K
  rw [List.getElem?_map] at hi
  cases hw : lv'[i]? with
  | none => rw [hw] at hi; cases hi
  | some w =>
    rw [hw] at hi
    have hvw : shV G w = v := by simpa using hi
    have hw0 : w ≠ .null := fun q => hv (by rw [← hvw, q]; rfl)
    have := Fg_at hf i w hw hw0
    rw [← hvw]
    exact hsL_ld L this hw0
theorem i32_eq {x y : Int32} (h : x.toInt = y.toInt) : x = y := Int32.toInt_inj.mp h
theorem sw_cases1 {x : Int32} (h1 : ¬ x.toInt < 0) (h2 : ¬ (0 : Int) < x.toInt) : x = 0 := i32_eq (by show x.toInt = 0; omega)
theorem sw_cases3 {x : Int32} (h1 : ¬ x.toInt < 0) (h2 : ¬ (2 : Int) < x.toInt) : x = 0 ∨ x = 1 ∨ x = 2 := by
  have : x.toInt = 0 ∨ x.toInt = 1 ∨ x.toInt = 2 := by omega
  rcases this with h | h | h
  · exact Or.inl (i32_eq h)
  · exact Or.inr (Or.inl (i32_eq h))
  · exact Or.inr (Or.inr (i32_eq h))
theorem sw_cases2 {x : Int32} (h1 : ¬ x.toInt < 0) (h2 : ¬ (1 : Int) < x.toInt) : x = 0 ∨ x = 1 := by
  have : x.toInt = 0 ∨ x.toInt = 1 := by omega
  rcases this with h | h
  · exact Or.inl (i32_eq h)
  · exact Or.inr (i32_eq h)
theorem sw_cases4 {x : Int32} (h1 : ¬ x.toInt < 0) (h2 : ¬ (3 : Int) < x.toInt) : x = 0 ∨ x = 1 ∨ x = 2 ∨ x = 3 := by
  have : x.toInt = 0 ∨ x.toInt = 1 ∨ x.toInt = 2 ∨ x.toInt = 3 := by omega
  rcases this with h | h | h | h
  · exact Or.inl (i32_eq h)
  · exact Or.inr (Or.inl (i32_eq h))
  · exact Or.inr (Or.inr (Or.inl (i32_eq h)))
  · exact Or.inr (Or.inr (Or.inr (i32_eq h)))
theorem sw_cases5 {x : Int32} (h1 : ¬ x.toInt < 0) (h2 : ¬ (4 : Int) < x.toInt) : x = 0 ∨ x = 1 ∨ x = 2 ∨ x = 3 ∨ x = 4 := by
  have : x.toInt < 4 ∨ x.toInt = 4 := by omega
  rcases this with h | h
  · rcases sw_cases4 h1 (by omega) with h | h | h | h <;> simp [h]
  · simp [i32_eq (y := 4) h]
theorem sw_cases6 {x : Int32} (h1 : ¬ x.toInt < 0) (h2 : ¬ (5 : Int) < x.toInt) : x = 0 ∨ x = 1 ∨ x = 2 ∨ x = 3 ∨ x = 4 ∨ x = 5 := by
  have : x.toInt < 5 ∨ x.toInt = 5 := by omega
  rcases this with h | h
  · rcases sw_cases5 h1 (by omega) with h | h | h | h | h <;> simp [h]
  · simp [i32_eq (y := 5) h]
theorem sw_cases8 {x : Int32} (h1 : ¬ x.toInt < 0) (h2 : ¬ (7 : Int) < x.toInt) : x = 0 ∨ x = 1 ∨ x = 2 ∨ x = 3 ∨ x = 4 ∨ x = 5 ∨ x = 6 ∨ x = 7 := by
  have : x.toInt < 6 ∨ x.toInt = 6 ∨ x.toInt = 7 := by omega
  rcases this with h | h | h
  · rcases sw_cases6 h1 (by omega) with h | h | h | h | h | h <;> simp [h]
  · simp [i32_eq (y := 6) h]
  · simp [i32_eq (y := 7) h]
theorem sw_cases9 {x : Int32} (h1 : ¬ x.toInt < 0) (h2 : ¬ (8 : Int) < x.toInt) : x = 0 ∨ x = 1 ∨ x = 2 ∨ x = 3 ∨ x = 4 ∨ x = 5 ∨ x = 6 ∨ x = 7 ∨ x = 8 := by
  have : x.toInt < 8 ∨ x.toInt = 8 := by omega
  rcases this with h | h
  · rcases sw_cases8 h1 (by omega) with h | h | h | h | h | h | h | h <;> simp [h]
  · simp [i32_eq (y := 8) h]
theorem sh5_row {L j : Nat} {xs : Nat → Int32} (h : j < 17) : shp (E0 L xs) (36 + 1 + j) = (1, 18) := by
  have : ∀ j, j < 17 → SH0 (36 + 1 + j) = (1, 18) := by decide +kernel
  exact this j h
theorem sh6_row {L j : Nat} {xs : Nat → Int32} (h : j < 15) : shp (E0 L xs) (19 + 1 + j) = (2, 29) := by
  have : ∀ j, j < 15 → SH0 (19 + 1 + j) = (2, 29) := by decide +kernel
  exact this j h
theorem x9_max1 : Cond.methodLink "PlaneMaps" 320 Lib.Math.max.name ∈ TB := tb_in 686 (by decide +kernel) (by decide +kernel)
theorem x9_max2 : Cond.static Lib.Math.max.name ∈ TB := tb_in 687 (by decide +kernel) (by decide +kernel)
theorem x9_max3 : Cond.initialized "java/lang/Math" ∈ TB := tb_in 103 (by decide +kernel) (by decide +kernel)
theorem x9_max4 : Cond.code Lib.Math.max.name Lib.Math.max.code 2 (some .int) ∈ TB := tb_in 688 (by decide +kernel) (by decide +kernel)
theorem lk_dflt2 {x a b d o1 o2 : Int} (h1 : ¬ x = a) (h2 : ¬ x = b) : Op.lookupswitch.offset [(a, o1), (b, o2)] d x = d := by
  simp [Op.lookupswitch.offset, Ne.symm h1, Ne.symm h2, h1, h2]
theorem sw_cases24 {x : Int32} (h1 : ¬ x.toInt < 0) (h2 : ¬ (23 : Int) < x.toInt) : x = 0 ∨ x = 1 ∨ x = 2 ∨ x = 3 ∨ x = 4 ∨ x = 5 ∨ x = 6 ∨ x = 7 ∨ x = 8 ∨ x = 9 ∨ x = 10 ∨ x = 11 ∨ x = 12 ∨ x = 13 ∨ x = 14 ∨ x = 15 ∨ x = 16 ∨ x = 17 ∨ x = 18 ∨ x = 19 ∨ x = 20 ∨ x = 21 ∨ x = 22 ∨ x = 23 := by
  have : x.toInt = 0 ∨ x.toInt = 1 ∨ x.toInt = 2 ∨ x.toInt = 3 ∨ x.toInt = 4 ∨ x.toInt = 5 ∨ x.toInt = 6 ∨ x.toInt = 7 ∨ x.toInt = 8 ∨ x.toInt = 9 ∨ x.toInt = 10 ∨ x.toInt = 11 ∨ x.toInt = 12 ∨ x.toInt = 13 ∨ x.toInt = 14 ∨ x.toInt = 15 ∨ x.toInt = 16 ∨ x.toInt = 17 ∨ x.toInt = 18 ∨ x.toInt = 19 ∨ x.toInt = 20 ∨ x.toInt = 21 ∨ x.toInt = 22 ∨ x.toInt = 23 := by omega
  rcases this with h | h | h | h | h | h | h | h | h | h | h | h | h | h | h | h | h | h | h | h | h | h | h | h
  · exact Or.inl (i32_eq h)
  · exact Or.inr (Or.inl (i32_eq h))
  · exact Or.inr (Or.inr (Or.inl (i32_eq h)))
  · exact Or.inr (Or.inr (Or.inr (Or.inl (i32_eq h))))
  · exact Or.inr (Or.inr (Or.inr (Or.inr (Or.inl (i32_eq h)))))
  · exact Or.inr (Or.inr (Or.inr (Or.inr (Or.inr (Or.inl (i32_eq h))))))
  · exact Or.inr (Or.inr (Or.inr (Or.inr (Or.inr (Or.inr (Or.inl (i32_eq h)))))))
  · exact Or.inr (Or.inr (Or.inr (Or.inr (Or.inr (Or.inr (Or.inr (Or.inl (i32_eq h))))))))
  · exact Or.inr (Or.inr (Or.inr (Or.inr (Or.inr (Or.inr (Or.inr (Or.inr (Or.inl (i32_eq h)))))))))
  · exact Or.inr (Or.inr (Or.inr (Or.inr (Or.inr (Or.inr (Or.inr (Or.inr (Or.inr (Or.inl (i32_eq h))))))))))
  · exact Or.inr (Or.inr (Or.inr (Or.inr (Or.inr (Or.inr (Or.inr (Or.inr (Or.inr (Or.inr (Or.inl (i32_eq h)))))))))))
  · exact Or.inr (Or.inr (Or.inr (Or.inr (Or.inr (Or.inr (Or.inr (Or.inr (Or.inr (Or.inr (Or.inr (Or.inl (i32_eq h))))))))))))
  · exact Or.inr (Or.inr (Or.inr (Or.inr (Or.inr (Or.inr (Or.inr (Or.inr (Or.inr (Or.inr (Or.inr (Or.inr (Or.inl (i32_eq h)))))))))))))
  · exact Or.inr (Or.inr (Or.inr (Or.inr (Or.inr (Or.inr (Or.inr (Or.inr (Or.inr (Or.inr (Or.inr (Or.inr (Or.inr (Or.inl (i32_eq h))))))))))))))
  · exact Or.inr (Or.inr (Or.inr (Or.inr (Or.inr (Or.inr (Or.inr (Or.inr (Or.inr (Or.inr (Or.inr (Or.inr (Or.inr (Or.inr (Or.inl (i32_eq h)))))))))))))))
  · exact Or.inr (Or.inr (Or.inr (Or.inr (Or.inr (Or.inr (Or.inr (Or.inr (Or.inr (Or.inr (Or.inr (Or.inr (Or.inr (Or.inr (Or.inr (Or.inl (i32_eq h))))))))))))))))
  · exact Or.inr (Or.inr (Or.inr (Or.inr (Or.inr (Or.inr (Or.inr (Or.inr (Or.inr (Or.inr (Or.inr (Or.inr (Or.inr (Or.inr (Or.inr (Or.inr (Or.inl (i32_eq h)))))))))))))))))
  · exact Or.inr (Or.inr (Or.inr (Or.inr (Or.inr (Or.inr (Or.inr (Or.inr (Or.inr (Or.inr (Or.inr (Or.inr (Or.inr (Or.inr (Or.inr (Or.inr (Or.inr (Or.inl (i32_eq h))))))))))))))))))
  · exact Or.inr (Or.inr (Or.inr (Or.inr (Or.inr (Or.inr (Or.inr (Or.inr (Or.inr (Or.inr (Or.inr (Or.inr (Or.inr (Or.inr (Or.inr (Or.inr (Or.inr (Or.inr (Or.inl (i32_eq h)))))))))))))))))))
  · exact Or.inr (Or.inr (Or.inr (Or.inr (Or.inr (Or.inr (Or.inr (Or.inr (Or.inr (Or.inr (Or.inr (Or.inr (Or.inr (Or.inr (Or.inr (Or.inr (Or.inr (Or.inr (Or.inr (Or.inl (i32_eq h))))))))))))))))))))
  · exact Or.inr (Or.inr (Or.inr (Or.inr (Or.inr (Or.inr (Or.inr (Or.inr (Or.inr (Or.inr (Or.inr (Or.inr (Or.inr (Or.inr (Or.inr (Or.inr (Or.inr (Or.inr (Or.inr (Or.inr (Or.inl (i32_eq h)))))))))))))))))))))
  · exact Or.inr (Or.inr (Or.inr (Or.inr (Or.inr (Or.inr (Or.inr (Or.inr (Or.inr (Or.inr (Or.inr (Or.inr (Or.inr (Or.inr (Or.inr (Or.inr (Or.inr (Or.inr (Or.inr (Or.inr (Or.inr (Or.inl (i32_eq h))))))))))))))))))))))
  · exact Or.inr (Or.inr (Or.inr (Or.inr (Or.inr (Or.inr (Or.inr (Or.inr (Or.inr (Or.inr (Or.inr (Or.inr (Or.inr (Or.inr (Or.inr (Or.inr (Or.inr (Or.inr (Or.inr (Or.inr (Or.inr (Or.inr (Or.inl (i32_eq h)))))))))))))))))))))))
  · exact Or.inr (Or.inr (Or.inr (Or.inr (Or.inr (Or.inr (Or.inr (Or.inr (Or.inr (Or.inr (Or.inr (Or.inr (Or.inr (Or.inr (Or.inr (Or.inr (Or.inr (Or.inr (Or.inr (Or.inr (Or.inr (Or.inr (Or.inr (i32_eq h)))))))))))))))))))))))
theorem lgc_lt {x y : Int64} : lg_cmp x y < 0 ↔ x < y := by
  unfold lg_cmp
  by_cases h : x > y
  · rw [if_pos h]
    constructor
    · intro q; exact absurd q (by decide)
    · intro q; exact absurd (Int64.lt_trans h q) (Int64.lt_irrefl)
  · rw [if_neg h]
    by_cases e : x = y
    · rw [if_pos e]; subst e
      constructor
      · intro q; exact absurd q (by decide)
      · intro q; exact absurd q (Int64.lt_irrefl)
    · rw [if_neg e]
      constructor
      · intro _
        have h1 : ¬ y.toInt < x.toInt := fun q => h (Int64.lt_iff_toInt_lt.mpr q)
        have h2 : ¬ x.toInt = y.toInt := fun q => e (Int64.toInt_inj.mp q)
        exact Int64.lt_iff_toInt_lt.mpr (by omega)
      · intro _; decide
theorem lgc_gt {x y : Int64} : 0 < lg_cmp x y ↔ y < x := by
  unfold lg_cmp
  by_cases h : x > y
  · rw [if_pos h]
    exact ⟨fun _ => h, fun _ => by decide⟩
  · rw [if_neg h]
    by_cases e : x = y
    · rw [if_pos e]
      exact ⟨fun q => absurd q (by decide), fun q => absurd q h⟩
    · rw [if_neg e]
      exact ⟨fun q => absurd q (by decide), fun q => absurd q h⟩
theorem i64_nlt {x y : Int64} : ¬ x < y ↔ y ≤ x := by
  rw [Int64.lt_iff_toInt_lt, Int64.le_iff_toInt_le]; omega
theorem in_iff {x : Int32} {n : Nat} {hi : Int64} (hh : hi.toInt = (n : Int) - 1) : (0 ≤ x.toInt64 ∧ x.toInt64 ≤ hi) ↔ vp_in x n := by
  rw [vp_in_iff, Int64.le_iff_toInt_le, Int64.le_iff_toInt_le, Int32.toInt_toInt64, hh]
  have : (0 : Int64).toInt = 0 := rfl
  rw [this]
  omega
theorem nin_of {x : Int32} {n : Nat} {y : Int32} (hy : y.toInt = n) : (x < 0 ∨ y ≤ x) ↔ ¬ vp_in x n := by
  rw [vp_in_iff, Int32.lt_iff_toInt_lt, Int32.le_iff_toInt_le, hy]
  have : (0 : Int32).toInt = 0 := rfl
  rw [this]
  omega
