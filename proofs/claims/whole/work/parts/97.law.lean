/-! the law: call after call both answer the same -/
theorem m6_lt {k a : Nat} (hk : k < 2 ^ 31) (ha : a < 2 ^ 31) : nI k - 6 < nI a ↔ k < a + 6 := by
  by_cases q : 6 ≤ k
  · rw [show nI k - 6 = nI (k - 6) from i_sub q, nI_ltI (by omega) ha]; omega
  · have e : (nI a).toInt = a := nI_toInt ha
    rw [Int32.lt_iff_toInt_lt, e]
    have : k = 0 ∨ k = 1 ∨ k = 2 ∨ k = 3 ∨ k = 4 ∨ k = 5 := by omega
    rcases this with rfl | rfl | rfl | rfl | rfl | rfl
    · have : (nI 0 - 6).toInt = -6 := rfl
      omega
    · have : (nI 1 - 6).toInt = -5 := rfl
      omega
    · have : (nI 2 - 6).toInt = -4 := rfl
      omega
    · have : (nI 3 - 6).toInt = -3 := rfl
      omega
    · have : (nI 4 - 6).toInt = -2 := rfl
      omega
    · have : (nI 5 - 6).toInt = -1 := rfl
      omega
theorem lgc_self (a : Int64) : lg_cmp a a = 0 := by
  unfold lg_cmp
  simp
theorem law_loop {L : Nat} {xs : Nat → Int32} {d : Nat} (HL : L < 2 ^ 31) : ∀ (q i : Nat) (M : ME) (st : ST), L ≤ i + q → i < 2 ^ 31 → StOK st → ClsS tabV M st → RefS M st → Wp (E0 L xs) (d + 23) mL_law 18 [.retAddr 0, .ref 1, .ref 110, .int (nI i)] [] M (fun v _ => v = some (.int 1)) := by
  intro q
  induction q using Nat.strongRecOn with
  | _ q ih =>
    intro i M st hq hi hok hS hR
    refine bL_law_18 HL (fun _ => bL_law_1045 HL rfl) (fun z => ?_)
    have h6 : i + 6 ≤ L := by
      by_cases w : i + 6 ≤ L
      · exact w
      · exact absurd ((m6_lt HL hi).mpr (by omega)) z
    have hj : ∀ k : Nat, nI i + nI k = nI (i + k) := fun k => nI_add i k
    have next : ∀ (st' : ST) (M' : ME), StOK st' → ClsS tabV M' st' → RefS M' st' → Wp (E0 L xs) (d + 23) mL_law 18 [.retAddr 0, .ref 1, .ref 110, .int (nI i + 6)] [] M' (fun v _ => v = some (.int 1)) := fun st' M' a b c => by
      rw [show nI i + 6 = nI (i + 6) from nI_add i 6]
      exact ih (q - 6) (by omega) (i + 6) M' st' (by omega) (by omega) a b c
    refine bL_law_27 HL i rfl (by omega)
      (fun _ => bL_law_144 HL (i + 1) (hj 1) (by omega) (i + 2) (hj 2) (by omega) (i + 3) (hj 3) (by omega) (i + 4) (hj 4) (by omega) (i + 5) (hj 5) (by omega) (c_feed (d := d + 21) hS hok) (fun r1 M1 h1 => bL_law_173 HL (i + 1) (hj 1) (by omega) (i + 2) (hj 2) (by omega) (i + 3) (hj 3) (by omega) (i + 4) (hj 4) (by omega) (i + 5) (hj 5) (by omega) (r_feed (d := d + 22) (RefS_fr hR h1.2.2) hok) (fun r2 M2 h2 => bL_law_202 HL (fun _ => bL_law_1039 HL (next _ M2 (k_feed hok) (ClsS_fr h1.2.1 h2.2.2) h2.2.1)) (fun z => absurd (h1.1.trans h2.1.symm) z))))
      (fun _ => bL_law_207 HL (i + 1) (hj 1) (by omega) (c_end2 (d := d + 22) hS hok) (fun r1 M1 h1 => bL_law_216 HL (i + 1) (hj 1) (by omega) (r_end (d := d + 21) (RefS_fr hR h1.2.2) hok) (fun r2 M2 h2 => bL_law_225 HL (fun _ => bL_law_1039 HL (next _ M2 (k_end hok) (ClsS_fr h1.2.1 h2.2.2) h2.2.1)) (fun z => absurd (h1.1.trans h2.1.symm) z))))
      (fun _ => bL_law_230 HL (i + 1) (hj 1) (by omega) (c_map (d := d + 17) hS hok) (fun r1 M1 h1 => bL_law_239 HL (i + 1) (hj 1) (by omega) (r_map (d := d + 18) (RefS_fr hR h1.2.2) hok) (fun r2 M2 h2 => bL_law_248 HL (fun _ => bL_law_1039 HL (next _ M2 (k_map hok) (ClsS_fr h1.2.1 h2.2.2) h2.2.1)) (fun z => absurd (h1.1.trans h2.1.symm) z))))
      (fun _ => bL_law_253 HL (i + 1) (hj 1) (by omega) (c_fault (d := d + 22) hS) (fun r1 M1 h1 => bL_law_262 HL (i + 1) (hj 1) (by omega) (r_fault (d := d + 22) (RefS_fr hR h1.2.2) hok) (fun r2 M2 h2 => bL_law_271 HL (fun _ => bL_law_1039 HL (next _ M2 hok (ClsS_fr h1.2.1 h2.2.2) h2.2.1)) (fun z => absurd (h1.1.trans h2.1.symm) z))))
      (fun _ => bL_law_276 HL (i + 1) (hj 1) (by omega) (i + 2) (hj 2) (by omega) (c_count (d := d + 19) hS) (fun r1 M1 h1 => bL_law_290 HL (i + 1) (hj 1) (by omega) (i + 2) (hj 2) (by omega) (r_count (d := d + 19) (RefS_fr hR h1.2.2) hok) (fun r2 M2 h2 => bL_law_304 HL (fun _ => bL_law_1039 HL (next _ M2 hok (ClsS_fr h1.2.1 h2.2.2) h2.2.1)) (fun z => absurd (by rw [h1.1, h2.1]; exact lgc_self _) z))))
      (fun _ => bL_law_310 HL (i + 1) (hj 1) (by omega) (c_trees (d := d + 21) hS) (fun r1 M1 h1 => bL_law_319 HL (i + 1) (hj 1) (by omega) (r_trees (d := d + 0) (RefS_fr hR h1.2.2) hok) (fun r2 M2 h2 => bL_law_328 HL (fun _ => bL_law_1039 HL (next _ M2 hok (ClsS_fr h1.2.1 h2.2.2) h2.2.1)) (fun z => absurd (by rw [h1.1, h2.1]; exact lgc_self _) z))))
      (fun _ => bL_law_334 HL (i + 1) (hj 1) (by omega) (i + 2) (hj 2) (by omega) (i + 3) (hj 3) (by omega) (i + 4) (hj 4) (by omega) (c_tree (d := d + 17) hS hok) (fun r1 M1 h1 => bL_law_368 HL (i + 1) (hj 1) (by omega) (i + 2) (hj 2) (by omega) (i + 3) (hj 3) (by omega) (i + 4) (hj 4) (by omega) (r_tree (d := d + 0) (RefS_fr hR h1.2.2) hok) (fun r2 M2 h2 => bL_law_402 HL (fun _ => bL_law_1039 HL (next _ M2 (k_tree hok) (ClsS_fr h1.2.1 h2.2.2) h2.2.1)) (fun z => absurd (h1.1.trans h2.1.symm) z))))
      (fun _ => bL_law_407 HL (i + 1) (hj 1) (by omega) (c_rank (d := d + 19) hS hok) (fun r1 M1 h1 => bL_law_416 HL (i + 1) (hj 1) (by omega) (r_rank (d := d + 0) (RefS_fr hR h1.2.2) hok) (fun r2 M2 h2 => bL_law_425 HL (fun _ => bL_law_1039 HL (next _ M2 hok (ClsS_fr h1.2.1 h2.2.2) h2.2.1)) (fun z => absurd (by rw [h1.1, h2.1]; exact lgc_self _) z))))
      (fun _ => bL_law_431 HL (i + 1) (hj 1) (by omega) (i + 2) (hj 2) (by omega) (i + 3) (hj 3) (by omega) (c_shape (d := d + 21) hS hok) (fun r1 M1 h1 => bL_law_450 HL (i + 1) (hj 1) (by omega) (i + 2) (hj 2) (by omega) (i + 3) (hj 3) (by omega) (r_shape (d := d + 20) (RefS_fr hR h1.2.2) hok) (fun r2 M2 h2 => bL_law_469 HL (fun _ => bL_law_1039 HL (next _ M2 hok (ClsS_fr h1.2.1 h2.2.2) h2.2.1)) (fun z => absurd (h1.1.trans h2.1.symm) z))))
      (fun _ => bL_law_474 HL (i + 1) (hj 1) (by omega) (i + 2) (hj 2) (by omega) (i + 3) (hj 3) (by omega) (c_turn (d := d + 18) hS hok) (fun r1 M1 h1 => bL_law_493 HL (i + 1) (hj 1) (by omega) (i + 2) (hj 2) (by omega) (i + 3) (hj 3) (by omega) (r_turn (d := d + 19) (RefS_fr hR h1.2.2) hok) (fun r2 M2 h2 => bL_law_512 HL (fun _ => bL_law_1039 HL (next _ M2 (k_turn hok) (ClsS_fr h1.2.1 h2.2.2) h2.2.1)) (fun z => absurd (h1.1.trans h2.1.symm) z))))
      (fun _ => bL_law_517 HL (i + 1) (hj 1) (by omega) (i + 2) (hj 2) (by omega) (i + 3) (hj 3) (by omega) (c_back (d := d + 18) hS hok) (fun r1 M1 h1 => bL_law_536 HL (i + 1) (hj 1) (by omega) (i + 2) (hj 2) (by omega) (i + 3) (hj 3) (by omega) (r_back (d := d + 11) (RefS_fr hR h1.2.2) hok) (fun r2 M2 h2 => bL_law_555 HL (fun _ => bL_law_1039 HL (next _ M2 (k_back hok) (ClsS_fr h1.2.1 h2.2.2) h2.2.1)) (fun z => absurd (h1.1.trans h2.1.symm) z))))
      (fun _ => bL_law_560 HL (i + 1) (hj 1) (by omega) (i + 2) (hj 2) (by omega) (c_halve (d := d + 18) hS hok) (fun r1 M1 h1 => bL_law_574 HL (i + 1) (hj 1) (by omega) (i + 2) (hj 2) (by omega) (r_halve (d := d + 19) (RefS_fr hR h1.2.2) hok) (fun r2 M2 h2 => bL_law_588 HL (fun _ => bL_law_1039 HL (next _ M2 (k_halve hok) (ClsS_fr h1.2.1 h2.2.2) h2.2.1)) (fun z => absurd (h1.1.trans h2.1.symm) z))))
      (fun _ => bL_law_593 HL (i + 1) (hj 1) (by omega) (i + 2) (hj 2) (by omega) (c_redouble (d := d + 18) hS hok) (fun r1 M1 h1 => bL_law_607 HL (i + 1) (hj 1) (by omega) (i + 2) (hj 2) (by omega) (r_redouble (d := d + 20) (RefS_fr hR h1.2.2) hok) (fun r2 M2 h2 => bL_law_621 HL (fun _ => bL_law_1039 HL (next _ M2 (k_redouble hok) (ClsS_fr h1.2.1 h2.2.2) h2.2.1)) (fun z => absurd (h1.1.trans h2.1.symm) z))))
      (fun _ => bL_law_626 HL (i + 1) (hj 1) (by omega) (i + 2) (hj 2) (by omega) (c_of (d := d + 19) hS hok) (fun r1 M1 h1 => bL_law_640 HL (i + 1) (hj 1) (by omega) (i + 2) (hj 2) (by omega) (r_of (d := d + 19) (RefS_fr hR h1.2.2) hok) (fun r2 M2 h2 => bL_law_654 HL (fun _ => bL_law_1039 HL (next _ M2 hok (ClsS_fr h1.2.1 h2.2.2) h2.2.1)) (fun z => absurd (h1.1.trans h2.1.symm) z))))
      (fun _ => bL_law_659 HL (i + 1) (hj 1) (by omega) (i + 2) (hj 2) (by omega) (i + 3) (hj 3) (by omega) (c_dart (d := d + 20) hS hok) (fun r1 M1 h1 => bL_law_678 HL (i + 1) (hj 1) (by omega) (i + 2) (hj 2) (by omega) (i + 3) (hj 3) (by omega) (r_dart (d := d + 19) (RefS_fr hR h1.2.2) hok) (fun r2 M2 h2 => bL_law_697 HL (fun _ => bL_law_1039 HL (next _ M2 hok (ClsS_fr h1.2.1 h2.2.2) h2.2.1)) (fun z => absurd (h1.1.trans h2.1.symm) z))))
      (fun _ => bL_law_702 HL (i + 1) (hj 1) (by omega) (i + 2) (hj 2) (by omega) (i + 3) (hj 3) (by omega) (c_degree (d := d + 21) hS hok) (fun r1 M1 h1 => bL_law_721 HL (i + 1) (hj 1) (by omega) (i + 2) (hj 2) (by omega) (i + 3) (hj 3) (by omega) (r_degree (d := d + 19) (RefS_fr hR h1.2.2) hok) (fun r2 M2 h2 => bL_law_740 HL (fun _ => bL_law_1039 HL (next _ M2 hok (ClsS_fr h1.2.1 h2.2.2) h2.2.1)) (fun z => absurd (h1.1.trans h2.1.symm) z))))
      (fun _ => bL_law_745 HL (i + 1) (hj 1) (by omega) (i + 2) (hj 2) (by omega) (i + 3) (hj 3) (by omega) (c_distance (d := d + 20) hS hok) (fun r1 M1 h1 => bL_law_764 HL (i + 1) (hj 1) (by omega) (i + 2) (hj 2) (by omega) (i + 3) (hj 3) (by omega) (r_distance (d := d + 19) (RefS_fr hR h1.2.2) hok) (fun r2 M2 h2 => bL_law_783 HL (fun _ => bL_law_1039 HL (next _ M2 hok (ClsS_fr h1.2.1 h2.2.2) h2.2.1)) (fun z => absurd (h1.1.trans h2.1.symm) z))))
      (fun _ => bL_law_788 HL (i + 1) (hj 1) (by omega) (i + 2) (hj 2) (by omega) (i + 3) (hj 3) (by omega) (c_ring (d := d + 20) hS hok) (fun r1 M1 h1 => bL_law_807 HL (i + 1) (hj 1) (by omega) (i + 2) (hj 2) (by omega) (i + 3) (hj 3) (by omega) (r_ring (d := d + 19) (RefS_fr hR h1.2.2) hok) (fun r2 M2 h2 => bL_law_826 HL (fun _ => bL_law_1039 HL (next _ M2 hok (ClsS_fr h1.2.1 h2.2.2) h2.2.1)) (fun z => absurd (h1.1.trans h2.1.symm) z))))
      (fun _ => bL_law_831 HL (i + 1) (hj 1) (by omega) (i + 2) (hj 2) (by omega) (c_code (d := d + 18) hS hok) (fun r1 M1 h1 => bL_law_845 HL (i + 1) (hj 1) (by omega) (i + 2) (hj 2) (by omega) (r_code (d := d + 19) (RefS_fr hR h1.2.2) hok) (fun r2 M2 h2 => bL_law_859 HL (fun _ => bL_law_1039 HL (next _ M2 hok (ClsS_fr h1.2.1 h2.2.2) h2.2.1)) (fun z => absurd (h1.1.trans h2.1.symm) z))))
      (fun _ => bL_law_864 HL (i + 1) (hj 1) (by omega) (i + 2) (hj 2) (by omega) (i + 3) (hj 3) (by omega) (c_alike (d := d + 16) hS hok) (fun r1 M1 h1 => bL_law_883 HL (i + 1) (hj 1) (by omega) (i + 2) (hj 2) (by omega) (i + 3) (hj 3) (by omega) (r_alike (d := d + 19) (RefS_fr hR h1.2.2) hok) (fun r2 M2 h2 => bL_law_902 HL (fun _ => bL_law_1039 HL (next _ M2 hok (ClsS_fr h1.2.1 h2.2.2) h2.2.1)) (fun z => absurd (h1.1.trans h2.1.symm) z))))
      (fun _ => bL_law_907 HL (i + 1) (hj 1) (by omega) (c_rootings (d := d + 16) hS hok) (fun r1 M1 h1 => bL_law_916 HL (i + 1) (hj 1) (by omega) (r_rootings (d := d + 20) (RefS_fr hR h1.2.2) hok) (fun r2 M2 h2 => bL_law_925 HL (fun _ => bL_law_1039 HL (next _ M2 hok (ClsS_fr h1.2.1 h2.2.2) h2.2.1)) (fun z => absurd (h1.1.trans h2.1.symm) z))))
      (fun _ => bL_law_930 HL (i + 1) (hj 1) (by omega) (i + 2) (hj 2) (by omega) (i + 3) (hj 3) (by omega) (i + 4) (hj 4) (by omega) (c_change (d := d + 18) hS hok) (fun r1 M1 h1 => bL_law_954 HL (i + 1) (hj 1) (by omega) (i + 2) (hj 2) (by omega) (i + 3) (hj 3) (by omega) (i + 4) (hj 4) (by omega) (r_change (d := d + 19) (RefS_fr hR h1.2.2) hok) (fun r2 M2 h2 => bL_law_978 HL (fun _ => bL_law_1039 HL (next _ M2 (k_change hok) (ClsS_fr h1.2.1 h2.2.2) h2.2.1)) (fun z => absurd (h1.1.trans h2.1.symm) z))))
      (fun _ => bL_law_983 HL (i + 1) (hj 1) (by omega) (i + 2) (hj 2) (by omega) (c_shown (d := d + 19) hS hok) (fun r1 M1 h1 => bL_law_997 HL (i + 1) (hj 1) (by omega) (i + 2) (hj 2) (by omega) (r_shown (d := d + 19) (RefS_fr hR h1.2.2) hok) (fun r2 M2 h2 => bL_law_1011 HL (fun _ => bL_law_1039 HL (next _ M2 hok (ClsS_fr h1.2.1 h2.2.2) h2.2.1)) (fun z => absurd (h1.1.trans h2.1.symm) z))))
      (fun _ => bL_law_1016 HL (i + 1) (hj 1) (by omega) (c_look (d := d + 22) hS) (fun r1 M1 h1 => bL_law_1025 HL (i + 1) (hj 1) (by omega) (r_look (d := d + 22) (RefS_fr hR h1.2.2) hok) (fun r2 M2 h2 => bL_law_1034 HL (fun _ => bL_law_1039 HL (next _ M2 hok (ClsS_fr h1.2.1 h2.2.2) h2.2.1)) (fun z => absurd (h1.1.trans h2.1.symm) z))))
      (fun _ => bL_law_1039 HL (next st M hok hS hR))
