/-! the law from its entry to its loop -/
theorem nwL_7 : LkNew "PlaneMapsLaw" 7 9 := ⟨_, rfl, tb_in 104 (by decide +kernel) (by decide +kernel), tb_in 105 (by decide +kernel) (by decide +kernel), tb_in 91 (by decide +kernel) (by decide +kernel), by decide +kernel⟩
theorem nwL_10 : LkNew "PlaneMapsLaw" 10 10 := ⟨_, rfl, tb_in 799 (by decide +kernel) (by decide +kernel), tb_in 800 (by decide +kernel) (by decide +kernel), tb_in 101 (by decide +kernel) (by decide +kernel), by decide +kernel⟩
theorem lkL_9 : LkC "PlaneMapsLaw" 9 m9_init 0 := ⟨tb_in 106 (by decide +kernel) (by decide +kernel), tb_in 108 (by decide +kernel) (by decide +kernel), tb_in 91 (by decide +kernel) (by decide +kernel), by decide +kernel, by decide⟩
theorem liL_9 : Cond.instanceMethod (mY m9_init) ∈ TB := tb_in 107 (by decide +kernel) (by decide +kernel)
theorem lkL_12 : LkC "PlaneMapsLaw" 12 m10_init 0 := ⟨tb_in 801 (by decide +kernel) (by decide +kernel), tb_in 803 (by decide +kernel) (by decide +kernel), tb_in 101 (by decide +kernel) (by decide +kernel), by decide +kernel, by decide⟩
theorem liL_12 : Cond.instanceMethod (mY m10_init) ∈ TB := tb_in 802 (by decide +kernel) (by decide +kernel)
theorem in_ok : ∀ (ci : Nat) (q : vw_C), vwCl[ci]? = some q → Cond.instantiable q.1 q.2.2 ∈ TB
  | 0, q, h => by cases h; exact tb_in 261 (by decide +kernel) (by decide +kernel)
  | 1, q, h => by cases h; exact tb_in 289 (by decide +kernel) (by decide +kernel)
  | 2, q, h => by cases h; exact tb_in 306 (by decide +kernel) (by decide +kernel)
  | 3, q, h => by cases h; exact tb_in 176 (by decide +kernel) (by decide +kernel)
  | 4, q, h => by cases h; exact tb_in 116 (by decide +kernel) (by decide +kernel)
  | 5, q, h => by cases h; exact tb_in 182 (by decide +kernel) (by decide +kernel)
  | 6, q, h => by cases h; exact tb_in 277 (by decide +kernel) (by decide +kernel)
  | 7, q, h => by cases h; exact tb_in 246 (by decide +kernel) (by decide +kernel)
  | 8, q, h => by cases h; exact tb_in 324 (by decide +kernel) (by decide +kernel)
  | 9, q, h => by cases h; exact tb_in 105 (by decide +kernel) (by decide +kernel)
  | 10, q, h => by cases h; exact tb_in 800 (by decide +kernel) (by decide +kernel)
  | n + 11, q, h => by simp [vwCl] at h
theorem e0_wd (L : Nat) (xs : Nat → Int32) : Wd L xs 130 [] = E0 L xs := by
  refine EN_ext rfl (fun k => ?_) rfl
  show shW 130 [] k = SH0 k
  unfold shW
  by_cases h : k < 130
  · rw [if_pos h, if_neg (by simp)]
  · rw [if_neg h]
    have hb : ∀ n, n ≤ 130 → Nat.blt k n = false := fun n hn => by
      cases hq : Nat.blt k n with
      | false => rfl
      | true => exact absurd (Nat.le_of_ble_eq_true hq) (by omega)
    unfold SH0
    rw [hb 64 (by decide), hb 82 (by decide), hb 110 (by decide), hb 130 (by decide)]
    rfl
section LST
variable {E F : EN} {d : Nat} {μ : MR} {pc : Nat} {lv lv2 st : List Value} {M : ME} {R : Option Value → ME → Prop}
theorem x_astore_n {i : Fin 4} {x : Nat} (h : (mI μ) pc = (.astore_n i, 1)) (hn : (i : Nat) < mX μ) (hl : stL lv (i : Nat) (.ref x) = lv2) (k : Wx E F d μ (pc + 1) lv2 st M R) : Wx E F d μ pc lv (.ref x :: st) M R := by
  intro G l p e Rm s m args below meth c H locs cells slots Q ls C P S L sg Z K
  obtain ⟨hx, hb, hml, ho, ht, hK, hrm, hw, hlt, hX, O⟩ := id C
  exact lv_astore_n hx hb (O.d h) rfl (hsL_kit L) hn rfl (fun ls2 hl2 => k G l p e Rm s m args below meth c H locs cells slots Q ls2 C P S (by rw [← hl, map_stL]; exact hsL_st hl2) sg Z K)
theorem wx_wp (k : Wp E d μ pc lv st M R) : Wx E E d μ pc lv st M R := by
  intro G l p e Rm s m args below meth c H locs cells slots Q ls C P S L sg Z K
  exact k G l p e Rm s m args below meth c H locs cells slots Q ls C P S L (fun v M' H' locs' pc' ls' hR hro hP hS => K v M' H' locs' pc' ls' cells slots hR hro hP hS Z.1)
end LST
theorem cls_st0 {M : ME} (I : CT 110 15 3 4 M) : ClsS tabV M st0 := by
  obtain ⟨⟨h0, h1, h2, h3, h4, h5, h6⟩, hf, ht, hT, hM⟩ := I
  have e4 : M.2.2 1 4 = 5 := hf 4 (by decide) (by decide)
  obtain ⟨c1, c2⟩ := h3 (by decide)
  refine ⟨ht, fun i hi => absurd hi (Nat.not_lt_zero _), h2 (by decide), fun s hs => ⟨hT s hs, h5 s hs (by omega)⟩, ⟨⟨fun i hi => ?_, ?_, fun i j hi hj e => ?_, fun i hi e => ?_⟩, fun s hs => ?_⟩, h4 (by decide), 1, by decide, by decide, c1, fun n hn c hc => ?_, fun n hn hn2 c hc => ?_⟩
  · rw [hM i hi]
    unfold RMs
    omega
  · rw [e4]; exact Or.inl rfl
  · rw [hM i hi, hM j hj] at e; omega
  · rw [hM i hi, e4] at e; omega
  · rw [hM s hs]; exact h6 s hs (by omega)
  · have e : n = 0 := by omega
    subst e
    rw [c2 (19 + 1 + 0) c (by decide) (by decide)]
    by_cases q : c = 0
    · subst q; rfl
    · rw [if_neg (fun z => q z.2)]
      have key : ∀ c, c < 29 → c ≠ 0 → tT 0 c = 0 := by decide
      show (0 : Int64) = lN (tT 0 c)
      rw [key c hc q]; rfl
  · rw [c2 (19 + 1 + n) c (by omega) (by omega), if_neg (by omega)]
theorem ref_st0 {M M2 : ME} (hz : Zr 110 M) (e1 : M2.1 = (sI M 110 26 (-1)).1) : RefS M2 st0 := by
  have z : ∀ k j, 110 ≤ k → (k ≠ 110 ∨ j ≠ 26) → M2.1 k j = 0 := fun k j hk hj => by
    rw [e1]
    show up2 M.1 110 26 (-1) k j = 0
    by_cases q : k = 110
    · subst q
      rw [up2_at, if_neg (by omega)]
      exact (hz 110 (by decide) j).1
    · rw [up2_ne q]; exact (hz k hk j).1
  refine ⟨z _ _ (by decide) (Or.inr (by decide)), fun i hi => absurd hi (Nat.not_lt_zero _), ⟨z _ _ (by decide) (Or.inr (by decide)), ?_, Or.inl ⟨z _ _ (by decide) (Or.inr (by decide)), rfl⟩, z _ _ (by decide) (Or.inr (by decide))⟩, fun s hs => ⟨z _ _ (by decide) (Or.inl (by decide)), fun i hi => absurd hi (Nat.not_lt_zero _), fun v hv => z _ _ (by decide) (Or.inl (by decide))⟩, fun s hs => ⟨z _ _ (by decide) (Or.inl (by decide)), z _ _ (by decide) (Or.inl (by decide)), fun d hd => absurd hd (Nat.not_lt_zero _)⟩⟩
  rw [e1]
  show up2 M.1 110 26 (-1) 110 26 = -1
  rw [up2_at, if_pos rfl]
theorem sI_11 {M : ME} {k j : Nat} {v : Int32} : (sI M k j v).1 = up2 M.1 k j v := rfl
theorem sI_21 {M : ME} {k j : Nat} {v : Int32} : (sI M k j v).2.1 = M.2.1 := rfl
theorem sI_22 {M : ME} {k j : Nat} {v : Int32} : (sI M k j v).2.2 = M.2.2 := rfl
theorem sR_21 {M : ME} {k j x : Nat} : (sR M k j x).2.1 = M.2.1 := rfl
theorem sR_22 {M : ME} {k j x a : Nat} (h : a ≠ k) : (sR M k j x).2.2 a = M.2.2 a := up2_ne h
theorem r_110 : rsOK [110] := rs_cons rs_nil (by decide)
theorem law_start {L : Nat} {xs : Nat → Int32} {d : Nat} {M : ME} (HL : L < 2 ^ 31) (hz : Zr 1 M) : Wx (Wd L xs 1 []) (Wd L xs 130 []) (d + 23) mL_law 0 [.retAddr 0, .null, .null, .null] [] M (fun v _ => v = some (.int 1)) := by
  have ev9 := init9_ev (L := L) (xs := xs) (d := d + 18) (M := M) hz
  refine w_new rfl nwL_7 rfl (by decide) (by decide) rs_nil rs_nil hz <| x_dup rfl rfl <| w_cI (d := d + 22) (n1 := 110) (rs1 := []) rfl lkL_9 rfl rfl liL_9 (Nat.le_of_ble_eq_true rfl) (by decide) (by decide) (by decide) r_1 rs_nil rs_nil ev9 (fun M1 I => ?_)
  have hz1 : Zr 110 M1 := I.1.1
  have ev10 := init10_ev (E := Wd L xs 111 [110]) (a := 110) (d := d + 21) (M := M1) rfl (wd_raw (by decide) (by decide)) (by decide) (fun k hk j => (hz1 _ (by show 110 ≤ 111 + k; omega) j).1) (fun k hk j => (hz1 _ (by show 110 ≤ 111 + k; omega) j).2.1)
  rw [wd_grow (n := 111) (q := (1, 160)) rfl (by decide), wd_grow (n := 111 + 1) (q := (1, 5)) rfl (by decide), wd_grow (n := 111 + 1 + 1) (q := (1, 5)) rfl (by decide), wd_grow (n := 111 + 1 + 1 + 1) (q := (1, 32)) rfl (by decide), wd_grow (n := 111 + 1 + 1 + 1 + 1) (q := (1, 32)) rfl (by decide), wd_grow (n := 111 + 1 + 1 + 1 + 1 + 1) (q := (1, 64)) rfl (by decide), wd_grow (n := 111 + 1 + 1 + 1 + 1 + 1 + 1) (q := (1, 32)) rfl (by decide), wd_grow (n := 111 + 1 + 1 + 1 + 1 + 1 + 1 + 1) (q := (2, 435)) rfl (by decide), wd_grow (n := 111 + 1 + 1 + 1 + 1 + 1 + 1 + 1 + 1) (q := (1, 3)) rfl (by decide), wd_grow (n := 111 + 1 + 1 + 1 + 1 + 1 + 1 + 1 + 1 + 1) (q := (1, 48)) rfl (by decide), wd_grow (n := 111 + 1 + 1 + 1 + 1 + 1 + 1 + 1 + 1 + 1 + 1) (q := (1, 27)) rfl (by decide), wd_grow (n := 111 + 1 + 1 + 1 + 1 + 1 + 1 + 1 + 1 + 1 + 1 + 1) (q := (1, 9)) rfl (by decide), wd_grow (n := 111 + 1 + 1 + 1 + 1 + 1 + 1 + 1 + 1 + 1 + 1 + 1 + 1) (q := (1, 16)) rfl (by decide), wd_grow (n := 111 + 1 + 1 + 1 + 1 + 1 + 1 + 1 + 1 + 1 + 1 + 1 + 1 + 1) (q := (1, 32)) rfl (by decide), wd_grow (n := 111 + 1 + 1 + 1 + 1 + 1 + 1 + 1 + 1 + 1 + 1 + 1 + 1 + 1 + 1) (q := (1, 300)) rfl (by decide), wd_grow (n := 111 + 1 + 1 + 1 + 1 + 1 + 1 + 1 + 1 + 1 + 1 + 1 + 1 + 1 + 1 + 1) (q := (1, 32)) rfl (by decide), wd_grow (n := 111 + 1 + 1 + 1 + 1 + 1 + 1 + 1 + 1 + 1 + 1 + 1 + 1 + 1 + 1 + 1 + 1) (q := (1, 32)) rfl (by decide), wd_grow (n := 111 + 1 + 1 + 1 + 1 + 1 + 1 + 1 + 1 + 1 + 1 + 1 + 1 + 1 + 1 + 1 + 1 + 1) (q := (1, 64)) rfl (by decide), wd_grow (n := 111 + 1 + 1 + 1 + 1 + 1 + 1 + 1 + 1 + 1 + 1 + 1 + 1 + 1 + 1 + 1 + 1 + 1 + 1) (q := (1, 200)) rfl (by decide), wd_made (by decide) rfl (by decide)] at ev10
  refine x_astore_n rfl (by decide) rfl <| w_new rfl nwL_10 rfl (by decide) (by decide) rs_nil rs_nil hz1 <| x_dup rfl rfl <| w_cI (d := d + 22) (n1 := 130) (rs1 := []) rfl lkL_12 rfl rfl liL_12 (Nat.le_of_ble_eq_true rfl) (by decide) (by decide) (by decide) r_110 rs_nil rs_nil ev10 (fun M2 q2 => ?_)
  have e1 : M2.1 = (sI M1 110 26 (-1)).1 := by rw [q2]; simp only [sR_1, sI_11]
  have e2 : M2.2.1 = M1.2.1 := by rw [q2]; simp only [sR_21, sI_21]
  have e3 : ∀ k, k < 110 → M2.2.2 k = M1.2.2 k := fun k hk => by
    have hk' : k ≠ 110 := by omega
    rw [q2]
    simp only [sR_22 hk', sI_22]
  have hS : ClsS tabV M2 st0 := ClsS_fr (cls_st0 I) (fun k hk => ⟨by rw [e1]; exact sI_row (by omega), by rw [e2], e3 k hk⟩)
  have hR : RefS M2 st0 := ref_st0 hz1 e1
  refine x_astore_n rfl (by decide) rfl <| ?_
  rw [e0_wd]
  exact wx_wp (bL_law_16 HL (law_loop HL L 0 M2 st0 (by omega) (by decide) st0_ok hS hR))
