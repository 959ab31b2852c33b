section MKL
variable {E F : EN} {d : Nat} {μ : MR} {pc : Nat} {lv st : List Value} {M : ME} {R : Option Value → ME → Prop}
theorem x_newL {N : Nat} (h : (mI μ) pc = (.newarray .long, 2)) (ha : Cond.arrayClass (newarray.typeOf .long) ∈ TB) (hN : N < 2 ^ 20) (h1 : 1 ≤ E.1) (hF : E.1 + 1 ≤ F.1) (hsz : szE E + N ≤ szE F) (hz : ∀ j, M.2.1 E.1 j = 0) (k : Wx (grow E (2, N)) F d μ (pc + 2) lv (.ref E.1 :: st) M R) : Wx E F d μ pc lv (.int (nI N) :: st) M R := by
  intro G l p e Rm s m args below meth c H locs cells slots Q ls C P S L sg Z K
  obtain ⟨hx, hb, hml, ho, ht, hK, hrm, hw, hlt, hX, O⟩ := id C
  intro T hT X
  have hH := sz_heap X hT P S hlt h1 Z.1
  have hsc : szC (2, N) = N := rfl
  obtain ⟨C1, Z1⟩ := Cx_grow (q := (2, N)) C Z.1 h1 hF (by rw [hsc]; exact hsz)
  rw [hsc] at C1 Z1
  obtain ⟨⟨z1, z2, z3, z4⟩, znm⟩ := Z
  have hR : W p l e Rm s m args below meth c H locs cells slots Q (F0 m pc ls (.int (nI N) :: st.map (shV G))) := by
    refine va_newaK hx hb (atype := .long) (ht _ ha) rfl (O.d h) (n := nI N) (N := N) rfl (nI_pos (by omega)) (nI_clamp (by omega)) ?_ (by omega) (by omega) hH (fun H' cA e1 s1 o1 hAr hNm => ?_)
    · show N * 8 ≤ 536870912
      omega
    · have hcA : cA = G.2.2.2 2 := by
        have := (hK.2 1 (G.2.2.2 2, .long) rfl).2
        have this' : s.vm.findClass ("[" ++ FieldType.long.toString) = some (G.2.2.2 2) := this
        have hNm' : s.vm.findClass ("[" ++ FieldType.long.toString) = some cA := hNm
        rw [this'] at hNm'
        exact (Option.some.inj hNm').symm
      have hk : ∀ (i : Nat) (x : Nat × va_E), (wsOf G E M)[i]? = some x → H'[x.1]? = H[x.1]? := fun i x hx => o1 x.1 (by rw [← hH]; exact (P i x hx).lt)
      have P1 : Rp G (grow E (2, N)) M H' := by
        unfold Rp
        rw [ws_grow h1]
        refine (va_P.kept P hk).app (fun i x hx => ?_)
        have hi : i < 1 := (List.getElem?_eq_some_iff.mp hx).1
        rw [show i = 0 by omega] at hx
        cases hx
        have ee : ent G (grow E (2, N)) M E.1 = .inl (G.2.2.2 2, N, .inr (.inl (M.2.1 E.1))) := by
          unfold ent
          rw [show shp (grow E (2, N)) E.1 = (2, N) from if_pos rfl]
          rfl
        rw [ee]
        show H'[G.1 + E.1]? = some (arrV (G.2.2.2 2) N (fun j => .long (M.2.1 E.1 j)))
        rw [e1, hcA]
        congr 2
        funext j
        rw [hz j]; rfl
      have S1 : va_S (fun q => G.1 < q) s.heap H' locs := ⟨by have := S.1; omega, fun q q1 q2 => (o1 q (by have := S.1; omega)).trans (S.2.1 q q1 q2), S.2.2⟩
      exact k G l p e Rm s m args below meth c H' locs (cells + 1) (slots + N) Q ls C1 P1 S1 L sg ⟨Z1, znm⟩ K
  exact hR T hT X
end MKL
theorem wArrL : Cond.arrayClass (newarray.typeOf .long) ∈ TB := tb_in 275 (by decide +kernel) (by decide +kernel)
section MK3
variable {E : EN} {d a : Nat} {M : ME}
theorem wObj10 : Cond.methodLink "PlaneMapsModel" 1 Lib.objectInit ∈ TB := tb_in 804 (by decide +kernel) (by decide +kernel)
theorem g10_7 : LkG "PlaneMapsModel" 7 10 1 (.array .int) := ⟨_, rfl, by decide, tb_in 806 (by decide +kernel) (by decide +kernel), rfl, rfl, by decide +kernel⟩
theorem g10_13 : LkG "PlaneMapsModel" 13 10 2 (.array .int) := ⟨_, rfl, by decide, tb_in 807 (by decide +kernel) (by decide +kernel), rfl, rfl, by decide +kernel⟩
theorem g10_16 : LkG "PlaneMapsModel" 16 10 3 (.array .int) := ⟨_, rfl, by decide, tb_in 808 (by decide +kernel) (by decide +kernel), rfl, rfl, by decide +kernel⟩
theorem g10_19 : LkG "PlaneMapsModel" 19 10 4 (.array .int) := ⟨_, rfl, by decide, tb_in 809 (by decide +kernel) (by decide +kernel), rfl, rfl, by decide +kernel⟩
theorem g10_22 : LkG "PlaneMapsModel" 22 10 5 (.array .int) := ⟨_, rfl, by decide, tb_in 810 (by decide +kernel) (by decide +kernel), rfl, rfl, by decide +kernel⟩
theorem g10_25 : LkG "PlaneMapsModel" 25 10 6 (.array .int) := ⟨_, rfl, by decide, tb_in 811 (by decide +kernel) (by decide +kernel), rfl, rfl, by decide +kernel⟩
theorem g10_28 : LkG "PlaneMapsModel" 28 10 9 (.array .int) := ⟨_, rfl, by decide, tb_in 814 (by decide +kernel) (by decide +kernel), rfl, rfl, by decide +kernel⟩
theorem g10_31 : LkG "PlaneMapsModel" 31 10 10 (.array .long) := ⟨_, rfl, by decide, tb_in 815 (by decide +kernel) (by decide +kernel), rfl, rfl, by decide +kernel⟩
theorem g10_35 : LkG "PlaneMapsModel" 35 10 11 (.array .int) := ⟨_, rfl, by decide, tb_in 816 (by decide +kernel) (by decide +kernel), rfl, rfl, by decide +kernel⟩
theorem g10_38 : LkG "PlaneMapsModel" 38 10 12 (.array .int) := ⟨_, rfl, by decide, tb_in 817 (by decide +kernel) (by decide +kernel), rfl, rfl, by decide +kernel⟩
theorem g10_41 : LkG "PlaneMapsModel" 41 10 13 (.array .int) := ⟨_, rfl, by decide, tb_in 818 (by decide +kernel) (by decide +kernel), rfl, rfl, by decide +kernel⟩
theorem g10_44 : LkG "PlaneMapsModel" 44 10 14 (.array .int) := ⟨_, rfl, by decide, tb_in 819 (by decide +kernel) (by decide +kernel), rfl, rfl, by decide +kernel⟩
theorem g10_47 : LkG "PlaneMapsModel" 47 10 15 (.array .int) := ⟨_, rfl, by decide, tb_in 820 (by decide +kernel) (by decide +kernel), rfl, rfl, by decide +kernel⟩
theorem g10_50 : LkG "PlaneMapsModel" 50 10 16 (.array .int) := ⟨_, rfl, by decide, tb_in 821 (by decide +kernel) (by decide +kernel), rfl, rfl, by decide +kernel⟩
theorem g10_53 : LkG "PlaneMapsModel" 53 10 21 (.array .int) := ⟨_, rfl, by decide, tb_in 826 (by decide +kernel) (by decide +kernel), rfl, rfl, by decide +kernel⟩
theorem g10_60 : LkG "PlaneMapsModel" 60 10 33 (.array .int) := ⟨_, rfl, by decide, tb_in 838 (by decide +kernel) (by decide +kernel), rfl, rfl, by decide +kernel⟩
theorem g10_63 : LkG "PlaneMapsModel" 63 10 34 (.array .int) := ⟨_, rfl, by decide, tb_in 839 (by decide +kernel) (by decide +kernel), rfl, rfl, by decide +kernel⟩
theorem g10_66 : LkG "PlaneMapsModel" 66 10 35 (.array .int) := ⟨_, rfl, by decide, tb_in 840 (by decide +kernel) (by decide +kernel), rfl, rfl, by decide +kernel⟩
theorem g10_69 : LkG "PlaneMapsModel" 69 10 36 (.array .int) := ⟨_, rfl, by decide, tb_in 841 (by decide +kernel) (by decide +kernel), rfl, rfl, by decide +kernel⟩
theorem init10_ev (hE : E.1 = a + 1) (hs : shp E a = (40, 0)) (ha : a ≠ 0) (hz : ∀ k, k < 19 → ∀ j, M.1 (E.1 + k) j = 0) (hzl : ∀ k, k < 19 → ∀ j, M.2.1 (E.1 + k) j = 0) : EvC E (made (grow (grow (grow (grow (grow (grow (grow (grow (grow (grow (grow (grow (grow (grow (grow (grow (grow (grow (grow E (1, 160)) (1, 5)) (1, 5)) (1, 32)) (1, 32)) (1, 64)) (1, 32)) (2, 435)) (1, 3)) (1, 48)) (1, 27)) (1, 9)) (1, 16)) (1, 32)) (1, 300)) (1, 32)) (1, 32)) (1, 64)) (1, 200)) a 10) (d + 1) m10_init [.ref a] M (fun M' => M' = (sR (sR (sR (sR (sI (sR (sR (sR (sR (sR (sR (sR (sR (sR (sR (sR (sR (sR (sR (sR M a 1 (E.1)) a 2 (E.1 + 1)) a 3 (E.1 + 1 + 1)) a 4 (E.1 + 1 + 1 + 1)) a 5 (E.1 + 1 + 1 + 1 + 1)) a 6 (E.1 + 1 + 1 + 1 + 1 + 1)) a 9 (E.1 + 1 + 1 + 1 + 1 + 1 + 1)) a 10 (E.1 + 1 + 1 + 1 + 1 + 1 + 1 + 1)) a 11 (E.1 + 1 + 1 + 1 + 1 + 1 + 1 + 1 + 1)) a 12 (E.1 + 1 + 1 + 1 + 1 + 1 + 1 + 1 + 1 + 1)) a 13 (E.1 + 1 + 1 + 1 + 1 + 1 + 1 + 1 + 1 + 1 + 1)) a 14 (E.1 + 1 + 1 + 1 + 1 + 1 + 1 + 1 + 1 + 1 + 1 + 1)) a 15 (E.1 + 1 + 1 + 1 + 1 + 1 + 1 + 1 + 1 + 1 + 1 + 1 + 1)) a 16 (E.1 + 1 + 1 + 1 + 1 + 1 + 1 + 1 + 1 + 1 + 1 + 1 + 1 + 1)) a 21 (E.1 + 1 + 1 + 1 + 1 + 1 + 1 + 1 + 1 + 1 + 1 + 1 + 1 + 1 + 1)) a 26 (-1)) a 33 (E.1 + 1 + 1 + 1 + 1 + 1 + 1 + 1 + 1 + 1 + 1 + 1 + 1 + 1 + 1 + 1)) a 34 (E.1 + 1 + 1 + 1 + 1 + 1 + 1 + 1 + 1 + 1 + 1 + 1 + 1 + 1 + 1 + 1 + 1)) a 35 (E.1 + 1 + 1 + 1 + 1 + 1 + 1 + 1 + 1 + 1 + 1 + 1 + 1 + 1 + 1 + 1 + 1 + 1)) a 36 (E.1 + 1 + 1 + 1 + 1 + 1 + 1 + 1 + 1 + 1 + 1 + 1 + 1 + 1 + 1 + 1 + 1 + 1 + 1))) := by
  have hs0 : (shp E a).1 = 10 + 30 := by rw [hs]
  have hs1 : (shp (grow E (1, 160)) a).1 = 10 + 30 := by rw [shp_g (show a ≠ E.1 by omega)]; exact hs0
  have z1 : szE (grow E (1, 160)) = szE E + 160 := by rw [sz_grow (show 1 ≤ E.1 by omega)]; rfl
  have hs2 : (shp (grow (grow E (1, 160)) (1, 5)) a).1 = 10 + 30 := by rw [shp_g (show a ≠ E.1 + 1 by omega)]; exact hs1
  have z2 : szE (grow (grow E (1, 160)) (1, 5)) = szE E + 165 := by rw [sz_grow (show 1 ≤ E.1 + 1 by omega), z1]; rfl
  have hs3 : (shp (grow (grow (grow E (1, 160)) (1, 5)) (1, 5)) a).1 = 10 + 30 := by rw [shp_g (show a ≠ E.1 + 1 + 1 by omega)]; exact hs2
  have z3 : szE (grow (grow (grow E (1, 160)) (1, 5)) (1, 5)) = szE E + 170 := by rw [sz_grow (show 1 ≤ E.1 + 1 + 1 by omega), z2]; rfl
  have hs4 : (shp (grow (grow (grow (grow E (1, 160)) (1, 5)) (1, 5)) (1, 32)) a).1 = 10 + 30 := by rw [shp_g (show a ≠ E.1 + 1 + 1 + 1 by omega)]; exact hs3
  have z4 : szE (grow (grow (grow (grow E (1, 160)) (1, 5)) (1, 5)) (1, 32)) = szE E + 202 := by rw [sz_grow (show 1 ≤ E.1 + 1 + 1 + 1 by omega), z3]; rfl
  have hs5 : (shp (grow (grow (grow (grow (grow E (1, 160)) (1, 5)) (1, 5)) (1, 32)) (1, 32)) a).1 = 10 + 30 := by rw [shp_g (show a ≠ E.1 + 1 + 1 + 1 + 1 by omega)]; exact hs4
  have z5 : szE (grow (grow (grow (grow (grow E (1, 160)) (1, 5)) (1, 5)) (1, 32)) (1, 32)) = szE E + 234 := by rw [sz_grow (show 1 ≤ E.1 + 1 + 1 + 1 + 1 by omega), z4]; rfl
  have hs6 : (shp (grow (grow (grow (grow (grow (grow E (1, 160)) (1, 5)) (1, 5)) (1, 32)) (1, 32)) (1, 64)) a).1 = 10 + 30 := by rw [shp_g (show a ≠ E.1 + 1 + 1 + 1 + 1 + 1 by omega)]; exact hs5
  have z6 : szE (grow (grow (grow (grow (grow (grow E (1, 160)) (1, 5)) (1, 5)) (1, 32)) (1, 32)) (1, 64)) = szE E + 298 := by rw [sz_grow (show 1 ≤ E.1 + 1 + 1 + 1 + 1 + 1 by omega), z5]; rfl
  have hs7 : (shp (grow (grow (grow (grow (grow (grow (grow E (1, 160)) (1, 5)) (1, 5)) (1, 32)) (1, 32)) (1, 64)) (1, 32)) a).1 = 10 + 30 := by rw [shp_g (show a ≠ E.1 + 1 + 1 + 1 + 1 + 1 + 1 by omega)]; exact hs6
  have z7 : szE (grow (grow (grow (grow (grow (grow (grow E (1, 160)) (1, 5)) (1, 5)) (1, 32)) (1, 32)) (1, 64)) (1, 32)) = szE E + 330 := by rw [sz_grow (show 1 ≤ E.1 + 1 + 1 + 1 + 1 + 1 + 1 by omega), z6]; rfl
  have hs8 : (shp (grow (grow (grow (grow (grow (grow (grow (grow E (1, 160)) (1, 5)) (1, 5)) (1, 32)) (1, 32)) (1, 64)) (1, 32)) (2, 435)) a).1 = 10 + 30 := by rw [shp_g (show a ≠ E.1 + 1 + 1 + 1 + 1 + 1 + 1 + 1 by omega)]; exact hs7
  have z8 : szE (grow (grow (grow (grow (grow (grow (grow (grow E (1, 160)) (1, 5)) (1, 5)) (1, 32)) (1, 32)) (1, 64)) (1, 32)) (2, 435)) = szE E + 765 := by rw [sz_grow (show 1 ≤ E.1 + 1 + 1 + 1 + 1 + 1 + 1 + 1 by omega), z7]; rfl
  have hs9 : (shp (grow (grow (grow (grow (grow (grow (grow (grow (grow E (1, 160)) (1, 5)) (1, 5)) (1, 32)) (1, 32)) (1, 64)) (1, 32)) (2, 435)) (1, 3)) a).1 = 10 + 30 := by rw [shp_g (show a ≠ E.1 + 1 + 1 + 1 + 1 + 1 + 1 + 1 + 1 by omega)]; exact hs8
  have z9 : szE (grow (grow (grow (grow (grow (grow (grow (grow (grow E (1, 160)) (1, 5)) (1, 5)) (1, 32)) (1, 32)) (1, 64)) (1, 32)) (2, 435)) (1, 3)) = szE E + 768 := by rw [sz_grow (show 1 ≤ E.1 + 1 + 1 + 1 + 1 + 1 + 1 + 1 + 1 by omega), z8]; rfl
  have hs10 : (shp (grow (grow (grow (grow (grow (grow (grow (grow (grow (grow E (1, 160)) (1, 5)) (1, 5)) (1, 32)) (1, 32)) (1, 64)) (1, 32)) (2, 435)) (1, 3)) (1, 48)) a).1 = 10 + 30 := by rw [shp_g (show a ≠ E.1 + 1 + 1 + 1 + 1 + 1 + 1 + 1 + 1 + 1 by omega)]; exact hs9
  have z10 : szE (grow (grow (grow (grow (grow (grow (grow (grow (grow (grow E (1, 160)) (1, 5)) (1, 5)) (1, 32)) (1, 32)) (1, 64)) (1, 32)) (2, 435)) (1, 3)) (1, 48)) = szE E + 816 := by rw [sz_grow (show 1 ≤ E.1 + 1 + 1 + 1 + 1 + 1 + 1 + 1 + 1 + 1 by omega), z9]; rfl
  have hs11 : (shp (grow (grow (grow (grow (grow (grow (grow (grow (grow (grow (grow E (1, 160)) (1, 5)) (1, 5)) (1, 32)) (1, 32)) (1, 64)) (1, 32)) (2, 435)) (1, 3)) (1, 48)) (1, 27)) a).1 = 10 + 30 := by rw [shp_g (show a ≠ E.1 + 1 + 1 + 1 + 1 + 1 + 1 + 1 + 1 + 1 + 1 by omega)]; exact hs10
  have z11 : szE (grow (grow (grow (grow (grow (grow (grow (grow (grow (grow (grow E (1, 160)) (1, 5)) (1, 5)) (1, 32)) (1, 32)) (1, 64)) (1, 32)) (2, 435)) (1, 3)) (1, 48)) (1, 27)) = szE E + 843 := by rw [sz_grow (show 1 ≤ E.1 + 1 + 1 + 1 + 1 + 1 + 1 + 1 + 1 + 1 + 1 by omega), z10]; rfl
  have hs12 : (shp (grow (grow (grow (grow (grow (grow (grow (grow (grow (grow (grow (grow E (1, 160)) (1, 5)) (1, 5)) (1, 32)) (1, 32)) (1, 64)) (1, 32)) (2, 435)) (1, 3)) (1, 48)) (1, 27)) (1, 9)) a).1 = 10 + 30 := by rw [shp_g (show a ≠ E.1 + 1 + 1 + 1 + 1 + 1 + 1 + 1 + 1 + 1 + 1 + 1 by omega)]; exact hs11
  have z12 : szE (grow (grow (grow (grow (grow (grow (grow (grow (grow (grow (grow (grow E (1, 160)) (1, 5)) (1, 5)) (1, 32)) (1, 32)) (1, 64)) (1, 32)) (2, 435)) (1, 3)) (1, 48)) (1, 27)) (1, 9)) = szE E + 852 := by rw [sz_grow (show 1 ≤ E.1 + 1 + 1 + 1 + 1 + 1 + 1 + 1 + 1 + 1 + 1 + 1 by omega), z11]; rfl
  have hs13 : (shp (grow (grow (grow (grow (grow (grow (grow (grow (grow (grow (grow (grow (grow E (1, 160)) (1, 5)) (1, 5)) (1, 32)) (1, 32)) (1, 64)) (1, 32)) (2, 435)) (1, 3)) (1, 48)) (1, 27)) (1, 9)) (1, 16)) a).1 = 10 + 30 := by rw [shp_g (show a ≠ E.1 + 1 + 1 + 1 + 1 + 1 + 1 + 1 + 1 + 1 + 1 + 1 + 1 by omega)]; exact hs12
  have z13 : szE (grow (grow (grow (grow (grow (grow (grow (grow (grow (grow (grow (grow (grow E (1, 160)) (1, 5)) (1, 5)) (1, 32)) (1, 32)) (1, 64)) (1, 32)) (2, 435)) (1, 3)) (1, 48)) (1, 27)) (1, 9)) (1, 16)) = szE E + 868 := by rw [sz_grow (show 1 ≤ E.1 + 1 + 1 + 1 + 1 + 1 + 1 + 1 + 1 + 1 + 1 + 1 + 1 by omega), z12]; rfl
  have hs14 : (shp (grow (grow (grow (grow (grow (grow (grow (grow (grow (grow (grow (grow (grow (grow E (1, 160)) (1, 5)) (1, 5)) (1, 32)) (1, 32)) (1, 64)) (1, 32)) (2, 435)) (1, 3)) (1, 48)) (1, 27)) (1, 9)) (1, 16)) (1, 32)) a).1 = 10 + 30 := by rw [shp_g (show a ≠ E.1 + 1 + 1 + 1 + 1 + 1 + 1 + 1 + 1 + 1 + 1 + 1 + 1 + 1 by omega)]; exact hs13
  have z14 : szE (grow (grow (grow (grow (grow (grow (grow (grow (grow (grow (grow (grow (grow (grow E (1, 160)) (1, 5)) (1, 5)) (1, 32)) (1, 32)) (1, 64)) (1, 32)) (2, 435)) (1, 3)) (1, 48)) (1, 27)) (1, 9)) (1, 16)) (1, 32)) = szE E + 900 := by rw [sz_grow (show 1 ≤ E.1 + 1 + 1 + 1 + 1 + 1 + 1 + 1 + 1 + 1 + 1 + 1 + 1 + 1 by omega), z13]; rfl
  have hs15 : (shp (grow (grow (grow (grow (grow (grow (grow (grow (grow (grow (grow (grow (grow (grow (grow E (1, 160)) (1, 5)) (1, 5)) (1, 32)) (1, 32)) (1, 64)) (1, 32)) (2, 435)) (1, 3)) (1, 48)) (1, 27)) (1, 9)) (1, 16)) (1, 32)) (1, 300)) a).1 = 10 + 30 := by rw [shp_g (show a ≠ E.1 + 1 + 1 + 1 + 1 + 1 + 1 + 1 + 1 + 1 + 1 + 1 + 1 + 1 + 1 by omega)]; exact hs14
  have z15 : szE (grow (grow (grow (grow (grow (grow (grow (grow (grow (grow (grow (grow (grow (grow (grow E (1, 160)) (1, 5)) (1, 5)) (1, 32)) (1, 32)) (1, 64)) (1, 32)) (2, 435)) (1, 3)) (1, 48)) (1, 27)) (1, 9)) (1, 16)) (1, 32)) (1, 300)) = szE E + 1200 := by rw [sz_grow (show 1 ≤ E.1 + 1 + 1 + 1 + 1 + 1 + 1 + 1 + 1 + 1 + 1 + 1 + 1 + 1 + 1 by omega), z14]; rfl
  have hs16 : (shp (grow (grow (grow (grow (grow (grow (grow (grow (grow (grow (grow (grow (grow (grow (grow (grow E (1, 160)) (1, 5)) (1, 5)) (1, 32)) (1, 32)) (1, 64)) (1, 32)) (2, 435)) (1, 3)) (1, 48)) (1, 27)) (1, 9)) (1, 16)) (1, 32)) (1, 300)) (1, 32)) a).1 = 10 + 30 := by rw [shp_g (show a ≠ E.1 + 1 + 1 + 1 + 1 + 1 + 1 + 1 + 1 + 1 + 1 + 1 + 1 + 1 + 1 + 1 by omega)]; exact hs15
  have z16 : szE (grow (grow (grow (grow (grow (grow (grow (grow (grow (grow (grow (grow (grow (grow (grow (grow E (1, 160)) (1, 5)) (1, 5)) (1, 32)) (1, 32)) (1, 64)) (1, 32)) (2, 435)) (1, 3)) (1, 48)) (1, 27)) (1, 9)) (1, 16)) (1, 32)) (1, 300)) (1, 32)) = szE E + 1232 := by rw [sz_grow (show 1 ≤ E.1 + 1 + 1 + 1 + 1 + 1 + 1 + 1 + 1 + 1 + 1 + 1 + 1 + 1 + 1 + 1 by omega), z15]; rfl
  have hs17 : (shp (grow (grow (grow (grow (grow (grow (grow (grow (grow (grow (grow (grow (grow (grow (grow (grow (grow E (1, 160)) (1, 5)) (1, 5)) (1, 32)) (1, 32)) (1, 64)) (1, 32)) (2, 435)) (1, 3)) (1, 48)) (1, 27)) (1, 9)) (1, 16)) (1, 32)) (1, 300)) (1, 32)) (1, 32)) a).1 = 10 + 30 := by rw [shp_g (show a ≠ E.1 + 1 + 1 + 1 + 1 + 1 + 1 + 1 + 1 + 1 + 1 + 1 + 1 + 1 + 1 + 1 + 1 by omega)]; exact hs16
  have z17 : szE (grow (grow (grow (grow (grow (grow (grow (grow (grow (grow (grow (grow (grow (grow (grow (grow (grow E (1, 160)) (1, 5)) (1, 5)) (1, 32)) (1, 32)) (1, 64)) (1, 32)) (2, 435)) (1, 3)) (1, 48)) (1, 27)) (1, 9)) (1, 16)) (1, 32)) (1, 300)) (1, 32)) (1, 32)) = szE E + 1264 := by rw [sz_grow (show 1 ≤ E.1 + 1 + 1 + 1 + 1 + 1 + 1 + 1 + 1 + 1 + 1 + 1 + 1 + 1 + 1 + 1 + 1 by omega), z16]; rfl
  have hs18 : (shp (grow (grow (grow (grow (grow (grow (grow (grow (grow (grow (grow (grow (grow (grow (grow (grow (grow (grow E (1, 160)) (1, 5)) (1, 5)) (1, 32)) (1, 32)) (1, 64)) (1, 32)) (2, 435)) (1, 3)) (1, 48)) (1, 27)) (1, 9)) (1, 16)) (1, 32)) (1, 300)) (1, 32)) (1, 32)) (1, 64)) a).1 = 10 + 30 := by rw [shp_g (show a ≠ E.1 + 1 + 1 + 1 + 1 + 1 + 1 + 1 + 1 + 1 + 1 + 1 + 1 + 1 + 1 + 1 + 1 + 1 by omega)]; exact hs17
  have z18 : szE (grow (grow (grow (grow (grow (grow (grow (grow (grow (grow (grow (grow (grow (grow (grow (grow (grow (grow E (1, 160)) (1, 5)) (1, 5)) (1, 32)) (1, 32)) (1, 64)) (1, 32)) (2, 435)) (1, 3)) (1, 48)) (1, 27)) (1, 9)) (1, 16)) (1, 32)) (1, 300)) (1, 32)) (1, 32)) (1, 64)) = szE E + 1328 := by rw [sz_grow (show 1 ≤ E.1 + 1 + 1 + 1 + 1 + 1 + 1 + 1 + 1 + 1 + 1 + 1 + 1 + 1 + 1 + 1 + 1 + 1 by omega), z17]; rfl
  have hs19 : (shp (grow (grow (grow (grow (grow (grow (grow (grow (grow (grow (grow (grow (grow (grow (grow (grow (grow (grow (grow E (1, 160)) (1, 5)) (1, 5)) (1, 32)) (1, 32)) (1, 64)) (1, 32)) (2, 435)) (1, 3)) (1, 48)) (1, 27)) (1, 9)) (1, 16)) (1, 32)) (1, 300)) (1, 32)) (1, 32)) (1, 64)) (1, 200)) a).1 = 10 + 30 := by rw [shp_g (show a ≠ E.1 + 1 + 1 + 1 + 1 + 1 + 1 + 1 + 1 + 1 + 1 + 1 + 1 + 1 + 1 + 1 + 1 + 1 + 1 by omega)]; exact hs18
  have z19 : szE (grow (grow (grow (grow (grow (grow (grow (grow (grow (grow (grow (grow (grow (grow (grow (grow (grow (grow (grow E (1, 160)) (1, 5)) (1, 5)) (1, 32)) (1, 32)) (1, 64)) (1, 32)) (2, 435)) (1, 3)) (1, 48)) (1, 27)) (1, 9)) (1, 16)) (1, 32)) (1, 300)) (1, 32)) (1, 32)) (1, 64)) (1, 200)) = szE E + 1528 := by rw [sz_grow (show 1 ≤ E.1 + 1 + 1 + 1 + 1 + 1 + 1 + 1 + 1 + 1 + 1 + 1 + 1 + 1 + 1 + 1 + 1 + 1 + 1 by omega), z18]; rfl
  have zF : szE (made (grow (grow (grow (grow (grow (grow (grow (grow (grow (grow (grow (grow (grow (grow (grow (grow (grow (grow (grow E (1, 160)) (1, 5)) (1, 5)) (1, 32)) (1, 32)) (1, 64)) (1, 32)) (2, 435)) (1, 3)) (1, 48)) (1, 27)) (1, 9)) (1, 16)) (1, 32)) (1, 300)) (1, 32)) (1, 32)) (1, 64)) (1, 200)) a 10) = szE E + 1528 := by rw [sz_made hs19 (by decide)]; exact z19
  refine EvC_of k10_init rfl (Nat.le_of_ble_eq_true rfl) (by show E.1 ≤ E.1 + 1 + 1 + 1 + 1 + 1 + 1 + 1 + 1 + 1 + 1 + 1 + 1 + 1 + 1 + 1 + 1 + 1 + 1 + 1; omega) (by rw [zF]; omega) ?_
  refine x_aload_n rfl rfl <| x_obj rfl wObj10 wObjI wObjC (Nat.le_of_ble_eq_true rfl) <| x_aload_n rfl rfl <| x_sipush (160) rfl (by decide) <| x_newI (N := 160) rfl wArrI (by decide) (by show 1 ≤ E.1; omega) (by show E.1 + 1 ≤ E.1 + 1 + 1 + 1 + 1 + 1 + 1 + 1 + 1 + 1 + 1 + 1 + 1 + 1 + 1 + 1 + 1 + 1 + 1 + 1; omega) (by rw [zF]; omega) (fun j => by show M.1 (E.1 + 0) j = 0; first | exact hz 0 (by omega) j | (simp only [sR_1, sI_row (show E.1 + 0 ≠ a by omega)]; exact hz 0 (by omega) j)) <| x_putF rfl rfl g10_7 (hs1) (by decide) (fun _ => rfl) (fun _ => rfl) (by show E.1 ≠ 0; omega) <| x_aload_n rfl rfl <| x_iconst (5) rfl (by decide) <| x_newI (N := 5) rfl wArrI (by decide) (by show 1 ≤ E.1 + 1; omega) (by show E.1 + 1 + 1 ≤ E.1 + 1 + 1 + 1 + 1 + 1 + 1 + 1 + 1 + 1 + 1 + 1 + 1 + 1 + 1 + 1 + 1 + 1 + 1 + 1; omega) (by rw [zF, z1]; omega) (fun j => by show (sR M a 1 (E.1)).1 (E.1 + 1) j = 0; first | exact hz 1 (by omega) j | (simp only [sR_1, sI_row (show E.1 + 1 ≠ a by omega)]; exact hz 1 (by omega) j)) <| x_putF rfl rfl g10_13 (hs2) (by decide) (fun _ => rfl) (fun _ => rfl) (by show E.1 + 1 ≠ 0; omega) <| x_aload_n rfl rfl <| x_iconst (5) rfl (by decide) <| x_newI (N := 5) rfl wArrI (by decide) (by show 1 ≤ E.1 + 1 + 1; omega) (by show E.1 + 1 + 1 + 1 ≤ E.1 + 1 + 1 + 1 + 1 + 1 + 1 + 1 + 1 + 1 + 1 + 1 + 1 + 1 + 1 + 1 + 1 + 1 + 1 + 1; omega) (by rw [zF, z2]; omega) (fun j => by show (sR (sR M a 1 (E.1)) a 2 (E.1 + 1)).1 (E.1 + 2) j = 0; first | exact hz 2 (by omega) j | (simp only [sR_1, sI_row (show E.1 + 2 ≠ a by omega)]; exact hz 2 (by omega) j)) <| x_putF rfl rfl g10_16 (hs3) (by decide) (fun _ => rfl) (fun _ => rfl) (by show E.1 + 1 + 1 ≠ 0; omega) <| x_aload_n rfl rfl <| x_bipush (32) rfl (by decide) <| x_newI (N := 32) rfl wArrI (by decide) (by show 1 ≤ E.1 + 1 + 1 + 1; omega) (by show E.1 + 1 + 1 + 1 + 1 ≤ E.1 + 1 + 1 + 1 + 1 + 1 + 1 + 1 + 1 + 1 + 1 + 1 + 1 + 1 + 1 + 1 + 1 + 1 + 1 + 1; omega) (by rw [zF, z3]; omega) (fun j => by show (sR (sR (sR M a 1 (E.1)) a 2 (E.1 + 1)) a 3 (E.1 + 1 + 1)).1 (E.1 + 3) j = 0; first | exact hz 3 (by omega) j | (simp only [sR_1, sI_row (show E.1 + 3 ≠ a by omega)]; exact hz 3 (by omega) j)) <| x_putF rfl rfl g10_19 (hs4) (by decide) (fun _ => rfl) (fun _ => rfl) (by show E.1 + 1 + 1 + 1 ≠ 0; omega) <| x_aload_n rfl rfl <| x_bipush (32) rfl (by decide) <| x_newI (N := 32) rfl wArrI (by decide) (by show 1 ≤ E.1 + 1 + 1 + 1 + 1; omega) (by show E.1 + 1 + 1 + 1 + 1 + 1 ≤ E.1 + 1 + 1 + 1 + 1 + 1 + 1 + 1 + 1 + 1 + 1 + 1 + 1 + 1 + 1 + 1 + 1 + 1 + 1 + 1; omega) (by rw [zF, z4]; omega) (fun j => by show (sR (sR (sR (sR M a 1 (E.1)) a 2 (E.1 + 1)) a 3 (E.1 + 1 + 1)) a 4 (E.1 + 1 + 1 + 1)).1 (E.1 + 4) j = 0; first | exact hz 4 (by omega) j | (simp only [sR_1, sI_row (show E.1 + 4 ≠ a by omega)]; exact hz 4 (by omega) j)) <| x_putF rfl rfl g10_22 (hs5) (by decide) (fun _ => rfl) (fun _ => rfl) (by show E.1 + 1 + 1 + 1 + 1 ≠ 0; omega) <| x_aload_n rfl rfl <| x_bipush (64) rfl (by decide) <| x_newI (N := 64) rfl wArrI (by decide) (by show 1 ≤ E.1 + 1 + 1 + 1 + 1 + 1; omega) (by show E.1 + 1 + 1 + 1 + 1 + 1 + 1 ≤ E.1 + 1 + 1 + 1 + 1 + 1 + 1 + 1 + 1 + 1 + 1 + 1 + 1 + 1 + 1 + 1 + 1 + 1 + 1 + 1; omega) (by rw [zF, z5]; omega) (fun j => by show (sR (sR (sR (sR (sR M a 1 (E.1)) a 2 (E.1 + 1)) a 3 (E.1 + 1 + 1)) a 4 (E.1 + 1 + 1 + 1)) a 5 (E.1 + 1 + 1 + 1 + 1)).1 (E.1 + 5) j = 0; first | exact hz 5 (by omega) j | (simp only [sR_1, sI_row (show E.1 + 5 ≠ a by omega)]; exact hz 5 (by omega) j)) <| x_putF rfl rfl g10_25 (hs6) (by decide) (fun _ => rfl) (fun _ => rfl) (by show E.1 + 1 + 1 + 1 + 1 + 1 ≠ 0; omega) <| x_aload_n rfl rfl <| x_bipush (32) rfl (by decide) <| x_newI (N := 32) rfl wArrI (by decide) (by show 1 ≤ E.1 + 1 + 1 + 1 + 1 + 1 + 1; omega) (by show E.1 + 1 + 1 + 1 + 1 + 1 + 1 + 1 ≤ E.1 + 1 + 1 + 1 + 1 + 1 + 1 + 1 + 1 + 1 + 1 + 1 + 1 + 1 + 1 + 1 + 1 + 1 + 1 + 1; omega) (by rw [zF, z6]; omega) (fun j => by show (sR (sR (sR (sR (sR (sR M a 1 (E.1)) a 2 (E.1 + 1)) a 3 (E.1 + 1 + 1)) a 4 (E.1 + 1 + 1 + 1)) a 5 (E.1 + 1 + 1 + 1 + 1)) a 6 (E.1 + 1 + 1 + 1 + 1 + 1)).1 (E.1 + 6) j = 0; first | exact hz 6 (by omega) j | (simp only [sR_1, sI_row (show E.1 + 6 ≠ a by omega)]; exact hz 6 (by omega) j)) <| x_putF rfl rfl g10_28 (hs7) (by decide) (fun _ => rfl) (fun _ => rfl) (by show E.1 + 1 + 1 + 1 + 1 + 1 + 1 ≠ 0; omega) <| x_aload_n rfl rfl <| x_sipush (435) rfl (by decide) <| x_newL (N := 435) rfl wArrL (by decide) (by show 1 ≤ E.1 + 1 + 1 + 1 + 1 + 1 + 1 + 1; omega) (by show E.1 + 1 + 1 + 1 + 1 + 1 + 1 + 1 + 1 ≤ E.1 + 1 + 1 + 1 + 1 + 1 + 1 + 1 + 1 + 1 + 1 + 1 + 1 + 1 + 1 + 1 + 1 + 1 + 1 + 1; omega) (by rw [zF, z7]; omega) (fun j => by show M.2.1 (E.1 + 7) j = 0; exact hzl 7 (by omega) j) <| x_putF rfl rfl g10_31 (hs8) (by decide) (fun _ => rfl) (fun _ => rfl) (by show E.1 + 1 + 1 + 1 + 1 + 1 + 1 + 1 ≠ 0; omega) <| x_aload_n rfl rfl <| x_iconst (3) rfl (by decide) <| x_newI (N := 3) rfl wArrI (by decide) (by show 1 ≤ E.1 + 1 + 1 + 1 + 1 + 1 + 1 + 1 + 1; omega) (by show E.1 + 1 + 1 + 1 + 1 + 1 + 1 + 1 + 1 + 1 ≤ E.1 + 1 + 1 + 1 + 1 + 1 + 1 + 1 + 1 + 1 + 1 + 1 + 1 + 1 + 1 + 1 + 1 + 1 + 1 + 1; omega) (by rw [zF, z8]; omega) (fun j => by show (sR (sR (sR (sR (sR (sR (sR (sR M a 1 (E.1)) a 2 (E.1 + 1)) a 3 (E.1 + 1 + 1)) a 4 (E.1 + 1 + 1 + 1)) a 5 (E.1 + 1 + 1 + 1 + 1)) a 6 (E.1 + 1 + 1 + 1 + 1 + 1)) a 9 (E.1 + 1 + 1 + 1 + 1 + 1 + 1)) a 10 (E.1 + 1 + 1 + 1 + 1 + 1 + 1 + 1)).1 (E.1 + 8) j = 0; first | exact hz 8 (by omega) j | (simp only [sR_1, sI_row (show E.1 + 8 ≠ a by omega)]; exact hz 8 (by omega) j)) <| x_putF rfl rfl g10_35 (hs9) (by decide) (fun _ => rfl) (fun _ => rfl) (by show E.1 + 1 + 1 + 1 + 1 + 1 + 1 + 1 + 1 ≠ 0; omega) <| x_aload_n rfl rfl <| x_bipush (48) rfl (by decide) <| x_newI (N := 48) rfl wArrI (by decide) (by show 1 ≤ E.1 + 1 + 1 + 1 + 1 + 1 + 1 + 1 + 1 + 1; omega) (by show E.1 + 1 + 1 + 1 + 1 + 1 + 1 + 1 + 1 + 1 + 1 ≤ E.1 + 1 + 1 + 1 + 1 + 1 + 1 + 1 + 1 + 1 + 1 + 1 + 1 + 1 + 1 + 1 + 1 + 1 + 1 + 1; omega) (by rw [zF, z9]; omega) (fun j => by show (sR (sR (sR (sR (sR (sR (sR (sR (sR M a 1 (E.1)) a 2 (E.1 + 1)) a 3 (E.1 + 1 + 1)) a 4 (E.1 + 1 + 1 + 1)) a 5 (E.1 + 1 + 1 + 1 + 1)) a 6 (E.1 + 1 + 1 + 1 + 1 + 1)) a 9 (E.1 + 1 + 1 + 1 + 1 + 1 + 1)) a 10 (E.1 + 1 + 1 + 1 + 1 + 1 + 1 + 1)) a 11 (E.1 + 1 + 1 + 1 + 1 + 1 + 1 + 1 + 1)).1 (E.1 + 9) j = 0; first | exact hz 9 (by omega) j | (simp only [sR_1, sI_row (show E.1 + 9 ≠ a by omega)]; exact hz 9 (by omega) j)) <| x_putF rfl rfl g10_38 (hs10) (by decide) (fun _ => rfl) (fun _ => rfl) (by show E.1 + 1 + 1 + 1 + 1 + 1 + 1 + 1 + 1 + 1 ≠ 0; omega) <| x_aload_n rfl rfl <| x_bipush (27) rfl (by decide) <| x_newI (N := 27) rfl wArrI (by decide) (by show 1 ≤ E.1 + 1 + 1 + 1 + 1 + 1 + 1 + 1 + 1 + 1 + 1; omega) (by show E.1 + 1 + 1 + 1 + 1 + 1 + 1 + 1 + 1 + 1 + 1 + 1 ≤ E.1 + 1 + 1 + 1 + 1 + 1 + 1 + 1 + 1 + 1 + 1 + 1 + 1 + 1 + 1 + 1 + 1 + 1 + 1 + 1; omega) (by rw [zF, z10]; omega) (fun j => by show (sR (sR (sR (sR (sR (sR (sR (sR (sR (sR M a 1 (E.1)) a 2 (E.1 + 1)) a 3 (E.1 + 1 + 1)) a 4 (E.1 + 1 + 1 + 1)) a 5 (E.1 + 1 + 1 + 1 + 1)) a 6 (E.1 + 1 + 1 + 1 + 1 + 1)) a 9 (E.1 + 1 + 1 + 1 + 1 + 1 + 1)) a 10 (E.1 + 1 + 1 + 1 + 1 + 1 + 1 + 1)) a 11 (E.1 + 1 + 1 + 1 + 1 + 1 + 1 + 1 + 1)) a 12 (E.1 + 1 + 1 + 1 + 1 + 1 + 1 + 1 + 1 + 1)).1 (E.1 + 10) j = 0; first | exact hz 10 (by omega) j | (simp only [sR_1, sI_row (show E.1 + 10 ≠ a by omega)]; exact hz 10 (by omega) j)) <| x_putF rfl rfl g10_41 (hs11) (by decide) (fun _ => rfl) (fun _ => rfl) (by show E.1 + 1 + 1 + 1 + 1 + 1 + 1 + 1 + 1 + 1 + 1 ≠ 0; omega) <| x_aload_n rfl rfl <| x_bipush (9) rfl (by decide) <| x_newI (N := 9) rfl wArrI (by decide) (by show 1 ≤ E.1 + 1 + 1 + 1 + 1 + 1 + 1 + 1 + 1 + 1 + 1 + 1; omega) (by show E.1 + 1 + 1 + 1 + 1 + 1 + 1 + 1 + 1 + 1 + 1 + 1 + 1 ≤ E.1 + 1 + 1 + 1 + 1 + 1 + 1 + 1 + 1 + 1 + 1 + 1 + 1 + 1 + 1 + 1 + 1 + 1 + 1 + 1; omega) (by rw [zF, z11]; omega) (fun j => by show (sR (sR (sR (sR (sR (sR (sR (sR (sR (sR (sR M a 1 (E.1)) a 2 (E.1 + 1)) a 3 (E.1 + 1 + 1)) a 4 (E.1 + 1 + 1 + 1)) a 5 (E.1 + 1 + 1 + 1 + 1)) a 6 (E.1 + 1 + 1 + 1 + 1 + 1)) a 9 (E.1 + 1 + 1 + 1 + 1 + 1 + 1)) a 10 (E.1 + 1 + 1 + 1 + 1 + 1 + 1 + 1)) a 11 (E.1 + 1 + 1 + 1 + 1 + 1 + 1 + 1 + 1)) a 12 (E.1 + 1 + 1 + 1 + 1 + 1 + 1 + 1 + 1 + 1)) a 13 (E.1 + 1 + 1 + 1 + 1 + 1 + 1 + 1 + 1 + 1 + 1)).1 (E.1 + 11) j = 0; first | exact hz 11 (by omega) j | (simp only [sR_1, sI_row (show E.1 + 11 ≠ a by omega)]; exact hz 11 (by omega) j)) <| x_putF rfl rfl g10_44 (hs12) (by decide) (fun _ => rfl) (fun _ => rfl) (by show E.1 + 1 + 1 + 1 + 1 + 1 + 1 + 1 + 1 + 1 + 1 + 1 ≠ 0; omega) <| x_aload_n rfl rfl <| x_bipush (16) rfl (by decide) <| x_newI (N := 16) rfl wArrI (by decide) (by show 1 ≤ E.1 + 1 + 1 + 1 + 1 + 1 + 1 + 1 + 1 + 1 + 1 + 1 + 1; omega) (by show E.1 + 1 + 1 + 1 + 1 + 1 + 1 + 1 + 1 + 1 + 1 + 1 + 1 + 1 ≤ E.1 + 1 + 1 + 1 + 1 + 1 + 1 + 1 + 1 + 1 + 1 + 1 + 1 + 1 + 1 + 1 + 1 + 1 + 1 + 1; omega) (by rw [zF, z12]; omega) (fun j => by show (sR (sR (sR (sR (sR (sR (sR (sR (sR (sR (sR (sR M a 1 (E.1)) a 2 (E.1 + 1)) a 3 (E.1 + 1 + 1)) a 4 (E.1 + 1 + 1 + 1)) a 5 (E.1 + 1 + 1 + 1 + 1)) a 6 (E.1 + 1 + 1 + 1 + 1 + 1)) a 9 (E.1 + 1 + 1 + 1 + 1 + 1 + 1)) a 10 (E.1 + 1 + 1 + 1 + 1 + 1 + 1 + 1)) a 11 (E.1 + 1 + 1 + 1 + 1 + 1 + 1 + 1 + 1)) a 12 (E.1 + 1 + 1 + 1 + 1 + 1 + 1 + 1 + 1 + 1)) a 13 (E.1 + 1 + 1 + 1 + 1 + 1 + 1 + 1 + 1 + 1 + 1)) a 14 (E.1 + 1 + 1 + 1 + 1 + 1 + 1 + 1 + 1 + 1 + 1 + 1)).1 (E.1 + 12) j = 0; first | exact hz 12 (by omega) j | (simp only [sR_1, sI_row (show E.1 + 12 ≠ a by omega)]; exact hz 12 (by omega) j)) <| x_putF rfl rfl g10_47 (hs13) (by decide) (fun _ => rfl) (fun _ => rfl) (by show E.1 + 1 + 1 + 1 + 1 + 1 + 1 + 1 + 1 + 1 + 1 + 1 + 1 ≠ 0; omega) <| x_aload_n rfl rfl <| x_bipush (32) rfl (by decide) <| x_newI (N := 32) rfl wArrI (by decide) (by show 1 ≤ E.1 + 1 + 1 + 1 + 1 + 1 + 1 + 1 + 1 + 1 + 1 + 1 + 1 + 1; omega) (by show E.1 + 1 + 1 + 1 + 1 + 1 + 1 + 1 + 1 + 1 + 1 + 1 + 1 + 1 + 1 ≤ E.1 + 1 + 1 + 1 + 1 + 1 + 1 + 1 + 1 + 1 + 1 + 1 + 1 + 1 + 1 + 1 + 1 + 1 + 1 + 1; omega) (by rw [zF, z13]; omega) (fun j => by show (sR (sR (sR (sR (sR (sR (sR (sR (sR (sR (sR (sR (sR M a 1 (E.1)) a 2 (E.1 + 1)) a 3 (E.1 + 1 + 1)) a 4 (E.1 + 1 + 1 + 1)) a 5 (E.1 + 1 + 1 + 1 + 1)) a 6 (E.1 + 1 + 1 + 1 + 1 + 1)) a 9 (E.1 + 1 + 1 + 1 + 1 + 1 + 1)) a 10 (E.1 + 1 + 1 + 1 + 1 + 1 + 1 + 1)) a 11 (E.1 + 1 + 1 + 1 + 1 + 1 + 1 + 1 + 1)) a 12 (E.1 + 1 + 1 + 1 + 1 + 1 + 1 + 1 + 1 + 1)) a 13 (E.1 + 1 + 1 + 1 + 1 + 1 + 1 + 1 + 1 + 1 + 1)) a 14 (E.1 + 1 + 1 + 1 + 1 + 1 + 1 + 1 + 1 + 1 + 1 + 1)) a 15 (E.1 + 1 + 1 + 1 + 1 + 1 + 1 + 1 + 1 + 1 + 1 + 1 + 1)).1 (E.1 + 13) j = 0; first | exact hz 13 (by omega) j | (simp only [sR_1, sI_row (show E.1 + 13 ≠ a by omega)]; exact hz 13 (by omega) j)) <| x_putF rfl rfl g10_50 (hs14) (by decide) (fun _ => rfl) (fun _ => rfl) (by show E.1 + 1 + 1 + 1 + 1 + 1 + 1 + 1 + 1 + 1 + 1 + 1 + 1 + 1 ≠ 0; omega) <| x_aload_n rfl rfl <| x_sipush (300) rfl (by decide) <| x_newI (N := 300) rfl wArrI (by decide) (by show 1 ≤ E.1 + 1 + 1 + 1 + 1 + 1 + 1 + 1 + 1 + 1 + 1 + 1 + 1 + 1 + 1; omega) (by show E.1 + 1 + 1 + 1 + 1 + 1 + 1 + 1 + 1 + 1 + 1 + 1 + 1 + 1 + 1 + 1 ≤ E.1 + 1 + 1 + 1 + 1 + 1 + 1 + 1 + 1 + 1 + 1 + 1 + 1 + 1 + 1 + 1 + 1 + 1 + 1 + 1; omega) (by rw [zF, z14]; omega) (fun j => by show (sR (sR (sR (sR (sR (sR (sR (sR (sR (sR (sR (sR (sR (sR M a 1 (E.1)) a 2 (E.1 + 1)) a 3 (E.1 + 1 + 1)) a 4 (E.1 + 1 + 1 + 1)) a 5 (E.1 + 1 + 1 + 1 + 1)) a 6 (E.1 + 1 + 1 + 1 + 1 + 1)) a 9 (E.1 + 1 + 1 + 1 + 1 + 1 + 1)) a 10 (E.1 + 1 + 1 + 1 + 1 + 1 + 1 + 1)) a 11 (E.1 + 1 + 1 + 1 + 1 + 1 + 1 + 1 + 1)) a 12 (E.1 + 1 + 1 + 1 + 1 + 1 + 1 + 1 + 1 + 1)) a 13 (E.1 + 1 + 1 + 1 + 1 + 1 + 1 + 1 + 1 + 1 + 1)) a 14 (E.1 + 1 + 1 + 1 + 1 + 1 + 1 + 1 + 1 + 1 + 1 + 1)) a 15 (E.1 + 1 + 1 + 1 + 1 + 1 + 1 + 1 + 1 + 1 + 1 + 1 + 1)) a 16 (E.1 + 1 + 1 + 1 + 1 + 1 + 1 + 1 + 1 + 1 + 1 + 1 + 1 + 1)).1 (E.1 + 14) j = 0; first | exact hz 14 (by omega) j | (simp only [sR_1, sI_row (show E.1 + 14 ≠ a by omega)]; exact hz 14 (by omega) j)) <| x_putF rfl rfl g10_53 (hs15) (by decide) (fun _ => rfl) (fun _ => rfl) (by show E.1 + 1 + 1 + 1 + 1 + 1 + 1 + 1 + 1 + 1 + 1 + 1 + 1 + 1 + 1 ≠ 0; omega) <| x_aload_n rfl rfl <| x_iconst (-1) rfl (by decide) <| x_putIr rfl p10_56 (hs15) rfl (vp_nar_int _) rfl <| x_aload_n rfl rfl <| x_bipush (32) rfl (by decide) <| x_newI (N := 32) rfl wArrI (by decide) (by show 1 ≤ E.1 + 1 + 1 + 1 + 1 + 1 + 1 + 1 + 1 + 1 + 1 + 1 + 1 + 1 + 1 + 1; omega) (by show E.1 + 1 + 1 + 1 + 1 + 1 + 1 + 1 + 1 + 1 + 1 + 1 + 1 + 1 + 1 + 1 + 1 ≤ E.1 + 1 + 1 + 1 + 1 + 1 + 1 + 1 + 1 + 1 + 1 + 1 + 1 + 1 + 1 + 1 + 1 + 1 + 1 + 1; omega) (by rw [zF, z15]; omega) (fun j => by show (sI (sR (sR (sR (sR (sR (sR (sR (sR (sR (sR (sR (sR (sR (sR (sR M a 1 (E.1)) a 2 (E.1 + 1)) a 3 (E.1 + 1 + 1)) a 4 (E.1 + 1 + 1 + 1)) a 5 (E.1 + 1 + 1 + 1 + 1)) a 6 (E.1 + 1 + 1 + 1 + 1 + 1)) a 9 (E.1 + 1 + 1 + 1 + 1 + 1 + 1)) a 10 (E.1 + 1 + 1 + 1 + 1 + 1 + 1 + 1)) a 11 (E.1 + 1 + 1 + 1 + 1 + 1 + 1 + 1 + 1)) a 12 (E.1 + 1 + 1 + 1 + 1 + 1 + 1 + 1 + 1 + 1)) a 13 (E.1 + 1 + 1 + 1 + 1 + 1 + 1 + 1 + 1 + 1 + 1)) a 14 (E.1 + 1 + 1 + 1 + 1 + 1 + 1 + 1 + 1 + 1 + 1 + 1)) a 15 (E.1 + 1 + 1 + 1 + 1 + 1 + 1 + 1 + 1 + 1 + 1 + 1 + 1)) a 16 (E.1 + 1 + 1 + 1 + 1 + 1 + 1 + 1 + 1 + 1 + 1 + 1 + 1 + 1)) a 21 (E.1 + 1 + 1 + 1 + 1 + 1 + 1 + 1 + 1 + 1 + 1 + 1 + 1 + 1 + 1)) a 26 (-1)).1 (E.1 + 15) j = 0; first | exact hz 15 (by omega) j | (simp only [sR_1, sI_row (show E.1 + 15 ≠ a by omega)]; exact hz 15 (by omega) j)) <| x_putF rfl rfl g10_60 (hs16) (by decide) (fun _ => rfl) (fun _ => rfl) (by show E.1 + 1 + 1 + 1 + 1 + 1 + 1 + 1 + 1 + 1 + 1 + 1 + 1 + 1 + 1 + 1 ≠ 0; omega) <| x_aload_n rfl rfl <| x_bipush (32) rfl (by decide) <| x_newI (N := 32) rfl wArrI (by decide) (by show 1 ≤ E.1 + 1 + 1 + 1 + 1 + 1 + 1 + 1 + 1 + 1 + 1 + 1 + 1 + 1 + 1 + 1 + 1; omega) (by show E.1 + 1 + 1 + 1 + 1 + 1 + 1 + 1 + 1 + 1 + 1 + 1 + 1 + 1 + 1 + 1 + 1 + 1 ≤ E.1 + 1 + 1 + 1 + 1 + 1 + 1 + 1 + 1 + 1 + 1 + 1 + 1 + 1 + 1 + 1 + 1 + 1 + 1 + 1; omega) (by rw [zF, z16]; omega) (fun j => by show (sR (sI (sR (sR (sR (sR (sR (sR (sR (sR (sR (sR (sR (sR (sR (sR (sR M a 1 (E.1)) a 2 (E.1 + 1)) a 3 (E.1 + 1 + 1)) a 4 (E.1 + 1 + 1 + 1)) a 5 (E.1 + 1 + 1 + 1 + 1)) a 6 (E.1 + 1 + 1 + 1 + 1 + 1)) a 9 (E.1 + 1 + 1 + 1 + 1 + 1 + 1)) a 10 (E.1 + 1 + 1 + 1 + 1 + 1 + 1 + 1)) a 11 (E.1 + 1 + 1 + 1 + 1 + 1 + 1 + 1 + 1)) a 12 (E.1 + 1 + 1 + 1 + 1 + 1 + 1 + 1 + 1 + 1)) a 13 (E.1 + 1 + 1 + 1 + 1 + 1 + 1 + 1 + 1 + 1 + 1)) a 14 (E.1 + 1 + 1 + 1 + 1 + 1 + 1 + 1 + 1 + 1 + 1 + 1)) a 15 (E.1 + 1 + 1 + 1 + 1 + 1 + 1 + 1 + 1 + 1 + 1 + 1 + 1)) a 16 (E.1 + 1 + 1 + 1 + 1 + 1 + 1 + 1 + 1 + 1 + 1 + 1 + 1 + 1)) a 21 (E.1 + 1 + 1 + 1 + 1 + 1 + 1 + 1 + 1 + 1 + 1 + 1 + 1 + 1 + 1)) a 26 (-1)) a 33 (E.1 + 1 + 1 + 1 + 1 + 1 + 1 + 1 + 1 + 1 + 1 + 1 + 1 + 1 + 1 + 1)).1 (E.1 + 16) j = 0; first | exact hz 16 (by omega) j | (simp only [sR_1, sI_row (show E.1 + 16 ≠ a by omega)]; exact hz 16 (by omega) j)) <| x_putF rfl rfl g10_63 (hs17) (by decide) (fun _ => rfl) (fun _ => rfl) (by show E.1 + 1 + 1 + 1 + 1 + 1 + 1 + 1 + 1 + 1 + 1 + 1 + 1 + 1 + 1 + 1 + 1 ≠ 0; omega) <| x_aload_n rfl rfl <| x_bipush (64) rfl (by decide) <| x_newI (N := 64) rfl wArrI (by decide) (by show 1 ≤ E.1 + 1 + 1 + 1 + 1 + 1 + 1 + 1 + 1 + 1 + 1 + 1 + 1 + 1 + 1 + 1 + 1 + 1; omega) (by show E.1 + 1 + 1 + 1 + 1 + 1 + 1 + 1 + 1 + 1 + 1 + 1 + 1 + 1 + 1 + 1 + 1 + 1 + 1 ≤ E.1 + 1 + 1 + 1 + 1 + 1 + 1 + 1 + 1 + 1 + 1 + 1 + 1 + 1 + 1 + 1 + 1 + 1 + 1 + 1; omega) (by rw [zF, z17]; omega) (fun j => by show (sR (sR (sI (sR (sR (sR (sR (sR (sR (sR (sR (sR (sR (sR (sR (sR (sR (sR M a 1 (E.1)) a 2 (E.1 + 1)) a 3 (E.1 + 1 + 1)) a 4 (E.1 + 1 + 1 + 1)) a 5 (E.1 + 1 + 1 + 1 + 1)) a 6 (E.1 + 1 + 1 + 1 + 1 + 1)) a 9 (E.1 + 1 + 1 + 1 + 1 + 1 + 1)) a 10 (E.1 + 1 + 1 + 1 + 1 + 1 + 1 + 1)) a 11 (E.1 + 1 + 1 + 1 + 1 + 1 + 1 + 1 + 1)) a 12 (E.1 + 1 + 1 + 1 + 1 + 1 + 1 + 1 + 1 + 1)) a 13 (E.1 + 1 + 1 + 1 + 1 + 1 + 1 + 1 + 1 + 1 + 1)) a 14 (E.1 + 1 + 1 + 1 + 1 + 1 + 1 + 1 + 1 + 1 + 1 + 1)) a 15 (E.1 + 1 + 1 + 1 + 1 + 1 + 1 + 1 + 1 + 1 + 1 + 1 + 1)) a 16 (E.1 + 1 + 1 + 1 + 1 + 1 + 1 + 1 + 1 + 1 + 1 + 1 + 1 + 1)) a 21 (E.1 + 1 + 1 + 1 + 1 + 1 + 1 + 1 + 1 + 1 + 1 + 1 + 1 + 1 + 1)) a 26 (-1)) a 33 (E.1 + 1 + 1 + 1 + 1 + 1 + 1 + 1 + 1 + 1 + 1 + 1 + 1 + 1 + 1 + 1)) a 34 (E.1 + 1 + 1 + 1 + 1 + 1 + 1 + 1 + 1 + 1 + 1 + 1 + 1 + 1 + 1 + 1 + 1)).1 (E.1 + 17) j = 0; first | exact hz 17 (by omega) j | (simp only [sR_1, sI_row (show E.1 + 17 ≠ a by omega)]; exact hz 17 (by omega) j)) <| x_putF rfl rfl g10_66 (hs18) (by decide) (fun _ => rfl) (fun _ => rfl) (by show E.1 + 1 + 1 + 1 + 1 + 1 + 1 + 1 + 1 + 1 + 1 + 1 + 1 + 1 + 1 + 1 + 1 + 1 ≠ 0; omega) <| x_aload_n rfl rfl <| x_sipush (200) rfl (by decide) <| x_newI (N := 200) rfl wArrI (by decide) (by show 1 ≤ E.1 + 1 + 1 + 1 + 1 + 1 + 1 + 1 + 1 + 1 + 1 + 1 + 1 + 1 + 1 + 1 + 1 + 1 + 1; omega) (by show E.1 + 1 + 1 + 1 + 1 + 1 + 1 + 1 + 1 + 1 + 1 + 1 + 1 + 1 + 1 + 1 + 1 + 1 + 1 + 1 ≤ E.1 + 1 + 1 + 1 + 1 + 1 + 1 + 1 + 1 + 1 + 1 + 1 + 1 + 1 + 1 + 1 + 1 + 1 + 1 + 1; omega) (by rw [zF, z18]; omega) (fun j => by show (sR (sR (sR (sI (sR (sR (sR (sR (sR (sR (sR (sR (sR (sR (sR (sR (sR (sR (sR M a 1 (E.1)) a 2 (E.1 + 1)) a 3 (E.1 + 1 + 1)) a 4 (E.1 + 1 + 1 + 1)) a 5 (E.1 + 1 + 1 + 1 + 1)) a 6 (E.1 + 1 + 1 + 1 + 1 + 1)) a 9 (E.1 + 1 + 1 + 1 + 1 + 1 + 1)) a 10 (E.1 + 1 + 1 + 1 + 1 + 1 + 1 + 1)) a 11 (E.1 + 1 + 1 + 1 + 1 + 1 + 1 + 1 + 1)) a 12 (E.1 + 1 + 1 + 1 + 1 + 1 + 1 + 1 + 1 + 1)) a 13 (E.1 + 1 + 1 + 1 + 1 + 1 + 1 + 1 + 1 + 1 + 1)) a 14 (E.1 + 1 + 1 + 1 + 1 + 1 + 1 + 1 + 1 + 1 + 1 + 1)) a 15 (E.1 + 1 + 1 + 1 + 1 + 1 + 1 + 1 + 1 + 1 + 1 + 1 + 1)) a 16 (E.1 + 1 + 1 + 1 + 1 + 1 + 1 + 1 + 1 + 1 + 1 + 1 + 1 + 1)) a 21 (E.1 + 1 + 1 + 1 + 1 + 1 + 1 + 1 + 1 + 1 + 1 + 1 + 1 + 1 + 1)) a 26 (-1)) a 33 (E.1 + 1 + 1 + 1 + 1 + 1 + 1 + 1 + 1 + 1 + 1 + 1 + 1 + 1 + 1 + 1)) a 34 (E.1 + 1 + 1 + 1 + 1 + 1 + 1 + 1 + 1 + 1 + 1 + 1 + 1 + 1 + 1 + 1 + 1)) a 35 (E.1 + 1 + 1 + 1 + 1 + 1 + 1 + 1 + 1 + 1 + 1 + 1 + 1 + 1 + 1 + 1 + 1 + 1)).1 (E.1 + 18) j = 0; first | exact hz 18 (by omega) j | (simp only [sR_1, sI_row (show E.1 + 18 ≠ a by omega)]; exact hz 18 (by omega) j)) <| x_putF rfl rfl g10_69 (hs19) (by decide) (fun _ => rfl) (fun _ => rfl) (by show E.1 + 1 + 1 + 1 + 1 + 1 + 1 + 1 + 1 + 1 + 1 + 1 + 1 + 1 + 1 + 1 + 1 + 1 + 1 ≠ 0; omega) <| x_made hs19 (by decide) ha (fun j o h => ?_) <| x_ret rfl rfl ⟨rfl, rfl⟩
  match j, h with
  | 0, h => exact absurd h (by show ¬ 0 = o + 2; omega)
  | 1, h =>
    have e : o = 1 := by
      have h' : 3 = o + 2 := h
      omega
    subst e
    simp [gR, sR, sI, up2, grow, hE]
  | 2, h =>
    have e : o = 2 := by
      have h' : 4 = o + 2 := h
      omega
    subst e
    simp [gR, sR, sI, up2, grow, hE]
  | 3, h =>
    have e : o = 3 := by
      have h' : 5 = o + 2 := h
      omega
    subst e
    simp [gR, sR, sI, up2, grow, hE]
  | 4, h =>
    have e : o = 4 := by
      have h' : 6 = o + 2 := h
      omega
    subst e
    simp [gR, sR, sI, up2, grow, hE]
  | 5, h =>
    have e : o = 5 := by
      have h' : 7 = o + 2 := h
      omega
    subst e
    simp [gR, sR, sI, up2, grow, hE]
  | 6, h =>
    have e : o = 6 := by
      have h' : 8 = o + 2 := h
      omega
    subst e
    simp [gR, sR, sI, up2, grow, hE]
  | 7, h => exact absurd h (by show ¬ 0 = o + 2; omega)
  | 8, h => exact absurd h (by show ¬ 0 = o + 2; omega)
  | 9, h =>
    have e : o = 7 := by
      have h' : 9 = o + 2 := h
      omega
    subst e
    simp [gR, sR, sI, up2, grow, hE]
  | 10, h =>
    have e : o = 8 := by
      have h' : 10 = o + 2 := h
      omega
    subst e
    simp [gR, sR, sI, up2, grow, hE]
  | 11, h =>
    have e : o = 9 := by
      have h' : 11 = o + 2 := h
      omega
    subst e
    simp [gR, sR, sI, up2, grow, hE]
  | 12, h =>
    have e : o = 10 := by
      have h' : 12 = o + 2 := h
      omega
    subst e
    simp [gR, sR, sI, up2, grow, hE]
  | 13, h =>
    have e : o = 11 := by
      have h' : 13 = o + 2 := h
      omega
    subst e
    simp [gR, sR, sI, up2, grow, hE]
  | 14, h =>
    have e : o = 12 := by
      have h' : 14 = o + 2 := h
      omega
    subst e
    simp [gR, sR, sI, up2, grow, hE]
  | 15, h =>
    have e : o = 13 := by
      have h' : 15 = o + 2 := h
      omega
    subst e
    simp [gR, sR, sI, up2, grow, hE]
  | 16, h =>
    have e : o = 14 := by
      have h' : 16 = o + 2 := h
      omega
    subst e
    simp [gR, sR, sI, up2, grow, hE]
  | 17, h => exact absurd h (by show ¬ 0 = o + 2; omega)
  | 18, h => exact absurd h (by show ¬ 0 = o + 2; omega)
  | 19, h => exact absurd h (by show ¬ 0 = o + 2; omega)
  | 20, h => exact absurd h (by show ¬ 0 = o + 2; omega)
  | 21, h =>
    have e : o = 15 := by
      have h' : 17 = o + 2 := h
      omega
    subst e
    simp [gR, sR, sI, up2, grow, hE]
  | 22, h => exact absurd h (by show ¬ 0 = o + 2; omega)
  | 23, h => exact absurd h (by show ¬ 0 = o + 2; omega)
  | 24, h => exact absurd h (by show ¬ 0 = o + 2; omega)
  | 25, h => exact absurd h (by show ¬ 0 = o + 2; omega)
  | 26, h => exact absurd h (by show ¬ 0 = o + 2; omega)
  | 27, h => exact absurd h (by show ¬ 0 = o + 2; omega)
  | 28, h => exact absurd h (by show ¬ 0 = o + 2; omega)
  | 29, h => exact absurd h (by show ¬ 0 = o + 2; omega)
  | 30, h => exact absurd h (by show ¬ 0 = o + 2; omega)
  | 31, h => exact absurd h (by show ¬ 0 = o + 2; omega)
  | 32, h => exact absurd h (by show ¬ 0 = o + 2; omega)
  | 33, h =>
    have e : o = 16 := by
      have h' : 18 = o + 2 := h
      omega
    subst e
    simp [gR, sR, sI, up2, grow, hE]
  | 34, h =>
    have e : o = 17 := by
      have h' : 19 = o + 2 := h
      omega
    subst e
    simp [gR, sR, sI, up2, grow, hE]
  | 35, h =>
    have e : o = 18 := by
      have h' : 20 = o + 2 := h
      omega
    subst e
    simp [gR, sR, sI, up2, grow, hE]
  | 36, h =>
    have e : o = 19 := by
      have h' : 21 = o + 2 := h
      omega
    subst e
    simp [gR, sR, sI, up2, grow, hE]
  | 37, h => exact absurd h (by show ¬ 0 = o + 2; omega)
  | j + 38, h => exact absurd h (by show ¬ 0 = o + 2; omega)
end MK3
