section XML
variable {E F : EN} {d : Nat} {μ : MR} {pc : Nat} {lv st : List Value} {M : ME} {R : Option Value → ME → Prop}
theorem x_multi {E' : EN} {idx N K o i : Nat} {ty : FieldType} {nm : String} (h : (mI μ) pc = (.multianewarray idx 2, 4)) (hty : (o = 5 ∧ i = 1 ∧ ty = .int) ∨ (o = 6 ∧ i = 2 ∧ ty = .long)) (hnm : "[" ++ (FieldType.array ty).toString = nm) (w1 : Cond.classLink (mO μ) idx nm ∈ TB) (w2 : Cond.arrayOver (.array ty) ∈ NB) (w3 : Cond.arrayClass ty ∈ TB) (hN : N < 1000) (hK9 : K < 1000) (h1 : 1 ≤ E.1) (e1 : E'.1 = E.1 + 1 + N) (e2 : ∀ k, k < E.1 → shp E' k = shp E k) (e3 : shp E' E.1 = (o, N)) (e4 : ∀ j, j < N → shp E' (E.1 + 1 + j) = (i, K)) (e5 : E'.2.2 = E.2.2) (hw' : wfE E') (es : szE E' = szE E + N + N * K) (hF : E'.1 ≤ F.1) (hsz : szE E' ≤ szE F) (hz : ∀ k, E.1 ≤ k → ∀ j, M.1 k j = 0 ∧ M.2.1 k j = 0)
    (k : Wx E' F d μ (pc + 4) lv (.ref E.1 :: st) M R) : Wx E F d μ pc lv (.int (nI K) :: .int (nI N) :: st) M R := by
  intro G l p e Rm s m args below meth c H locs cells slots Q ls C P S L sg Z K0
  obtain ⟨hx, hb, hml, ho, ht, hK, hrm, hw, hlt, hX, O⟩ := id C
  intro T hT X
  have hH := sz_heap X hT P S hlt h1 Z.1
  obtain ⟨⟨z1, z2, z3, z4⟩, znm⟩ := Z
  subst hnm
  have hdf : fits ty (defaultValue ty) = true := by rcases hty with ⟨-, -, rfl⟩ | ⟨-, -, rfl⟩ <;> rfl
  have hcb : componentBytes ty ≤ 8 := by rcases hty with ⟨-, -, rfl⟩ | ⟨-, -, rfl⟩ <;> decide
  have hR : W p l e Rm s m args below meth c H locs cells slots Q (F0 m pc ls (.int (nI K) :: .int (nI N) :: st.map (shV G))) := by
    refine wm_multi hx hb ho (ht _ w1) (over_moved (Vm.Alike.refl _) (znm.2 _ w2)) (ht _ w3) hN hK9 (O.d h) hdf hcb (by omega) (by omega) (fun H' cA comp lo hA hC s1 o1 e0 ei hlo => ?_)
    have P' : va_P G.2.2.1 vwCl (wsOf G E M) H' := va_P.kept P (fun i x hx => o1 x.1 ((P i x hx).lt))
    have P1 : Rp G E' M H' := by
      refine Rp_all (fun q q1 q2 => ?_)
      by_cases c1 : q < E.1
      · have ee : ent G E' M q = ent G E M q := by
          unfold ent
          rw [e2 q c1]
        rw [ee]
        exact Rp_one P' q1 c1
      · by_cases c2 : q = E.1
        · subst c2
          rw [hH] at e0
          rcases hty with ⟨rfl, rfl, rfl⟩ | ⟨rfl, rfl, rfl⟩
          · have hcA : cA = G.2.2.2 5 := by
              have h9 : s.vm.findClass ("[" ++ (FieldType.array .int).toString) = some (G.2.2.2 5) := (hK.2 4 (G.2.2.2 5, .array .int) rfl).2
              rw [h9] at hA
              exact (Option.some.inj hA).symm
            rw [ent_5 e3]
            show H'[G.1 + E.1]? = some (arrV (G.2.2.2 5) N (fun j => va_rf (if j < N then some (G.1 + (E.1 + 1 + j)) else none)))
            rw [e0, hcA]
            unfold mlO
            congr 2
            funext j
            by_cases hj : j < N
            · rw [if_pos hj, if_pos hj, show G.1 + E.1 + 1 + j = G.1 + (E.1 + 1 + j) by omega]; rfl
            · rw [if_neg hj, if_neg hj]; rfl
          · have hcA : cA = G.2.2.2 6 := by
              have h9 : s.vm.findClass ("[" ++ (FieldType.array .long).toString) = some (G.2.2.2 6) := (hK.2 5 (G.2.2.2 6, .array .long) rfl).2
              rw [h9] at hA
              exact (Option.some.inj hA).symm
            rw [ent_6 e3]
            show H'[G.1 + E.1]? = some (arrV (G.2.2.2 6) N (fun j => va_rf (if j < N then some (G.1 + (E.1 + 1 + j)) else none)))
            rw [e0, hcA]
            unfold mlO
            congr 2
            funext j
            by_cases hj : j < N
            · rw [if_pos hj, if_pos hj, show G.1 + E.1 + 1 + j = G.1 + (E.1 + 1 + j) by omega]; rfl
            · rw [if_neg hj, if_neg hj]; rfl
        · obtain ⟨j, hj, rfl⟩ : ∃ j, j < N ∧ q = E.1 + 1 + j := ⟨q - (E.1 + 1), by omega, by omega⟩
          have ej := ei j hj
          rw [hH, show G.1 + E.1 + 1 + j = G.1 + (E.1 + 1 + j) by omega] at ej
          have hs := e4 j hj
          rcases hty with ⟨rfl, rfl, rfl⟩ | ⟨rfl, rfl, rfl⟩
          · have hcA : comp = G.2.2.2 1 := by
              have h9 : s.vm.findClass (FieldType.array .int).toString = some (G.2.2.2 1) := (hK.2 0 (G.2.2.2 1, .int) rfl).2
              rw [h9] at hC
              exact (Option.some.inj hC).symm
            rw [ent_1 hs]
            show H'[G.1 + (E.1 + 1 + j)]? = some (arrV (G.2.2.2 1) K (fun z => .int (M.1 (E.1 + 1 + j) z)))
            rw [ej, hcA]
            congr 2
            funext z
            rw [(hz (E.1 + 1 + j) (by omega) z).1]; rfl
          · have hcA : comp = G.2.2.2 2 := by
              have h9 : s.vm.findClass (FieldType.array .long).toString = some (G.2.2.2 2) := (hK.2 1 (G.2.2.2 2, .long) rfl).2
              rw [h9] at hC
              exact (Option.some.inj hC).symm
            rw [ent_2 hs]
            show H'[G.1 + (E.1 + 1 + j)]? = some (arrV (G.2.2.2 2) K (fun z => .long (M.2.1 (E.1 + 1 + j) z)))
            rw [ej, hcA]
            congr 2
            funext z
            rw [(hz (E.1 + 1 + j) (by omega) z).2]; rfl
    have S1 : va_S (fun q => G.1 < q) s.heap H' (locs ++ lo) := ⟨by have := S.1; omega, fun q q1 q2 => (o1 q (by have := S.1; omega)).trans (S.2.1 q q1 q2), fun x hx => by
      rcases List.mem_append.mp hx with q | q
      · exact S.2.2 x q
      · show G.1 < x.base
        rw [hlo x q]; omega⟩
    have kk := k G l p e Rm s m args below meth c H' (locs ++ lo) (cells + 1 + N) (slots + N + N * K) Q ls ⟨hx, hb, hml, ho, ht, hK, ⟨hrm.1, hrm.2.1, by omega, by omega⟩, hw', hlt, by rw [e5]; exact hX, O⟩ P1 S1 L sg ⟨⟨by omega, by omega, z3, z4⟩, znm⟩ K0
    rw [hH]
    exact kk
  exact hR T hT X
end XML
section WML
variable {L : Nat} {xs : Nat → Int32} {d n nF : Nat} {rs rF : List Nat} {μ : MR} {pc : Nat} {lv st : List Value} {M : ME} {R : Option Value → ME → Prop}
theorem nrs_of {k c x : Nat} (hr : rsOK rs) (h : SH0 k = (c, x)) (hc : c < 10) : k ∉ rs := fun q => by
  have := (hr k q).1
  rw [h] at this
  have : 10 ≤ c := this
  omega
theorem raw_sh {a ci x : Nat} (h : a < n) (h0 : SH0 a = (ci + 10, x)) : (shp (Wd L xs n (a :: rs)) a).1 = ci + 30 := by
  rw [wd_raw h List.mem_cons_self, h0]
theorem w_multi {idx N K o i : Nat} {ty : FieldType} {nm : String} (h : (mI μ) pc = (.multianewarray idx 2, 4)) (hty : (o = 5 ∧ i = 1 ∧ ty = .int) ∨ (o = 6 ∧ i = 2 ∧ ty = .long)) (hnm : "[" ++ (FieldType.array ty).toString = nm) (w1 : Cond.classLink (mO μ) idx nm ∈ TB) (w2 : Cond.arrayOver (.array ty) ∈ NB) (w3 : Cond.arrayClass ty ∈ TB) (hN : N < 1000) (hK9 : K < 1000) (hn : 1 ≤ n) (h3 : SH0 n = (o, N)) (h4 : ∀ j, j < N → SH0 (n + 1 + j) = (i, K)) (hF : n + 1 + N ≤ nF) (r1 : rsOK rs) (r2 : rsOK rF) (hz : Zr n M)
    (k : Wx (Wd L xs (n + 1 + N) rs) (Wd L xs nF rF) d μ (pc + 4) lv (.ref n :: st) M R) : Wx (Wd L xs n rs) (Wd L xs nF rF) d μ pc lv (.int (nI K) :: .int (nI N) :: st) M R := by
  have ho : o < 10 := by rcases hty with ⟨rfl, -⟩ | ⟨rfl, -⟩ <;> decide
  have hi : i < 10 := by rcases hty with ⟨-, rfl, -⟩ | ⟨-, rfl, -⟩ <;> decide
  have hi2 : ∀ K, szC (i, K) = K := fun K => by rcases hty with ⟨-, rfl, -⟩ | ⟨-, rfl, -⟩ <;> rfl
  have ho2 : szC (o, N) = N := by rcases hty with ⟨rfl, -⟩ | ⟨rfl, -⟩ <;> rfl
  have hsum : ∀ j, j ≤ N → szK SH0 (n + j) = szK SH0 (n - 1) + N + j * K := fun j => by
    induction j with
    | zero => intro _; rw [Nat.add_zero, szS_next hn, h3, ho2]; omega
    | succ j ih =>
      intro hj
      show szK SH0 (n + j) + szC (SH0 (n + j + 1)) = _
      rw [ih (by omega), show n + j + 1 = n + 1 + j by omega, h4 j (by omega), hi2, Nat.succ_mul]
      omega
  refine x_multi (E' := Wd L xs (n + 1 + N) rs) h hty hnm w1 w2 w3 hN hK9 hn rfl (fun q hq => ?_) ?_ (fun j hj => ?_) rfl (wd_wf r1) ?_ hF ?_ (fun q hq j => ⟨(hz q hq j).1, (hz q hq j).2.1⟩) k
  · have hq' : q < n := hq
    show shW (n + 1 + N) rs q = shW n rs q
    unfold shW
    rw [if_pos hq', if_pos (by omega)]
  · exact (wd_in (by show n < _; omega) (nrs_of r1 h3 ho)).trans h3
  · exact (wd_in (by show n + 1 + j < _; omega) (nrs_of r1 (h4 j hj) hi)).trans (h4 j hj)
  · rw [wd_sz r1, wd_sz r1, show n + 1 + N - 1 = n + N by omega]
    exact hsum N (Nat.le_refl _)
  · rw [wd_sz r1, wd_sz r2]
    exact szS_mono (by omega)
end WML
