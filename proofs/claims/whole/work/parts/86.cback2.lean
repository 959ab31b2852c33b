/-! the class: back, the call -/
section CB2
variable {L : Nat} {xs : Nat → Int32} {d : Nat} {tab : Nat → Nat → Int64} {M : ME} {st : ST}
theorem ClsS_wt {s : Nat} {t : PTr} {M' : ME} (hs : s < 3) (hS : ClsS tab M st) (f : Fr (tWt (64 + 6 * s)) M M') (hc : cT M' (64 + 6 * s) t) : ClsS tab M' (setT st s t) := by
  have e : ∀ k, k ≠ 63 → (k < 64 + 6 * s ∨ 64 + 6 * s + 5 < k) → M'.1 k = M.1 k := fun k h hk => funext fun j => f.1 k j (tWt_f h hk)
  have er : M'.2 = M.2 := f.2
  obtain ⟨h1, h2, h3, h4, ⟨⟨g1, g2, g3, g4⟩, g5⟩, h6, c, c1, c2, c3, c4, c5⟩ := hS
  refine ⟨by rw [e 1 (by omega) (by omega)]; exact h1, by rw [e 2 (by omega) (by omega)]; exact h2, by rw [e 12 (by omega) (by omega)]; exact h3, fun i hi => ⟨by rw [er]; exact (h4 i hi).1, ?_⟩, ⟨⟨by rw [er]; exact g1, by rw [er]; exact g2, by rw [er]; exact g3, by rw [er]; exact g4⟩, fun i hi => ?_⟩, fun l hl => by rw [e (36 + 1 + l) (by omega) (by omega)]; exact h6 l hl, c, c1, c2, by rw [e 18 (by omega) (by omega)]; exact c3, fun n hn => by rw [er]; exact c4 n hn, fun n hn hn2 => by rw [er]; exact c5 n hn hn2⟩
  · show cT M' _ (if i = s then t else sT st i)
    by_cases q : i = s
    · rw [if_pos q, q]; exact hc
    · rw [if_neg q]
      exact cT_eq (h4 i hi).2 (fun k hk1 hk => e k (by omega) (by omega))
  · rw [er]
    refine cM_eq (g5 i hi) (fun k hk1 hk => ?_)
    have q := RMs_sc (g1 i hi) hk1 hk
    exact e k (by omega) (by omega)
theorem tWt_C {s : Nat} {M' : ME} (hs : s < 3) (f : Fr (tWt (64 + 6 * s)) M M') : FrC M M' := FrC_of f (fun k j hk => tWt_f (by omega) (by omega))
theorem c_back (hS : ClsS tab M st) (hok : StOK st) {x v y : Int32} : EvI (E0 L xs) (d + 4) m9_back [.ref 1, .int x, .int v, .int y] M (Co tab M (oBack st x v y)) := by
  have no : ∀ M1, M1 = M → ¬ (vp_in x 4 ∧ vp_in v (pVn (sM st x.toNatClampNeg)) ∧ vp_in y 3 ∧ fit (sM st x.toNatClampNeg) = true) → Wp (E0 L xs) (d + 4) m9_back 28 [.ref 1, .int x, .int v, .int y, .null, .null] [] M1 (fun v' M' => ∃ r, v' = some (.int r) ∧ Co tab M (oBack st x v y) r M') := fun M1 e h => by
    subst e
    exact b9_back_28 ⟨_, rfl, by rw [show oBack st x v y = _ from cIf_neg h _ _]; exact ⟨rfl, hS, FrC_refl _⟩⟩
  refine Ev_of k9_back rfl (Nat.le_of_ble_eq_true rfl) (b9_back_0 (noVertex_ev (d := d + 2) hS hok) (fun r M1 hr => ?_))
  obtain ⟨hr, rfl⟩ := hr
  rcases hr with ⟨rfl, hx, hv⟩ | ⟨rfl, h⟩
  · refine b9_back_6 (fun z => absurd rfl z) (fun _ => b9_back_9 (fun z => no _ rfl (fun q => z q.2.2.1)) (fun hy => ?_))
    obtain ⟨j, hj, rfl, ej, hR, hc, hn0⟩ := cl_map hS hx
    rw [ej] at hv
    obtain ⟨hm, hcn, hV⟩ := hok.2.2 j hj
    have hVl := pVn_le hm
    obtain ⟨u, hu, rfl, eu⟩ := in_j hv (by omega)
    refine b9_back_16 j rfl hj hn0 (RMs_is hR) (hasFourOr_ev (d := d + 2) hR hm hc) (fun r M2 hr => ?_)
    obtain ⟨rfl, rfl⟩ := hr
    refine b9_back_25 (fun z => ?_) (fun z => no _ rfl (fun q => ?_))
    · have hft : fit (sM st j) = true := by
        cases w : fit (sM st j) with
        | true => rfl
        | false => rw [w] at z; exact absurd rfl z
      rw [show oBack st (nI j) (nI u) y = _ from cIf_pos ⟨hx, by rw [ej]; exact hv, hy, by rw [ej]; exact hft⟩ _ _, ej, eu]
      obtain ⟨t, ht, rfl, et, er, htn, hT, hct, hvt⟩ := cl_tree0 hS hok hy
      rw [et]
      generalize hmm : sM st j = m at *
      have hK := BkI_of ⟨hm, hcn, hV⟩ hu hft
      have hE0 : 0 < m.1 := by have := hK.1; show 0 < m.1; have h2 : bkS m u < 2 * m.1 := this; omega
      have hRt : pR m < pN m := by
        rcases hm.2.2 with h | h
        · exact h
        · omega
      have hN := MV_N hm
      refine b9_back_30 j rfl hj hn0 (measure_ev (d := d + 2) hR hu hm hc) (fun M3 h3 => ?_)
      obtain ⟨f3, d3, -⟩ := h3
      have hS3 := ClsS_sc hS (tDs_sc f3)
      have hc3 : cM M3 (gR M2 4 j) m := cM_fr hc f3 (fun k j a b => tDs_f hR a b)
      have hd3 : dRow M3 m u := fun v' hv' => (d3 v' (by omega)).trans (dsV_conn hm hcn hu hv')
      have hcv : ∀ z, z < pN m → gI M3 (gR M2 4 j + 3) z = nI (pVo m z) := hc3.2.2.2.2.2.2.1
      have eR : gI M3 (gR M2 4 j) 1 = nI (pR m) := hc3.2.1
      have eRx : gI M3 (gR M2 4 j) 1 ^^^ 1 = nI (ox (pR m)) := by rw [eR]; exact nI_ox (by omega)
      have hoR : ox (pR m) < pN m := ox_lt hRt
      have er3 : gR M3 3 t = 64 + 6 * t := by show M3.2.2 3 t = _; rw [f3.2]; exact er
      have h0 : M3.1 (64 + 6 * t + 2) 0 = 0 := by
        rw [f3.1 _ _ (by
          have hne : 64 + 6 * t + 2 ≠ 54 ∧ 64 + 6 * t + 2 ≠ 55 := by omega
          unfold tDs
          split
          all_goals first | omega | rfl)]
        exact (hct.1.2.2 0 (Nat.zero_le _)).trans hvt.2.2
      have fin : ∀ b : Int32, gI M3 (gR M2 4 j) 1 ^^^ b = nI (bkS m u) → b = (if dnB m u (pR m) = true then 0 else 1) → Wp (E0 L xs) (d + 4) m9_back 67 [.ref 1, .int (nI j), .int (nI u), .int (nI t), .ref (gR M2 4 j), .null] [.int b] M3 (fun v' M' => ∃ r, v' = some (.int r) ∧ Co tab M2 ((if dnB m u (pR m) = true then 0 else 1), setT st t (bkT m u (bkS m u))) r M') := fun b eb e2 => by
        refine b9_back_67 (RMs_is hR) t rfl ht (by rw [er3]; omega) (R' := fun M4 => Fr (tWt (64 + 6 * t)) M3 M4 ∧ cT M4 (64 + 6 * t) (bkT m u (bkS m u))) ?_ (fun M4 h4 => b9_back_89 ⟨_, rfl, e2, ?_, ?_⟩)
        · rw [eb, er3]
          exact walkTree_ev (d := d) hR hT hm hc3 hd3 hK h0
        · exact ClsS_wt ht hS3 h4.1 h4.2
        · exact FrC_trans (tSc_C (tDs_sc f3)) (tWt_C ht h4.1)
      refine b9_back_48 (RMs_is hR) (pR m) eR (by omega) (pVo m (pR m)) (hcv _ hRt) (pVo_lt hm hRt) (ox (pR m)) eRx (by omega) (pVo m (ox (pR m))) (hcv _ hoR) (pVo_lt hm hoR) (fun z => b9_back_62 (fin 0 ?_ ?_)) (fun z => b9_back_66 (fin 1 ?_ ?_))
      · have hdn : dnB m u (pR m) = true := Classical.byContradiction fun z' => z ((dn_le hm hd3 hRt).mpr z')
        rw [show bkS m u = pR m from if_pos hdn, eR]
        exact Int32.xor_zero
      · have hdn : dnB m u (pR m) = true := Classical.byContradiction fun z' => z ((dn_le hm hd3 hRt).mpr z')
        rw [if_pos hdn]
      · rw [show bkS m u = ox (pR m) from if_neg ((dn_le hm hd3 hRt).mp z)]
        exact eRx
      · rw [if_neg ((dn_le hm hd3 hRt).mp z)]
    · have := q.2.2.2
      rw [ej] at this
      rw [this] at z; exact absurd z (by decide)
  · exact b9_back_6 (fun _ => no _ rfl (fun q => h ⟨q.1, q.2.1⟩)) (fun z => absurd z (by decide))
end CB2
