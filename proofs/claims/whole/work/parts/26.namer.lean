/-! the class's Namer -/
def tNm (k j : Nat) : Bool := match k with
  | 58 => true
  | 59 => true
  | 60 => true
  | 57 => j == 3
  | _ => false
theorem tNm_f {a k j : Nat} (h : RMs a) (h1 : a ≤ k) (h2 : k ≤ a + 6) : tNm k j = false := by
  have : k ≠ 57 ∧ k ≠ 58 ∧ k ≠ 59 ∧ k ≠ 60 := by rcases h with rfl | rfl | rfl | rfl | rfl <;> omega
  unfold tNm
  split
  all_goals first | omega | rfl
/-- names l in the Namer's rows -/
def NmC (l : List Nat) (M : ME) : Prop := NmI l 58 59 M ∧ M.1 57 3 = nI l.length
section NE
variable {L : Nat} {xs : Nat → Int32} {d : Nat}
theorem nameEdge_ev {l : List Nat} {x n : Nat} {M0 : ME} (hn : n ≤ 16) (hx : x < 2 * n) (hl : NL (2 * n) l) (hxl : x ∉ l) (hM : NmC l M0) : EvV (E0 L xs) d m2_nameEdge [.ref 57, .int (nI x)] M0 (fun M => Fr tNm M0 M ∧ NmC (l ++ [x, ox x]) M ∧ ∀ j, M.1 60 j = M0.1 60 j) := by
  have hox : ox x < 2 * n := ox_lt hx
  have hxl2 : ox x ∉ l := fun z => hxl (by have := hl.2.2 _ z; rw [ox_ox] at this; exact this)
  have hv := NL_vis (n := n) rfl hl hx
  have e1 : vis l x = l ++ [x, ox x] := if_neg hxl
  rw [e1] at hv
  have hlen := nd_le hv.1 hv.2.1
  rw [List.length_append] at hlen
  have hlen2 : l.length + 2 ≤ 2 * n := hlen
  have e3 : gI M0 57 3 = nI l.length := hM.2
  refine Ev_of k2_nameEdge rfl (Nat.le_of_ble_eq_true rfl) (b2_nameEdge_0 (fun h => ?_) (fun _ => ?_))
  · rw [e3, nI_1] at h
    exact absurd ((nI_leI (a := 32) (by decide) (by omega)).mp h) (by omega)
  · refine b2_nameEdge_11 x rfl (by omega) l.length e3 (by omega) (ox x) (nI_ox (by omega)) (by omega) (l.length + 1) (by rw [e3, nI_1]) (by omega) (b2_nameEdge_69 ⟨rfl, Fr_sI (Fr_sI (Fr_sI (Fr_sI (Fr_sI (Fr_refl _ _) rfl) rfl) rfl) rfl) rfl, ⟨?_, ?_⟩, fun j => rfl⟩)
    · rw [e3, nI_1, nI_ox (by omega)]
      refine NmI_app hM.1 hxl hxl2 (fun z => ?_) (fun j => ?_)
      · have := ox_ne x
        rw [sI_ne (Or.inl (by decide)), sI_ne (Or.inl (by decide)), sI_at, sI_ne (Or.inl (by decide)), sI_at]
        by_cases q1 : z = x
        · rw [if_neg (fun q => this (q.2.symm.trans q1)), if_pos ⟨rfl, q1⟩, if_pos q1]
        · by_cases q2 : z = ox x
          · rw [if_pos ⟨rfl, q2⟩, if_neg q1, if_pos q2]
          · rw [if_neg (fun q => q2 q.2), if_neg (fun q => q1 q.2), if_neg q1, if_neg q2]
      · rw [sI_ne (Or.inl (by decide)), sI_at, sI_ne (Or.inl (by decide)), sI_at, sI_ne (Or.inl (by decide))]
        by_cases q1 : j = l.length
        · rw [if_neg (fun q => by have := q.2; omega), if_pos ⟨rfl, q1⟩, if_pos q1]
        · by_cases q2 : j = l.length + 1
          · rw [if_pos ⟨rfl, q2⟩, if_neg q1, if_pos q2]
          · rw [if_neg (fun q => q2 q.2), if_neg (fun q => q1 q.2), if_neg q1, if_neg q2]
    · rw [sI_eq, e3, List.length_append]
      exact nI_add _ 2
theorem nameRound_ev {a y p : Nat} {m : PMp} {l : List Nat} {M0 : ME} (ha : RMs a) (hm : PV m) (hc : cM M0 a m) (hy : y < pN m) (hp : p ≤ 32) (hl : NL (pN m) l) (hM : NmC l M0) : EvV (E0 L xs) (d + 1) m2_nameRound [.ref 57, .ref a, .int (nI y), .int (nI p)] M0 (fun M => Fr tNm M0 M ∧ NmC (rv (pX m) l y p) M ∧ ∀ j, M.1 60 j = M0.1 60 j) := by
  have hN : 2 * m.1 ≤ 32 := by have := hm.1; omega
  have T := RMs_is (L := L) (xs := xs) ha
  have frM : ∀ M, Fr tNm M0 M → cM M a m := fun M hF => cM_fr hc hF (fun k j h1 h2 => tNm_f ha h1 h2)
  refine Ev_of k2_nameRound rfl (Nat.le_of_ble_eq_true rfl) (b2_nameRound_0 ?_)
  refine lpN p (fun i M => Fr tNm M0 M ∧ NmC (rv (pX m) l y i) M ∧ ∀ j, M.1 60 j = M0.1 60 j) (fun i M => Wp (E0 L xs) (d + 1) m2_nameRound 6 [.ref 57, .ref a, .int (nI y), .int (nI p), .int (nI (it (pX m) i y)), .int (nI i)] [] M _) ?_ ?_ 0 M0 (Nat.zero_le _) ⟨Fr_refl _ _, hM, fun _ => rfl⟩
  · intro M hM
    exact b2_nameRound_6 (fun _ => b2_nameRound_44 ⟨rfl, hM⟩) (fun h => absurd (nI_le (Nat.le_refl _) (by omega)) h)
  · intro i M hi ⟨hF, hM, h60⟩ ih
    have hz : it (pX m) i y < 2 * m.1 := it_lt hm.2.1.1 i y hy
    have hNLi := NL_rv (n := m.1) rfl hm.2.1.1 hl hy i
    have hli : (rv (pX m) l y i).length ≤ 2 * m.1 := nd_le hNLi.1 hNLi.2.1
    have hgo : ∀ M, Fr tNm M0 M → NmC (rv (pX m) l y (i + 1)) M → (∀ j, M.1 60 j = M0.1 60 j) → Wp (E0 L xs) (d + 1) m2_nameRound 29 [.ref 57, .ref a, .int (nI y), .int (nI p), .int (nI (it (pX m) i y)), .int (nI i)] [] M (fun v M' => v = none ∧ (Fr tNm M0 M' ∧ NmC (rv (pX m) l y p) M' ∧ ∀ j, M'.1 60 j = M0.1 60 j)) := by
      intro M hF hM h60
      refine b2_nameRound_29 T (it (pX m) i y) rfl (by omega) ?_
      rw [nI_1, show gI M (a + 1) (it (pX m) i y) = nI (it (pX m) (i + 1) y) from by rw [it_succ' (pX m) i y]; exact (frM M hF).2.2.2.2.1 _ hz]
      exact ih M ⟨hF, hM, h60⟩
    refine b2_nameRound_6 (fun h => absurd ((nI_leI (by omega) (by omega)).mp h) (by omega)) (fun _ => b2_nameRound_12 (it (pX m) i y) rfl (by omega) (fun h => ?_) (fun h => ?_))
    · have hin : it (pX m) i y ∈ rv (pX m) l y i := Classical.byContradiction fun z => h ((hM.1.2 _ (by omega)).trans ((nmV_none (by omega)).mpr z))
      have e9 : rv (pX m) l y (i + 1) = rv (pX m) l y i := if_pos hin
      exact hgo M hF (by rw [e9]; exact hM) h60
    · have hnin : it (pX m) i y ∉ rv (pX m) l y i := (nmV_none (by omega)).mp ((hM.1.2 _ (by omega)).symm.trans h)
      have e9 : rv (pX m) l y (i + 1) = rv (pX m) l y i ++ [it (pX m) i y, ox (it (pX m) i y)] := if_neg hnin
      refine b2_nameRound_23 (nameEdge_ev hm.1 hz hNLi hnin hM) (fun M2 h2 => ?_)
      exact hgo M2 (Fr_trans hF h2.1) (by rw [e9]; exact h2.2.1) (fun j => (h2.2.2 j).trans (h60 j))
/-- vertices that are walked have all their darts named -/
def WkV (m : PMp) (l : List Nat) (M : ME) : Prop := ∀ v, v < 32 → (M.1 60 v = 0 ∨ ∀ x, x < pN m → pVo m x = v → x ∈ l)
theorem orb_it {m : PMp} (hm : PermOn (pX m) (pN m)) {x y p : Nat} (hy : y < pN m) (hx : x < pN m) (hp0 : 0 < p) (hpd : it (pX m) p y = y) (h : pVo m x = pVo m y) : ∃ j, j < p ∧ it (pX m) j y = x := by
  obtain ⟨k, hk⟩ := (lbO_eq hm hy hx).mp h.symm
  exact ⟨k % p, Nat.mod_lt k hp0, by rw [← it_mod hpd]; exact hk⟩
theorem nameDarts_ev {a x : Nat} {m : PMp} {M0 : ME} (ha : RMs a) (hm : PV m) (hc : cM M0 a m) (hx : x < pN m ∨ (pE m = 0 ∧ x = 0)) : EvV (E0 L xs) (d + 2) m2_nameDarts [.ref 57, .ref a, .int (nI x)] M0 (fun M => Fr tNm M0 M ∧ ((pE m = 0 ∧ M.1 57 3 = 0) ∨ (0 < pE m ∧ NmC (cdL m x) M))) := by
  have hN : 2 * m.1 ≤ 32 := by have := hm.1; omega
  have T := RMs_is (L := L) (xs := xs) ha
  have frM : ∀ M, Fr tNm M0 M → cM M a m := fun M hF => cM_fr hc hF (fun k j h1 h2 => tNm_f ha h1 h2)
  have e0 : gI (sI M0 57 3 0) a 0 = nI m.1 := (frM _ (Fr_sI (Fr_refl _ _) rfl)).1
  have hF0 : Fr tNm M0 (sI M0 57 3 0) := Fr_sI (Fr_refl _ _) rfl
  refine Ev_of k2_nameDarts rfl (Nat.le_of_ble_eq_true rfl) (b2_nameDarts_0 T (fun h => ?_) (fun h => ?_))
  · have hE : 0 < m.1 := by
      rcases Nat.eq_zero_or_pos m.1 with q | q
      · exact absurd (by rw [e0, q]; rfl) h
      · exact q
    have hxN : x < pN m := by
      rcases hx with hx | hx
      · exact hx
      · exact absurd hx.1 (by show ¬ m.1 = 0; omega)
    have hx2 : x < 2 * m.1 := hxN
    refine b2_nameDarts_13 (fill_ev (n := 32) rfl (by decide)) (fun M1 h1 => b2_nameDarts_21 (fill_ev (n := 32) rfl (by decide)) (fun M2 h2 => ?_))
    have hF2 : Fr tNm M0 M2 := Fr_trans (Fr_trans hF0 (Fr_mono h1.1 (fun k j q => tR1_f (fun z => by subst z; cases q)))) (Fr_mono h2.1 (fun k j q => tR1_f (fun z => by subst z; cases q)))
    have hnil : NmC [] M2 := by
      refine ⟨⟨fun i hi => absurd hi (Nat.not_lt_zero _), fun y hy => ?_⟩, ?_⟩
      · rw [show M2.1 58 y = M1.1 58 y from h2.1.1 58 y rfl, h1.2 y hy]; rfl
      · rw [show M2.1 57 3 = M1.1 57 3 from h2.1.1 57 3 rfl, show M1.1 57 3 = (sI M0 57 3 0).1 57 3 from h1.1.1 57 3 rfl]
        exact sI_eq _ _ _ _
    refine b2_nameDarts_29 (nameEdge_ev (n := m.1) hm.1 hx2 ⟨List.nodup_nil, fun _ h => (by cases h), fun _ h => (by cases h)⟩ (by simp) hnil) (fun M3 h3 => b2_nameDarts_34 ?_)
    suffices hloop : ∀ (q k : Nat) (M : ME), k + q = pN m → Fr tNm M0 M → NmC (nml m x k) M → WkV m (nml m x k) M → Wp (E0 L xs) (d + 2) m2_nameDarts 36 [.ref 57, .ref a, .int (nI x), .int (nI k), .null] [] M (fun v M' => v = none ∧ (Fr tNm M0 M' ∧ ((pE m = 0 ∧ M'.1 57 3 = 0) ∨ (0 < pE m ∧ NmC (cdL m x) M')))) by
      refine hloop (pN m) 0 M3 (by omega) (Fr_trans hF2 h3.1) h3.2.1 (fun v hv => Or.inl ?_)
      rw [h3.2.2 v]; exact h2.2 v hv
    intro q
    induction q with
    | zero =>
      intro k M hk hF hM hW
      have hk2 : k = pN m := hk
      have e2 : 2 * gI M a 0 = nI (pN m) := by rw [show gI M a 0 = _ from (frM M hF).1]; exact pk_mul 2 _
      refine b2_nameDarts_36 T (fun _ => b2_nameDarts_107 ⟨rfl, hF, Or.inr ⟨hE, by unfold cdL; rw [← hk2]; exact hM⟩⟩) (fun h => absurd (by rw [e2, hk2]; exact nI_le (Nat.le_refl _) (by show 2 * m.1 < _; omega)) h)
    | succ q ih =>
      intro k M hk hF hM hW
      have hk2 : k + (q + 1) = 2 * m.1 := hk
      have hcm := frM M hF
      have e2 : 2 * gI M a 0 = nI (pN m) := by rw [show gI M a 0 = _ from hcm.1]; exact pk_mul 2 _
      have hNL := NL_nml hm.2.1 hxN k
      have hl2 : (nml m x k).length ≤ 2 * m.1 := nd_le hNL.1 hNL.2.1
      refine b2_nameDarts_36 T (fun h => ?_) (fun _ => b2_nameDarts_44 (fun h => ?_) (fun h => ?_))
      · rw [e2] at h
        exact absurd ((nI_leI (by show 2 * m.1 < _; omega) (by omega)).mp h) (by show ¬ 2 * m.1 ≤ k; omega)
      · rw [show gI M 57 3 = _ from hM.2] at h
        have h1 := (nI_leI (by omega) (by omega)).mp h
        exact b2_nameDarts_107 ⟨rfl, hF, Or.inr ⟨hE, by unfold cdL; rw [nml_stop h1 _ (show k ≤ 2 * m.1 by omega)]; exact hM⟩⟩
      · rw [show gI M 57 3 = _ from hM.2] at h
        have hkl : k < (nml m x k).length := by
          rcases Nat.lt_or_ge k (nml m x k).length with z | z
          · exact z
          · exact absurd (nI_le z (by omega)) h
        have hy := hNL.2.1 _ (getD_mem hkl)
        have hye := hM.1.1 k hkl
        generalize hyy : (nml m x k).getD k 0 = y at hy hye
        have hy2 : y < 2 * m.1 := hy
        obtain ⟨p, hp, p0, ppN, pd, pl⟩ := dgx_per hm.2.1 hy
        have ppN2 : p ≤ 2 * m.1 := ppN
        have hnx : nml m x (k + 1) = rv (pX m) (nml m x k) y p := by
          show rv (pX m) (nml m x k) ((nml m x k).getD k 0) (if k < (nml m x k).length then dgx m ((nml m x k).getD k 0) else 0) = _
          rw [if_pos hkl, hyy, hp]
        have hV := pVo_lt hm hy
        have hVn := pVo_ltV hm hy
        have e3 : gI M (a + 3) y = nI (pVo m y) := hcm.2.2.2.2.2.2.1 y hy
        refine b2_nameDarts_52 T k rfl (by omega) y hye (by omega) (pVo m y) e3 hV (fun h0 => b2_nameDarts_101 ?_) (fun h0 => ?_)
        · -- walked before: nothing is new
          have hall : ∀ z, z < pN m → pVo m z = pVo m y → z ∈ nml m x k := by
            rcases hW _ hV with q | q
            · exact absurd q h0
            · exact q
          have e4 : nml m x (k + 1) = nml m x k := by
            rw [hnx]
            refine rv_id (fun j _ => hall _ (it_lt hm.2.1.1 j y hy) ?_)
            exact (lbO_eq hm.2.1 (it_lt hm.2.1.1 j y hy) hy).mpr (Orb_symm hm.2.1 hy ⟨j, rfl⟩)
          rw [nI_1]
          exact ih (k + 1) M (by omega) hF (by rw [e4]; exact hM) (by rw [e4]; exact hW)
        · rw [e3]
          have hF6 : Fr tNm M0 (sI M 60 (pVo m y) 1) := Fr_sI hF rfl
          have hM6 : NmC (nml m x k) (sI M 60 (pVo m y) 1) := hM
          have e5 : gI (sI M 60 (pVo m y) 1) (a + 5) (pVo m y) = nI p := by
            rw [← hp]; exact (frM _ hF6).2.2.2.2.2.2.2.2.1 _ hVn
          refine b2_nameDarts_75 (pVo m y) rfl hV k rfl (by omega) T (pVo m y) rfl hV (R' := fun M' => Fr tNm (sI M 60 (pVo m y) 1) M' ∧ NmC (rv (pX m) (nml m x k) y p) M' ∧ ∀ j, M'.1 60 j = (sI M 60 (pVo m y) 1).1 60 j) ?_ (fun M7 h7 => b2_nameDarts_101 ?_)
          · rw [show gI M 59 k = nI y from hye, e5]
            exact nameRound_ev ha hm (frM _ hF6) hy (by omega) hNL hM6
          · rw [nI_1]
            refine ih (k + 1) M7 (by omega) (Fr_trans hF6 h7.1) (by rw [hnx]; exact h7.2.1) (fun v hv => ?_)
            rw [hnx, h7.2.2 v, sI_at]
            by_cases e : v = pVo m y
            · rw [if_pos ⟨rfl, e⟩]
              right
              intro z hz hzv
              obtain ⟨j, hj, rfl⟩ := orb_it hm.2.1 hy hz p0 pd (hzv.trans e)
              exact rv_in hj
            · rw [if_neg (fun q => e q.2)]
              rcases hW v hv with q | q
              · exact Or.inl q
              · exact Or.inr (fun z hz hzv => rv_mono (q z hz hzv) p)
  · have hE : m.1 = 0 := by
      rw [e0] at h
      exact (nI_eq (b := 0) (by omega) (by decide)).mp h
    exact b2_nameDarts_12 ⟨rfl, hF0, Or.inl ⟨hE, sI_eq _ _ _ _⟩⟩
/-- the code into a row of the class's own -/
def tWc (c : Nat) (k j : Nat) : Bool := tNm k j || k == c
theorem writeCode_ev {a x c : Nat} {m : PMp} {M0 : ME} (ha : RMs a) (hcc : c = 61 ∨ c = 62) (hm : PV m) (hc : cM M0 a m) (hx : x < pN m ∨ (pE m = 0 ∧ x = 0)) : EvV (E0 L xs) (d + 3) m2_writeCode [.ref 57, .ref a, .int (nI x), .ref c] M0 (fun M => Fr (tWc c) M0 M ∧ (0 < pE m → ∀ i, i < (cdL m x).length → M.1 c i = cdV m x i)) := by
  have hN : 2 * m.1 ≤ 32 := by have := hm.1; omega
  have T := RMs_is (L := L) (xs := xs) ha
  have hsc : shp (E0 L xs) c = (1, 32) := by rcases hcc with rfl | rfl <;> rfl
  have frM : ∀ M, Fr (tWc c) M0 M → cM M a m := fun M hF => cM_fr hc hF (fun k j h1 h2 => by
    unfold tWc
    rw [tNm_f ha h1 h2, Bool.false_or]
    have : k ≠ c := by rcases ha with rfl | rfl | rfl | rfl | rfl <;> rcases hcc with rfl | rfl <;> omega
    simp [this])
  refine Ev_of k2_writeCode rfl (Nat.le_of_ble_eq_true rfl) (b2_writeCode_0 (nameDarts_ev ha hm hc hx) (fun M1 h1 => b2_writeCode_6 ?_))
  have hF1 : Fr (tWc c) M0 M1 := Fr_mono h1.1 (fun k j q => by unfold tWc at q; rw [Bool.or_eq_false_iff] at q; exact q.1)
  rcases h1.2 with ⟨hE, h3⟩ | ⟨hE, hNm⟩
  · refine b2_writeCode_9 (fun _ => b2_writeCode_52 ⟨rfl, hF1, fun q => absurd hE (by omega)⟩) (fun h => ?_)
    exact absurd (by rw [show gI M1 57 3 = 0 from h3]; decide) h
  · have hxN : x < pN m := by
      rcases hx with hx | hx
      · exact hx
      · omega
    have hNL := NL_nml hm.2.1 hxN (pN m)
    have hl2 : (cdL m x).length ≤ 2 * m.1 := nd_le hNL.1 hNL.2.1
    refine lpN (cdL m x).length (fun i M => Fr (tWc c) M0 M ∧ NmC (cdL m x) M ∧ ∀ j, j < i → M.1 c j = cdV m x j) (fun i M => Wp (E0 L xs) (d + 3) m2_writeCode 9 [.ref 57, .ref a, .int (nI x), .ref c, .int (nI i)] [] M _) ?_ ?_ 0 M1 (Nat.zero_le _) ⟨hF1, hNm, fun j hj => absurd hj (Nat.not_lt_zero _)⟩
    · intro M ⟨hF, hM, hcd⟩
      refine b2_writeCode_9 (fun _ => b2_writeCode_52 ⟨rfl, hF, fun _ => hcd⟩) (fun h => ?_)
      exact absurd (by rw [show gI M 57 3 = _ from hM.2]; exact nI_le (Nat.le_refl _) (by omega)) h
    · intro i M hi ⟨hF, hM, hcd⟩ ih
      have hy : (cdL m x).getD i 0 < 2 * m.1 := hNL.2.1 _ (getD_mem hi)
      have hfy : pX m ((cdL m x).getD i 0) < 2 * m.1 := hm.2.1.1 _ hy
      have hcm := frM M hF
      refine b2_writeCode_9 (fun h => ?_) (fun _ => b2_writeCode_18 hsc (by decide) (fun h => ?_) (fun _ => ?_))
      · rw [show gI M 57 3 = _ from hM.2] at h
        exact absurd ((nI_leI (by omega) (by omega)).mp h) (by omega)
      · exact absurd ((nI_leI (a := 32) (by decide) (by omega)).mp h) (by omega)
      · refine b2_writeCode_25 T i rfl (by omega) ((cdL m x).getD i 0) (hM.1.1 i hi) (by omega) (pX m ((cdL m x).getD i 0)) (hcm.2.2.2.2.1 _ hy) (by omega) hsc (by decide) i rfl (by omega) ?_
        rw [nI_1, show gI M 58 (pX m ((cdL m x).getD i 0)) = cdV m x i from hM.1.2 _ (by omega)]
        have hc9 : c ≠ 58 ∧ c ≠ 59 ∧ c ≠ 57 := by rcases hcc with rfl | rfl <;> decide
        refine ih _ ⟨Fr_sI hF (by unfold tWc; simp), ⟨⟨fun j hj => ?_, fun y hy => ?_⟩, ?_⟩, fun j hj => ?_⟩
        · rw [sI_ne (Or.inl (Ne.symm hc9.2.1))]; exact hM.1.1 j hj
        · rw [sI_ne (Or.inl (Ne.symm hc9.1))]; exact hM.1.2 y hy
        · rw [sI_ne (Or.inl (Ne.symm hc9.2.2))]; exact hM.2
        · rw [sI_at]
          by_cases e : j = i
          · subst e; rw [if_pos ⟨rfl, rfl⟩]
          · rw [if_neg (fun q => e q.2)]; exact hcd j (by omega)
end NE
