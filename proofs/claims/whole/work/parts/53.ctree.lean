/-! the class: trees -/
noncomputable def aTrees (x : Int32) : Int64 := cIf (vp_in x 9) (lN (ttN x.toNatClampNeg)) (-1)
noncomputable def oTree (st : ST) (x n : Int32) (k : Int64) : Int32 × ST := cIf (vp_in x 3 ∧ vp_in n 9 ∧ ¬ k < 0 ∧ k < lN (ttN n.toNatClampNeg)) (1, setT st x.toNatClampNeg (trN n.toNatClampNeg k.toInt.toNat)) (0, st)
noncomputable def aRank (st : ST) (x : Int32) : Int64 := cIf (vp_in x 3) (rkV (sT st x.toNatClampNeg)) (-1)
noncomputable def entV (f : Nat → Int32) (i : Int32) (n : Nat) : Int32 := cIf (vp_in i n) (f i.toNatClampNeg) (-100)
def parV (t : PTr) (v : Nat) : Int32 := if v = 0 then -1 else nI (tP t v)
noncomputable def shpV (t : PTr) (w i : Int32) : Int32 := if w = 0 then nI (tn t) else if w = 1 then entV (fun j => nI (ts t j)) i (2 * tn t) else if w = 2 then entV (tl t) i (tn t + 1) else if w = 3 then entV (parV t) i (tn t + 1) else if w = 4 then entV (hrV t) i (tC t) else if w = 5 then entV (fun c => nI (tA t c)) i (tC t) else -100
noncomputable def aShape (st : ST) (x w i : Int32) : Int32 := cIf (vp_in x 3) (shpV (sT st x.toNatClampNeg) w i) (-100)
theorem l_of {k : Int64} {n : Nat} (hn : n < 2 ^ 31) (h0 : ¬ k < 0) (h1 : k < lN n) : k.toInt.toNat < n ∧ k = lN k.toInt.toNat := by
  have e0 : (0 : Int64).toInt = 0 := rfl
  rw [Int64.lt_iff_toInt_lt, e0] at h0
  rw [Int64.lt_iff_toInt_lt, show (lN n).toInt = n from lN_toInt hn] at h1
  have h2 : k.toInt.toNat < n := by omega
  refine ⟨h2, Int64.toInt_inj.mp ?_⟩
  rw [show (lN k.toInt.toNat).toInt = (k.toInt.toNat : Int) from lN_toInt (by omega)]
  omega
section CTR
variable {L : Nat} {xs : Nat → Int32} {d : Nat} {tab : Nat → Nat → Int64} {M : ME} {st : ST}
theorem ctrees_ev (hW : cW M) {x : Int32} : EvL (E0 L xs) (d + 1) m9_trees [.ref 1, .int x] M (fun r M' => r = aTrees x ∧ M' = M) := by
  have no : ¬ vp_in x 9 → Wp (E0 L xs) (d + 1) m9_trees 10 [.ref 1, .int x, .null, .null, .null] [] M (fun v' M' => ∃ r, v' = some (.long r) ∧ (r = aTrees x ∧ M' = M)) := fun h => b9_trees_10 ⟨_, rfl, by rw [show aTrees x = -1 from cIf_neg h _ _], rfl⟩
  refine Ev_of k9_trees rfl (Nat.le_of_ble_eq_true rfl) (b9_trees_0 (fun h => no (fun q => (in_lt (by decide) q).1 h)) (fun h1 => b9_trees_4 (fun h2 => ?_) (fun h => no (fun q => h ?_))))
  · have hx : vp_in x 9 := by
      rw [Int32.le_iff_toInt_le] at h2
      rw [Int32.lt_iff_toInt_lt] at h1
      have e1 : (0 : Int32).toInt = 0 := rfl
      have e2 : (8 : Int32).toInt = 8 := rfl
      exact vp_in_iff.mpr ⟨by omega, by omega⟩
    rw [show aTrees x = _ from cIf_pos hx _ _]
    obtain ⟨n, hn, rfl, en⟩ := in_j hx (by decide)
    rw [en]
    refine b9_trees_14 (2 * n) (pk_mul 2 _) (by omega) 0 rfl (by decide) ?_
    have hwz := wz_lt (l := 2 * n) 1 (by omega)
    rw [show gI M (36 + 1 + 2 * n) 0 = nI (wz (2 * n) 1) from hW (2 * n) (by omega) 0 (by decide), nI_l2 (by omega)]
    suffices hloop : ∀ (q i : Nat), i + q = n → Wp (E0 L xs) (d + 1) m9_trees 27 [.ref 1, .int (nI n), .long (lN (wz (2 * n) 1 * 3 ^ i)), .null, .int (nI i)] [] M (fun v' M' => ∃ r, v' = some (.long r) ∧ (r = lN (ttN n) ∧ M' = M)) by
      have := hloop n 0 (by omega)
      rw [show wz (2 * n) 1 * 3 ^ 0 = wz (2 * n) 1 from Nat.mul_one _] at this
      exact this
    intro q
    induction q with
    | zero =>
      intro i hi
      have : i = n := by omega
      subst this
      exact b9_trees_27 (fun _ => b9_trees_45 ⟨_, rfl, rfl, rfl⟩) (fun h => absurd (nI_le (Nat.le_refl _) (by omega)) h)
    | succ q ih =>
      intro i hi
      refine b9_trees_27 (fun h => absurd ((nI_leI (by omega) (by omega)).mp h) (by omega)) (fun _ => b9_trees_33 ?_)
      rw [nI_1, show lN (wz (2 * n) 1 * 3 ^ i) * 3 = lN (wz (2 * n) 1 * 3 ^ (i + 1)) by
        rw [show (3 : Int64) = lN 3 from rfl, lN_mul, Nat.pow_succ, Nat.mul_assoc]]
      exact ih (i + 1) (by omega)
  · have := (in_lt (by decide) q).2
    rw [Int32.lt_iff_toInt_lt] at this
    rw [Int32.le_iff_toInt_le]
    have e1 : (nI 9).toInt = 9 := rfl
    have e2 : (8 : Int32).toInt = 8 := rfl
    omega
def Cl (tab : Nat → Nat → Int64) (M : ME) (st : ST) (r0 : Int64) : Int64 → ME → Prop := fun r M' => r = r0 ∧ ClsS tab M' st ∧ FrC M M'
theorem c_trees (hS : ClsS tab M st) {x : Int32} : EvL (E0 L xs) (d + 1) m9_trees [.ref 1, .int x] M (Cl tab M st (aTrees x)) :=
  EvL_post (ctrees_ev hS.2.2.2.2.2.1) (fun r M' h => by rw [h.2]; exact ⟨h.1, hS, FrC_refl M⟩)
theorem cl_tree0 (hS : ClsS tab M st) (hok : StOK st) {x : Int32} (h : vp_in x 3) : ∃ j, j < 3 ∧ x = nI j ∧ x.toNatClampNeg = j ∧ M.2.2 3 j = 64 + 6 * j ∧ M.2.2 3 j ≠ 0 ∧ TRs (64 + 6 * j) ∧ cT M (64 + 6 * j) (sT st j) ∧ TV (sT st j) := by
  obtain ⟨j, h1, h2, h3, h4, h5, h6⟩ := cl_tree hS h
  exact ⟨j, h1, h2, h3, h4, by omega, h5, h6, (hok.2.1 j h1).1⟩
theorem c_rank (hS : ClsS tab M st) (hok : StOK st) {x : Int32} : EvL (E0 L xs) (d + 3) m9_rank [.ref 1, .int x] M (Cl tab M st (aRank st x)) := by
  refine Ev_of k9_rank rfl (Nat.le_of_ble_eq_true rfl) (b9_rank_0 (fun h => b9_rank_7 (b9_rank_26 ⟨_, rfl, ?_⟩)) (fun h => ?_))
  · rw [show aRank st x = -1 from cIf_neg h _ _]; exact ⟨rfl, hS, FrC_refl M⟩
  · rw [show aRank st x = _ from cIf_pos h _ _]
    obtain ⟨j, hj, rfl, ej, er, hn0, hT, hc, hv⟩ := cl_tree0 hS hok h
    rw [ej]
    have er' : gR M 3 j = 64 + 6 * j := er
    refine b9_rank_13 (R' := fun r M' => r = rkV (sT st j) ∧ M' = M) j rfl hj hn0 (by rw [er']; exact TRs_is hT) (by rw [er']; exact tnumber_ev (d := d) hT hS.2.2.2.2.2.1 hv hc) (fun r M1 hr => b9_rank_26 ⟨_, rfl, ?_⟩)
    obtain ⟨rfl, rfl⟩ := hr
    exact ⟨rfl, hS, FrC_refl _⟩
theorem shapeEntry_ev {b n1 n : Nat} {f : Nat → Int32} {i : Int32} (hb : shp (E0 L xs) b = (1, n1)) (h1 : n1 < 2 ^ 31) (hn : n ≤ n1) (hf : ∀ k, k < n → M.1 b k = f k) : EvI (E0 L xs) d m9_shapeEntry [.ref b, .int i, .int (nI n)] M (fun r M' => r = entV f i n ∧ M' = M) := by
  have no : ¬ vp_in i n → Wp (E0 L xs) d m9_shapeEntry 15 [.ref b, .int i, .int (nI n)] [] M (fun v' M' => ∃ r, v' = some (.int r) ∧ (r = entV f i n ∧ M' = M)) := fun h => b9_shapeEntry_15 (b9_shapeEntry_23 ⟨_, rfl, by rw [show entV f i n = -100 from cIf_neg h _ _], rfl⟩)
  refine Ev_of k9_shapeEntry rfl (Nat.le_of_ble_eq_true rfl) (b9_shapeEntry_0 (fun h => no (fun q => (in_lt (by omega) q).1 h)) (fun h2 => b9_shapeEntry_4 (fun h => no (fun q => i_nle.mpr (in_lt (by omega) q).2 h)) (fun h3 => ?_)))
  have hi := in_of (by omega) h2 (i_nle.mp h3)
  rw [show entV f i n = _ from cIf_pos hi _ _]
  obtain ⟨k, hk, rfl, ek⟩ := in_j hi (by omega)
  rw [ek]
  exact b9_shapeEntry_9 hb h1 (fun _ => b9_shapeEntry_20 hb h1 k rfl (by omega) (b9_shapeEntry_23 ⟨_, rfl, hf k hk, rfl⟩)) (fun h => absurd (nI_lt (a := k) (b := n1) (by omega) h1) h)
theorem c_shape (hS : ClsS tab M st) (hok : StOK st) {x w i : Int32} : EvI (E0 L xs) (d + 1) m9_shape [.ref 1, .int x, .int w, .int i] M (Cq tab M st (aShape st x w i)) := by
  refine Ev_of k9_shape rfl (Nat.le_of_ble_eq_true rfl) (b9_shape_0 (fun h => b9_shape_7 ⟨_, rfl, ?_⟩) (fun h => ?_))
  · rw [show aShape st x w i = -100 from cIf_neg h _ _]; exact Cq_same hS
  · rw [show aShape st x w i = _ from cIf_pos h _ _]
    obtain ⟨j, hj, rfl, ej, er, hn0, hT, hc, hv⟩ := cl_tree0 hS hok h
    rw [ej]
    have er' : gR M 3 j = 64 + 6 * j := er
    have T := TRs_is (L := L) (xs := xs) hT
    generalize hta : 64 + 6 * j = a at *
    generalize htt : sT st j = t at *
    have hn8 : tn t ≤ 8 := hv.1
    have hC := tC_le hv
    have e0 : gI M a 0 = nI (tn t) := hc.1.1
    have fin : ∀ {r0 r : Int32} {M1 : ME}, (r = r0 ∧ M1 = M) → shpV t w i = r0 → ∃ r', some (Value.int r) = some (.int r') ∧ Cq tab M st (shpV t w i) r' M1 := fun {r0 r M1} h e => ⟨_, rfl, by rw [h.2, h.1, e]; exact Cq_same hS⟩
    refine b9_shape_10 j rfl hj hn0 (fun h => ?_) (fun h => ?_) (fun h => ?_) (fun h => ?_) (fun h => ?_) (fun h => ?_) (fun h => b9_shape_143 ⟨_, rfl, ?_⟩)
    · rw [er']
      refine b9_shape_56 T (fin ⟨rfl, rfl⟩ ?_)
      subst h; exact e0.symm
    · rw [er']
      refine b9_shape_62 (R' := fun r M' => r = entV (fun j => nI (ts t j)) i (2 * tn t) ∧ M' = M) T ?_ (fun r M1 hr => b9_shape_78 (fin hr ?_))
      · rw [e0, show 2 * nI (tn t) = nI (2 * tn t) from pk_mul 2 _]
        exact shapeEntry_ev (n1 := 16) T.2.1 (by decide) (by omega) hc.1.2.1
      · subst h; rfl
    · rw [er']
      refine b9_shape_79 (R' := fun r M' => r = entV (tl t) i (tn t + 1) ∧ M' = M) T ?_ (fun r M1 hr => b9_shape_95 (fin hr ?_))
      · rw [e0, nI_1]
        exact shapeEntry_ev (n1 := 9) T.2.2.1 (by decide) (by omega) (fun k hk => hc.1.2.2 k (by omega))
      · subst h; rfl
    · rw [er']
      refine b9_shape_96 (R' := fun r M' => r = entV (parV t) i (tn t + 1) ∧ M' = M) T ?_ (fun r M1 hr => b9_shape_112 (fin hr ?_))
      · rw [e0, nI_1]
        refine shapeEntry_ev (n1 := 9) T.2.2.2.1 (by decide) (by omega) (fun k hk => ?_)
        unfold parV
        by_cases q : k = 0
        · rw [if_pos q, q]; exact hc.2.1.1
        · rw [if_neg q]; exact hc.2.1.2.1 k (by omega) (by omega)
      · subst h; rfl
    · rw [er']
      refine b9_shape_113 T (ccorners_ev T hv hc.1.1) (fun r M1 hr => ?_)
      obtain ⟨rfl, rfl⟩ := hr
      refine b9_shape_124 (shapeEntry_ev (n1 := 16) T.2.2.2.2.2 (by decide) hC hc.2.2) (fun r M2 hr => b9_shape_127 (fin hr ?_))
      subst h; rfl
    · rw [er']
      refine b9_shape_128 T (ccorners_ev T hv hc.1.1) (fun r M1 hr => ?_)
      obtain ⟨rfl, rfl⟩ := hr
      refine b9_shape_139 (shapeEntry_ev (n1 := 16) T.2.2.2.2.1 (by decide) hC hc.2.1.2.2) (fun r M2 hr => b9_shape_142 (fin hr ?_))
      subst h; rfl
    · have : shpV t w i = -100 := by
        unfold shpV
        rw [if_neg (sw_ne h 0 rfl (by decide) (by decide)), if_neg (sw_ne h 1 rfl (by decide) (by decide)), if_neg (sw_ne h 2 rfl (by decide) (by decide)), if_neg (sw_ne h 3 rfl (by decide) (by decide)), if_neg (sw_ne h 4 rfl (by decide) (by decide)), if_neg (sw_ne h 5 rfl (by decide) (by decide))]
      rw [this]; exact Cq_same hS
theorem tTR_o {a k j : Nat} (h : k < a ∨ a + 5 < k) : tTR a k j = false := tTR_f h
/-- a tree slot has changed -/
theorem ClsS_tr {s : Nat} {t : PTr} {M' : ME} (hs : s < 3) (hS : ClsS tab M st) (f : Fr (tTR (64 + 6 * s)) M M') (hc : cT M' (64 + 6 * s) t) : ClsS tab M' (setT st s t) := by
  have e : ∀ k, k < 64 + 6 * s ∨ 64 + 6 * s + 5 < k → M'.1 k = M.1 k := fun k hk => funext fun j => f.1 k j (tTR_f hk)
  have er : M'.2 = M.2 := f.2
  obtain ⟨h1, h2, h3, h4, ⟨⟨g1, g2, g3, g4⟩, g5⟩, h6, c, c1, c2, c3, c4, c5⟩ := hS
  refine ⟨by rw [e 1 (by omega)]; exact h1, by rw [e 2 (by omega)]; exact h2, by rw [e 12 (by omega)]; exact h3, fun i hi => ⟨by rw [er]; exact (h4 i hi).1, ?_⟩, ⟨⟨by rw [er]; exact g1, by rw [er]; exact g2, by rw [er]; exact g3, by rw [er]; exact g4⟩, fun i hi => ?_⟩, fun l hl => by rw [e (36 + 1 + l) (by omega)]; exact h6 l hl, c, c1, c2, by rw [e 18 (by omega)]; exact c3, fun n hn => by rw [er]; exact c4 n hn, fun n hn hn2 => by rw [er]; exact c5 n hn hn2⟩
  · show cT M' _ (if i = s then t else sT st i)
    by_cases q : i = s
    · rw [if_pos q, q]; exact hc
    · rw [if_neg q]
      exact cT_eq (h4 i hi).2 (fun k hk1 hk => e k (by omega))
  · rw [er]
    refine cM_eq (g5 i hi) (fun k hk1 hk => e k ?_)
    have q := RMs_sc (g1 i hi) hk1 hk
    omega
theorem tTR_C {s : Nat} {M' : ME} (hs : s < 3) (f : Fr (tTR (64 + 6 * s)) M M') : FrC M M' := FrC_of f (fun k j hk => tTR_f (by omega))
theorem c_tree (hS : ClsS tab M st) (hok : StOK st) {x n : Int32} {k : Int64} : EvI (E0 L xs) (d + 5) m9_tree [.ref 1, .int x, .int n, .long k] M (Co tab M (oTree st x n k)) := by
  have no : ∀ {M1 : ME}, M1 = M → ¬ (vp_in x 3 ∧ vp_in n 9 ∧ ¬ k < 0 ∧ k < lN (ttN n.toNatClampNeg)) → Wp (E0 L xs) (d + 5) m9_tree 23 [.ref 1, .int x, .int n, .long k, .null] [] M1 (fun v' M' => ∃ r, v' = some (.int r) ∧ Co tab M (oTree st x n k) r M') := fun e h => b9_tree_23 ⟨_, rfl, by rw [e, show oTree st x n k = (0, st) from cIf_neg h _ _]; exact ⟨rfl, hS, FrC_refl M⟩⟩
  refine Ev_of k9_tree rfl (Nat.le_of_ble_eq_true rfl) (b9_tree_0 (fun h => no rfl (fun q => h q.1)) (fun h1 => b9_tree_7 (fun h => no rfl (fun q => q.2.2.1 (lgc_lt.mp h))) (fun h2 => b9_tree_13 (ctrees_ev (d := d + 3) hS.2.2.2.2.2.1) (fun r M1 hr => ?_))))
  obtain ⟨rfl, rfl⟩ := hr
  have h2' : ¬ k < 0 := fun z => h2 (lgc_lt.mpr z)
  have hn : k < aTrees n → vp_in n 9 := fun h => Classical.byContradiction fun q => by
    rw [show aTrees n = -1 from cIf_neg q _ _] at h
    rw [Int64.lt_iff_toInt_lt] at h h2'
    have e1 : (0 : Int64).toInt = 0 := rfl
    have e2 : (-1 : Int64).toInt = -1 := rfl
    omega
  refine b9_tree_19 (fun h3 => ?_) (fun h3 => no rfl (fun q => h3 (lgc_lt.mpr (by rw [show aTrees n = _ from cIf_pos q.2.1 _ _]; exact q.2.2.2))))
  have h3' := lgc_lt.mp h3
  have hn9 := hn h3'
  rw [show aTrees n = _ from cIf_pos hn9 _ _] at h3'
  rw [show oTree st x n k = _ from cIf_pos ⟨h1, hn9, h2', h3'⟩ _ _]
  obtain ⟨j, hj, rfl, ej, er, hn0, hT, hc, hv⟩ := cl_tree0 hS hok h1
  obtain ⟨n', hn', rfl, en⟩ := in_j hn9 (by decide)
  rw [en] at h3' ⊢
  rw [ej]
  have er' : gR M1 3 j = 64 + 6 * j := er
  obtain ⟨l1, l2⟩ := l_of (ttN_lt (show n' ≤ 8 by omega)) h2' h3'
  have ev := becomeNumber_ev (L := L) (xs := xs) (d := d) hT (show n' ≤ 8 by omega) l1 hS.2.2.2.2.2.1 ((hc.1.2.2 0 (Nat.zero_le _)).trans hv.2.2)
  rw [← l2] at ev
  refine b9_tree_25 (R' := fun M' => Fr (tTR (64 + 6 * j)) M1 M' ∧ cT M' (64 + 6 * j) (trN n' k.toInt.toNat)) j rfl hj hn0 (by rw [er']; exact TRs_is hT) (by rw [er']; exact ev) (fun M2 h5 => b9_tree_40 ⟨_, rfl, rfl, ClsS_tr hj hS h5.1 h5.2, tTR_C hj h5.1⟩)
end CTR
