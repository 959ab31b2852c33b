/-! the text of a map -/
def dgT (x : Nat) : List Nat := (if 10 ≤ x then [48 + x / 10] else []) ++ [48 + x % 10]
def rtT (g : Nat → Nat) (x : Nat) : Nat → List Nat
  | 0 => []
  | k + 1 => rtT g x k ++ ([if k = 0 then 40 else 32] ++ dgT (it g k x))
def vtT (m : PMp) : Nat → List Nat
  | 0 => []
  | x + 1 => vtT m x ++ (if mn (pX m) (pN m) x = x then rtT (pX m) x (dgx m x) ++ [41] else [])
def txt (m : PMp) : List Nat := vtT m (pN m)
noncomputable def shwV (m : PMp) (i : Int32) : Int32 := if i = -1 then nI (txt m).length else cIf (vp_in i (txt m).length) (nI ((txt m).getD i.toNatClampNeg 0)) (-1)
noncomputable def aShown (st : ST) (x i : Int32) : Int32 := cIf (vp_in x 4 ∧ ¬ i < -1) (shwV (sM st x.toNatClampNeg) i) (-1)
theorem dgT_len (x : Nat) : (dgT x).length ≤ 2 := by unfold dgT; split <;> simp
theorem rtT_len (g : Nat → Nat) (x : Nat) : ∀ k, (rtT g x k).length ≤ 3 * k
  | 0 => Nat.le_refl _
  | k + 1 => by
    have h1 := rtT_len g x k
    have h2 := dgT_len (it g k x)
    show (rtT g x k ++ ([if k = 0 then 40 else 32] ++ dgT (it g k x))).length ≤ _
    rw [List.length_append, List.length_append, List.length_singleton]
    omega
theorem rk_new {m : PMp} {x : Nat} (h : mn (pX m) (pN m) x = x) : lbO (pX m) (pN m) x = rkO (pX m) (pN m) x ∧ rkO (pX m) (pN m) (x + 1) = rkO (pX m) (pN m) x + 1 := by
  refine ⟨?_, ?_⟩
  · show rkO _ _ (mn _ _ x) = _; rw [h]
  · show rkO _ _ x + (if mn (pX m) (pN m) x = x then 1 else 0) = _; rw [if_pos h]
theorem rk_old {m : PMp} {x : Nat} (h : ¬ mn (pX m) (pN m) x = x) : rkO (pX m) (pN m) (x + 1) = rkO (pX m) (pN m) x := by
  show rkO _ _ x + (if mn (pX m) (pN m) x = x then 1 else 0) = _; rw [if_neg h]; rfl
theorem vtT_len (m : PMp) : ∀ x, (vtT m x).length ≤ 3 * smN (szO (pX m) (pN m)) (rkO (pX m) (pN m) x) + rkO (pX m) (pN m) x
  | 0 => Nat.zero_le _
  | x + 1 => by
    have ih := vtT_len m x
    show (vtT m x ++ _).length ≤ _
    by_cases q : mn (pX m) (pN m) x = x
    · obtain ⟨h1, h2⟩ := rk_new q
      have h3 := rtT_len (pX m) x (dgx m x)
      have h4 : dgx m x = szO (pX m) (pN m) (rkO (pX m) (pN m) x) := by show szO _ _ (lbO _ _ x) = _; rw [h1]
      have h5 : smN (szO (pX m) (pN m)) (rkO (pX m) (pN m) x + 1) = smN (szO (pX m) (pN m)) (rkO (pX m) (pN m) x) + szO (pX m) (pN m) (rkO (pX m) (pN m) x) := rfl
      rw [if_pos q, h2, h5, List.length_append, List.length_append, List.length_singleton]
      omega
    · rw [if_neg q, rk_old q, List.append_nil]; exact ih
theorem sm_le {g : Nat → Nat} {N k : Nat} : smN (szO g N) k ≤ N := by rw [sm_sz]; exact cnB_le _ _
/-- within a round: there is room -/
theorem txt_room {m : PMp} (hm : PV m) {x : Nat} (hx : x < pN m) (h : mn (pX m) (pN m) x = x) : (vtT m x).length + 3 * dgx m x + 1 ≤ 128 := by
  have hN := MV_N hm
  obtain ⟨h1, h2⟩ := rk_new h
  have h4 : dgx m x = szO (pX m) (pN m) (rkO (pX m) (pN m) x) := by show szO _ _ (lbO _ _ x) = _; rw [h1]
  have h5 : smN (szO (pX m) (pN m)) (rkO (pX m) (pN m) x + 1) = smN (szO (pX m) (pN m)) (rkO (pX m) (pN m) x) + szO (pX m) (pN m) (rkO (pX m) (pN m) x) := rfl
  have h6 := sm_le (g := pX m) (N := pN m) (k := rkO (pX m) (pN m) x + 1)
  have h7 := vtT_len m x
  have h8 := rkO_le (pX m) (pN m) (x + 1)
  omega
theorem txt_len {m : PMp} (hm : PV m) : (txt m).length ≤ 128 := by
  have hN := MV_N hm
  have h1 := vtT_len m (pN m)
  have h2 := sm_le (g := pX m) (N := pN m) (k := rkO (pX m) (pN m) (pN m))
  have h3 := rkO_le (pX m) (pN m) (pN m)
  show (vtT m (pN m)).length ≤ 128
  omega
/-- which vertex a dart has, against how many are told -/
theorem vo_rk {m : PMp} (hm : PV m) {x : Nat} (hx : x < pN m) : (mn (pX m) (pN m) x = x → pVo m x = rkO (pX m) (pN m) x) ∧ (¬ mn (pX m) (pN m) x = x → pVo m x < rkO (pX m) (pN m) x) := by
  refine ⟨fun h => (rk_new h).1, fun h => ?_⟩
  have h1 := mn_self (pX m) (pN m) x
  exact rkO_lt (show mn (pX m) (pN m) x < x by omega) (mn_mn hm.2.1 hx)
section SHC
variable {L : Nat} {xs : Nat → Int32} {d : Nat} {tab : Nat → Nat → Int64} {M : ME} {st : ST}
/-- what the class's writer has written -/
def TxI (l : List Nat) (M : ME) : Prop := M.1 16 1 = nI l.length ∧ ∀ i, i < l.length → M.1 17 i = nI (l.getD i 0)
def tTx (k j : Nat) : Bool := match k with
  | 16 => j == 1
  | 17 => true
  | _ => false
theorem tTx_sc {M' : ME} (f : Fr tTx M M') : Fr tSc M M' := Fr_mono f (fun k j q => by
  unfold tTx
  split
  · cases q
  · cases q
  · rfl)
theorem tTx_f {a k j : Nat} (ha : RMs a) (h1 : a ≤ k) (h2 : k ≤ a + 6) : tTx k j = false := by
  have := RMs_sc ha h1 h2
  unfold tTx
  split
  all_goals first | omega | rfl
theorem put_ev {l : List Nat} {c : Nat} (hl : l.length < 128) (h : TxI l M) : EvV (E0 L xs) d m7_put [.ref 16, .int (nI c)] M (fun M' => Fr tTx M M' ∧ TxI (l ++ [c]) M') := by
  obtain ⟨h1, h2⟩ := h
  have e1 : gI M 16 1 = nI l.length := h1
  refine Ev_of k7_put rfl (Nat.le_of_ble_eq_true rfl) (b7_put_0 (fun h => ?_) (fun _ => b7_put_10 l.length h1 hl (b7_put_30 ⟨rfl, Fr_sI (Fr_sI (Fr_refl _ _) rfl) rfl, ?_, fun i hi => ?_⟩)))
  · rw [e1] at h
    have := (nI_leI (a := 128) (b := l.length) (by decide) (by omega)).mp h
    omega
  · rw [sI_eq, e1, nI_1]; simp
  · rw [sI_ne (Or.inl (by decide)), sI_at]
    simp at hi
    by_cases e : i = l.length
    · rw [if_pos ⟨rfl, e⟩, e, getD_app2]
    · rw [if_neg (fun z => e z.2), getD_app1 (by omega)]; exact h2 i (by omega)
theorem writeRound_ev {a x : Nat} {m : PMp} {l : List Nat} (ha : RMs a) (hm : PV m) (hc : cM M a m) (hx : x < pN m) (hl : l.length + 3 * dgx m x + 1 ≤ 128) (h : TxI l M) : EvV (E0 L xs) (d + 1) m7_writeRound [.ref 16, .ref a, .int (nI x), .int (nI (dgx m x))] M (fun M' => Fr tTx M M' ∧ TxI (l ++ (rtT (pX m) x (dgx m x) ++ [41])) M') := by
  have T := RMs_is (L := L) (xs := xs) ha
  have hN := MV_N hm
  have hdg : dgx m x ≤ 32 := by have := szO_le (pX m) (pN m) (pVo m x); show szO _ _ _ ≤ 32; omega
  refine Ev_of k7_writeRound rfl (Nat.le_of_ble_eq_true rfl) (b7_writeRound_0 ?_)
  suffices hloop : ∀ (q k : Nat) (M1 : ME), k + q = dgx m x → Fr tTx M M1 → TxI (l ++ rtT (pX m) x k) M1 → Wp (E0 L xs) (d + 1) m7_writeRound 6 [.ref 16, .ref a, .int (nI x), .int (nI (dgx m x)), .int (nI (it (pX m) k x)), .int (nI k)] [] M1 (fun v' M' => v' = none ∧ (Fr tTx M M' ∧ TxI (l ++ (rtT (pX m) x (dgx m x) ++ [41])) M')) by
    exact hloop (dgx m x) 0 M (by omega) (Fr_refl _ _) (by rw [show rtT (pX m) x 0 = [] from rfl, List.append_nil]; exact h)
  intro q
  induction q with
  | zero =>
    intro k M1 hk f hI
    have : k = dgx m x := by omega
    subst this
    have h3 := rtT_len (pX m) x (dgx m x)
    refine b7_writeRound_6 (fun _ => b7_writeRound_74 (put_ev (c := 41) (by rw [List.length_append]; omega) hI) (fun M2 h2 => b7_writeRound_80 ⟨rfl, Fr_trans f h2.1, ?_⟩)) (fun h => absurd (nI_le (Nat.le_refl _) (by omega)) h)
    rw [← List.append_assoc]; exact h2.2
  | succ q ih =>
    intro k M1 hk f hI
    have h3 := rtT_len (pX m) x k
    have hy := it_lt hm.2.1.1 k x hx
    have hs : it (pX m) (k + 1) x = pX m (it (pX m) k x) := it_succ' (pX m) k x
    have ers : rtT (pX m) x (k + 1) = rtT (pX m) x k ++ ([if k = 0 then 40 else 32] ++ dgT (it (pX m) k x)) := rfl
    generalize hyy : it (pX m) k x = y at *
    have e10 : nI y / 10 = nI (y / 10) := pk_div (d := 10) (by omega) (by decide) (by decide)
    have er10 : nI y - nI y / 10 * 10 = nI (y % 10) := pk_rem (d := 10) (by omega) (by decide) (by decide)
    -- behind the sign
    have two : ∀ M2 (l2 : List Nat), Fr tTx M M2 → TxI l2 M2 → l2.length < 128 → l2 ++ [48 + y % 10] = l ++ rtT (pX m) x (k + 1) → Wp (E0 L xs) (d + 1) m7_writeRound 47 [.ref 16, .ref a, .int (nI x), .int (nI (dgx m x)), .int (nI y), .int (nI k)] [] M2 (fun v' M' => v' = none ∧ (Fr tTx M M' ∧ TxI (l ++ (rtT (pX m) x (dgx m x) ++ [41])) M')) := by
      intro M2 l2 f2 hI2 hl2 e2
      refine b7_writeRound_47 (R' := fun M' => Fr tTx M2 M' ∧ TxI (l2 ++ [48 + y % 10]) M') (by rw [er10, show (48 : Int32) = nI 48 from rfl, nI_add]; exact put_ev hl2 hI2) (fun M3 h5 => b7_writeRound_59 T y rfl (by omega) ?_)
      have f3 := Fr_trans f2 h5.1
      have hc3 : cM M3 a m := cM_fr hc f3 (fun k j q1 q2 => tTx_f ha q1 q2)
      rw [show gI M3 (a + 1) y = nI (pX m y) from hc3.2.2.2.2.1 y hy, ← hs, nI_1]
      exact ih (k + 1) M3 (by omega) f3 (by rw [← e2]; exact h5.2)
    have one : ∀ (c : Nat), c = (if k = 0 then 40 else 32) → Wp (E0 L xs) (d + 1) m7_writeRound 25 [.ref 16, .ref a, .int (nI x), .int (nI (dgx m x)), .int (nI y), .int (nI k)] [.int (nI c), .ref 16] M1 (fun v' M' => v' = none ∧ (Fr tTx M M' ∧ TxI (l ++ (rtT (pX m) x (dgx m x) ++ [41])) M')) := by
      intro c hcc
      refine b7_writeRound_25 (put_ev (c := c) (by rw [List.length_append]; omega) hI) (fun M2 h2 => b7_writeRound_28 (fun h => ?_) (fun h => ?_))
      · have hlt := (nI_ltI (b := 10) (by omega) (by decide)).mp h
        refine two M2 _ (Fr_trans f h2.1) h2.2 (by rw [List.length_append, List.length_append, List.length_singleton]; omega) ?_
        rw [ers, hcc]
        unfold dgT
        rw [if_neg (show ¬ 10 ≤ y by omega), List.nil_append, List.append_assoc, List.append_assoc]
      · have hge := mt (nI_ltI (a := y) (b := 10) (by omega) (by decide)).mpr h
        refine b7_writeRound_35 (R' := fun M' => Fr tTx M2 M' ∧ TxI (l ++ rtT (pX m) x k ++ [c] ++ [48 + y / 10]) M') (by rw [e10, show (48 : Int32) = nI 48 from rfl, nI_add]; exact put_ev (by rw [List.length_append, List.length_append, List.length_singleton]; omega) h2.2) (fun M3 h5 => ?_)
        refine two M3 _ (Fr_trans f (Fr_trans h2.1 h5.1)) h5.2 (by rw [List.length_append, List.length_append, List.length_append, List.length_singleton, List.length_singleton]; omega) ?_
        rw [ers, hcc]
        unfold dgT
        rw [if_pos (show 10 ≤ y by omega)]
        simp [List.append_assoc]
    refine b7_writeRound_6 (fun h => absurd ((nI_leI (by omega) (by omega)).mp h) (by omega)) (fun _ => b7_writeRound_12 (fun h => b7_writeRound_23 (one 32 ?_)) (fun h => b7_writeRound_18 (one 40 ?_)))
    · rw [if_neg (fun z => h (by rw [z]; rfl))]
    · rw [if_pos ((nI_eq (b := 0) (by omega) (by decide)).mp h)]
theorem write_ev {a : Nat} {m : PMp} (ha : RMs a) (hm : PV m) (hc : cM M a m) : EvV (E0 L xs) (d + 2) m7_write [.ref 16, .ref a] M (fun M' => Fr tTx M M' ∧ TxI (txt m) M') := by
  have T := RMs_is (L := L) (xs := xs) ha
  have hN := MV_N hm
  refine Ev_of k7_write rfl (Nat.le_of_ble_eq_true rfl) (b7_write_0 ?_)
  suffices hloop : ∀ (q x : Nat) (M1 : ME), x + q = pN m → Fr tTx M M1 → TxI (vtT m x) M1 → Wp (E0 L xs) (d + 2) m7_write 9 [.ref 16, .ref a, .int (nI (rkO (pX m) (pN m) x)), .int (nI x)] [] M1 (fun v' M' => v' = none ∧ (Fr tTx M M' ∧ TxI (txt m) M')) by
    exact hloop (pN m) 0 _ (by omega) (Fr_sI (Fr_refl _ _) rfl) ⟨sI_eq _ _ _ _, fun i hi => absurd hi (Nat.not_lt_zero _)⟩
  intro q
  induction q with
  | zero =>
    intro x M1 hx f hI
    have : x = pN m := by omega
    subst this
    have hc1 : cM M1 a m := cM_fr hc f (fun k j q1 q2 => tTx_f ha q1 q2)
    have e0 : 2 * gI M1 a 0 = nI (pN m) := by rw [show gI M1 a 0 = _ from hc1.1]; exact pk_mul 2 _
    exact b7_write_9 T (fun _ => b7_write_48 ⟨rfl, f, hI⟩) (fun h => absurd (by rw [e0]; exact nI_le (Nat.le_refl _) (by omega)) h)
  | succ q ih =>
    intro x M1 hx f hI
    have hx' : x < pN m := by omega
    have hc1 : cM M1 a m := cM_fr hc f (fun k j q1 q2 => tTx_f ha q1 q2)
    have e0 : 2 * gI M1 a 0 = nI (pN m) := by rw [show gI M1 a 0 = _ from hc1.1]; exact pk_mul 2 _
    have e3 : gI M1 (a + 3) x = nI (pVo m x) := hc1.2.2.2.2.2.2.1 x hx'
    have hvo := pVo_lt hm hx'
    have hrk := rkO_le (pX m) (pN m) x
    obtain ⟨v1, v2⟩ := vo_rk hm hx'
    refine b7_write_9 T (fun h => absurd ((nI_leI (a := pN m) (b := x) (by omega) (by omega)).mp (by rw [← e0]; exact h)) (by omega)) (fun _ => b7_write_17 T x rfl (by omega) (fun h => b7_write_42 ?_) (fun h => ?_))
    · rw [e3] at h
      have hno : ¬ mn (pX m) (pN m) x = x := fun z => h (by rw [v1 z])
      have := ih (x + 1) M1 (by omega) f (by show TxI (vtT m x ++ _) M1; rw [if_neg hno, List.append_nil]; exact hI)
      rw [rk_old hno] at this
      rw [nI_1]; exact this
    · rw [e3] at h
      have h' := (nI_eq (by omega) (by omega)).mp h
      have hyes : mn (pX m) (pN m) x = x := Classical.byContradiction fun z => by have := v2 z; omega
      have hV := pVo_ltV hm hx'
      have e5 : gI M1 (a + 5) (rkO (pX m) (pN m) x) = nI (dgx m x) := by
        have := hc1.2.2.2.2.2.2.2.2.1 (pVo m x) hV
        rw [h'] at this
        show _ = nI (szO _ _ (pVo m x))
        rw [h']
        exact this
      refine b7_write_27 (R' := fun M' => Fr tTx M1 M' ∧ TxI (vtT m x ++ (rtT (pX m) x (dgx m x) ++ [41])) M') T (rkO (pX m) (pN m) x) rfl (by omega) (by rw [e5]; exact writeRound_ev (d := d) ha hm hc1 hx' (txt_room hm hx' hyes) hI) (fun M2 h2 => b7_write_39 (b7_write_42 ?_))
      have := ih (x + 1) M2 (by omega) (Fr_trans f h2.1) (by show TxI (vtT m x ++ _) M2; rw [if_pos hyes]; exact h2.2)
      rw [(rk_new hyes).2] at this
      rw [nI_1, nI_1]; exact this
theorem c_shown (hS : ClsS tab M st) (hok : StOK st) {x i : Int32} : EvI (E0 L xs) (d + 3) m9_shown [.ref 1, .int x, .int i] M (Cq tab M st (aShown st x i)) := by
  have no : ¬ (vp_in x 4 ∧ ¬ i < -1) → Wp (E0 L xs) (d + 3) m9_shown 12 [.ref 1, .int x, .int i] [] M (fun v' M' => ∃ r, v' = some (.int r) ∧ Cq tab M st (aShown st x i) r M') := fun h => b9_shown_12 ⟨_, rfl, by rw [show aShown st x i = -1 from cIf_neg h _ _]; exact Cq_same hS⟩
  refine Ev_of k9_shown rfl (Nat.le_of_ble_eq_true rfl) (b9_shown_0 (fun h => no (fun q => h q.1)) (fun h1 => b9_shown_7 (fun h2 => ?_) (fun h => no (fun q => q.2 (i_nle.mp h)))))
  rw [show aShown st x i = _ from cIf_pos ⟨h1, i_nlt.mpr h2⟩ _ _]
  obtain ⟨j, hj, rfl, ej, hR, hc, hn0⟩ := cl_map hS h1
  rw [ej]
  have hm := hok.2.2 j hj
  have hlen := txt_len hm.1
  refine b9_shown_14 j rfl hj hn0 (write_ev (d := d) hR hm.1 hc) (fun M2 h3 => ?_)
  have fin : ∀ {r0 : Int32}, Cq tab M st r0 r0 M2 := ⟨rfl, ClsS_sc hS (tTx_sc h3.1), tSc_C (tTx_sc h3.1)⟩
  have e1 : gI M2 16 1 = nI (txt (sM st j)).length := h3.2.1
  unfold shwV
  refine b9_shown_27 (fun h => ?_) (fun h => b9_shown_32 ⟨_, rfl, ?_⟩)
  · rw [if_neg h]
    refine b9_shown_40 (fun h4 => b9_shown_63 (b9_shown_64 ⟨_, rfl, ?_⟩)) (fun h4 => ?_)
    · rw [e1] at h4
      rw [cIf_neg (fun q => i_nle.mpr (in_lt (by omega) q).2 h4)]
      exact fin
    · rw [e1] at h4
      have hin : vp_in i (txt (sM st j)).length := by
        refine in_of (by omega) (fun z => ?_) (i_nle.mp h4)
        rw [Int32.lt_iff_toInt_lt] at z
        rw [Int32.le_iff_toInt_le] at h2
        have e0 : (0 : Int32).toInt = 0 := rfl
        have em : (-1 : Int32).toInt = -1 := rfl
        exact h (i32_eq (by omega))
      rw [cIf_pos hin]
      obtain ⟨k, hk, rfl, ek⟩ := in_j hin (by omega)
      rw [ek]
      refine b9_shown_51 k rfl (by omega) (b9_shown_64 ⟨_, rfl, ?_⟩)
      rw [show gI M2 17 k = _ from h3.2.2 k hk]
      exact fin
  · rw [if_pos h, e1]; exact fin
end SHC
section SHR
variable {L : Nat} {xs : Nat → Int32} {d : Nat} {M : ME} {st : ST}
def SxI (l : List Nat) (M : ME) : Prop := M.1 110 37 = nI l.length ∧ ∀ i, i < l.length → M.1 129 i = nI (l.getD i 0)
def tSx (k j : Nat) : Bool := match k with
  | 110 => j == 37
  | 129 => true
  | _ => false
theorem tSx_sr {M' : ME} (f : Fr tSx M M') : Fr tSr M M' := Fr_mono f (fun k j q => by
  unfold tSx
  split
  · have q' := q
    simp [tSr] at q'
    simp [q']
  · cases q
  · rfl)
theorem Sx_add {l : List Nat} {c : Nat} (h : SxI l M) : SxI (l ++ [c]) (sI (sI M 129 l.length (nI c)) 110 37 (gI M 110 37 + 1)) := by
  obtain ⟨h1, h2⟩ := h
  refine ⟨?_, fun i hi => ?_⟩
  · rw [sI_eq, show gI M 110 37 = _ from h1, nI_1]; simp
  · rw [sI_ne (Or.inl (by decide)), sI_at]
    simp at hi
    by_cases e : i = l.length
    · rw [if_pos ⟨rfl, e⟩, e, getD_app2]
    · rw [if_neg (fun z => e z.2), getD_app1 (by omega)]; exact h2 i (by omega)
theorem Sx_fr {k : Nat} {v w : Int32} : Fr tSx M (sI (sI M 129 k v) 110 37 w) := Fr_sI (Fr_sI (Fr_refl _ _) rfl) rfl
theorem putsDart_ev {l : List Nat} {y : Nat} (hy : y < 32) (hl : l.length + 2 ≤ 200) (h : SxI l M) : EvV (E0 L xs) (d + 1) m10_putsDart [.ref 110, .int (nI y)] M (fun M' => Fr tSx M M' ∧ SxI (l ++ dgT y) M') := by
  have e10 : nI y / 10 = nI (y / 10) := pk_div (d := 10) (by omega) (by decide) (by decide)
  have er10 : nI y - nI y / 10 * 10 = nI (y % 10) := pk_rem (d := 10) (by omega) (by decide) (by decide)
  refine Ev_of k10_putsDart rfl (Nat.le_of_ble_eq_true rfl) (b10_putsDart_0 (fun h2 => b10_putsDart_17 l.length h.1 (by omega) ⟨rfl, ?_⟩) (fun h2 => b10_putsDart_6 l.length h.1 (by omega) (b10_putsDart_17 (l.length + 1) ?_ (by omega) ⟨rfl, ?_⟩)))
  · have hlt := (nI_leI (b := 9) (by omega) (by decide)).mp h2
    rw [er10, show (48 : Int32) = nI 48 from rfl, nI_add]
    refine ⟨Sx_fr, ?_⟩
    unfold dgT
    rw [if_neg (by omega), List.nil_append]
    exact Sx_add h
  · rw [e10, show (48 : Int32) = nI 48 from rfl, nI_add]
    have := (Sx_add (c := 48 + y / 10) h).1
    rw [List.length_append, List.length_singleton] at this
    exact this
  · have hge := mt (nI_leI (a := y) (b := 9) (by omega) (by decide)).mpr h2
    rw [er10, e10, show (48 : Int32) = nI 48 from rfl, nI_add, nI_add]
    refine ⟨Fr_trans Sx_fr Sx_fr, ?_⟩
    have h5 := Sx_add (c := 48 + y % 10) (Sx_add (c := 48 + y / 10) h)
    rw [List.length_append, List.length_singleton] at h5
    unfold dgT
    rw [if_pos (by omega), ← List.append_assoc]
    exact h5
theorem r_shown (hS : RefS M st) (hok : StOK st) {x i : Int32} : EvI (E0 L xs) (d + 3) m10_shown [.ref 110, .int x, .int i] M (Rq M st (aShown st x i)) := by
  refine Ev_of k10_shown rfl (Nat.le_of_ble_eq_true rfl) (b10_shown_0 (fun h => ?_) (fun h => b10_shown_13 ⟨_, rfl, ?_⟩))
  rotate_left
  · rw [show aShown st x i = -1 from cIf_neg (fun q => h q.1) _ _]; exact Rq_sc hok hS (tld M)
  have h' := h
  obtain ⟨j, hj, rfl, ej⟩ := in_j h (by decide)
  have hm := hok.2.2 j hj
  have hj5 : j < 5 := by omega
  refine b10_shown_15 (rlays (d := d) hS hok hj) (fun M2 h3 => b10_shown_20 ?_)
  obtain ⟨f2, hr2, hl2⟩ := h3
  have ea : aShown st (nI j) i = cIf (¬ i < -1) (shwV (sM st j) i) (-1) := by
    unfold aShown
    rw [ej]
    by_cases q : i < -1
    · rw [cIf_neg (fun z => z.2 q), cIf_neg (fun z => z q)]
    · rw [cIf_pos ⟨h', q⟩, cIf_pos q]
  rw [ea]
  generalize sM st j = m at *
  have hN := MV_N hm.1
  have hlen := txt_len hm.1
  have f3 : Fr tSx M2 (sI M2 110 37 0) := Fr_sI (Fr_refl _ _) rfl
  have KP : ∀ M4, Fr tSx M2 M4 → rM M4 j m ∧ ∀ z, z < pN m → M4.1 114 z = nI (pVo m z) := fun M4 f => ⟨rM_fr hr2 f rfl rfl (fun _ _ => rfl), fun z hz => (f.1 114 z rfl).trans (hl2.2.2.1 z hz)⟩
  suffices hloop : ∀ (q z : Nat) (M4 : ME), z + q = pN m → Fr tSx M2 M4 → SxI (vtT m z) M4 → Wp (E0 L xs) (d + 3) m10_shown 30 [.ref 110, .int (nI j), .int i, .int (nI (rkO (pX m) (pN m) z)), .int (nI z), .null] [] M4 (fun v' M' => ∃ r, v' = some (.int r) ∧ Rq M st (cIf (¬ i < -1) (shwV m i) (-1)) r M') by
    exact hloop (pN m) 0 _ (by omega) f3 ⟨sI_eq _ _ _ _, fun i hi => absurd hi (Nat.not_lt_zero _)⟩
  intro q
  induction q with
  | zero =>
    intro z M4 hz f4 hI
    have : z = pN m := by omega
    subst this
    obtain ⟨k1, k2⟩ := KP M4 f4
    have e2 : 2 * gI M4 112 j = nI (pN m) := by rw [show gI M4 112 j = _ from k1.1]; exact pk_mul 2 _
    have hI' : SxI (txt m) M4 := hI
    have e37 : gI M4 110 37 = nI (txt m).length := hI'.1
    have fS := Fr_trans f2 (tSx_sr f4)
    refine b10_shown_30 j rfl hj5 (fun _ => b10_shown_122 (fun h => b10_shown_132 (fun h5 => ?_) (fun h5 => b10_shown_158 (b10_shown_159 ⟨_, rfl, ?_⟩))) (fun h => b10_shown_127 ⟨_, rfl, ?_⟩)) (fun h => absurd (by rw [e2]; exact nI_le (Nat.le_refl _) (by omega)) h)
    · have hi : (0 ≤ i.toInt64 ∧ i.toInt64 ≤ (gI M4 110 37).toInt64 - 1) ↔ vp_in i (txt m).length := in_iff (by rw [e37]; exact hiN (by omega))
      have h6 := hi.mp h5
      have hge : ¬ i < -1 := fun z => by
        have := (vp_in_iff.mp h6).1
        rw [Int32.lt_iff_toInt_lt] at z
        have em : (-1 : Int32).toInt = -1 := rfl
        omega
      rw [cIf_pos hge]
      unfold shwV
      rw [if_neg h, cIf_pos h6]
      obtain ⟨k, hk, rfl, ek⟩ := in_j h6 (by omega)
      rw [ek]
      refine b10_shown_149 k rfl (by omega) (b10_shown_159 ⟨_, rfl, ?_⟩)
      rw [show gI M4 129 k = _ from hI'.2 k hk]
      exact Rq_sc hok hS fS
    · have hi : (0 ≤ i.toInt64 ∧ i.toInt64 ≤ (gI M4 110 37).toInt64 - 1) ↔ vp_in i (txt m).length := in_iff (by rw [e37]; exact hiN (by omega))
      have : cIf (¬ i < -1) (shwV m i) (-1) = -1 := by
        by_cases q : i < -1
        · exact cIf_neg (fun z => z q) _ _
        · rw [cIf_pos q]
          unfold shwV
          rw [if_neg h, cIf_neg (fun z => h5 (hi.mpr z))]
      rw [this]; exact Rq_sc hok hS fS
    · have hge : ¬ i < -1 := by rw [h]; decide
      rw [cIf_pos hge]
      unfold shwV
      rw [if_pos h, e37]; exact Rq_sc hok hS fS
  | succ q ih =>
    intro z M4 hz f4 hI
    have hz' : z < pN m := by omega
    obtain ⟨k1, k2⟩ := KP M4 f4
    have e2 : 2 * gI M4 112 j = nI (pN m) := by rw [show gI M4 112 j = _ from k1.1]; exact pk_mul 2 _
    have e3 : gI M4 114 z = nI (pVo m z) := k2 z hz'
    have hvo := pVo_lt hm.1 hz'
    have hrk := rkO_le (pX m) (pN m) z
    obtain ⟨v1, v2⟩ := vo_rk hm.1 hz'
    refine b10_shown_30 j rfl hj5 (fun h => absurd ((nI_leI (a := pN m) (b := z) (by omega) (by omega)).mp (by rw [← e2]; exact h)) (by omega)) (fun _ => b10_shown_40 z rfl (by omega) (fun h => ?_) (fun h => b10_shown_51 (b10_shown_116 ?_)))
    rotate_left
    · rw [e3] at h
      have hlt := mt (nI_leI (a := rkO (pX m) (pN m) z) (b := pVo m z) (by omega) (by omega)).mpr h
      have hno : ¬ mn (pX m) (pN m) z = z := fun y => by have := v1 y; omega
      have := ih (z + 1) M4 (by omega) f4 (by show SxI (vtT m z ++ _) M4; rw [if_neg hno, List.append_nil]; exact hI)
      rw [rk_old hno] at this
      rw [nI_1]; exact this
    rw [e3] at h
    have hle := (nI_leI (a := rkO (pX m) (pN m) z) (b := pVo m z) (by omega) (by omega)).mp h
    have hyes : mn (pX m) (pN m) z = z := Classical.byContradiction fun y => by have := v2 y; omega
    have hroom := txt_room hm.1 hz' hyes
    obtain ⟨p, hp, p0, hpN, pd, pl'⟩ := dgx_per hm.1.2.1 hz'
    have one : rtT (pX m) z 1 = [40] ++ dgT z := rfl
    refine b10_shown_54 (vtT m z).length hI.1 (by omega) (putsDart_ev (d := d + 1) (l := vtT m z ++ [40]) (by omega) (by rw [List.length_append, List.length_singleton]; omega) (Sx_add hI)) (fun M5 h5 => b10_shown_66 (32 * j + z) (i32m j z) (by omega) ?_)
    have f5 : Fr tSx M2 M5 := Fr_trans f4 (Fr_trans Sx_fr h5.1)
    obtain ⟨k1', -⟩ := KP M5 f5
    have eX : gI M5 111 (32 * j + z) = nI (it (pX m) 1 z) := k1'.2.2 z hz'
    rw [eX]
    have hI5 : SxI (vtT m z ++ rtT (pX m) z 1) M5 := by rw [one, ← List.append_assoc]; exact h5.2
    suffices hin : ∀ (r k : Nat) (M6 : ME), 1 ≤ k → k + r = p → Fr tSx M2 M6 → SxI (vtT m z ++ rtT (pX m) z k) M6 → Wp (E0 L xs) (d + 3) m10_shown 75 [.ref 110, .int (nI j), .int i, .int (nI (rkO (pX m) (pN m) z)), .int (nI z), .int (nI (it (pX m) k z))] [] M6 (fun v' M' => ∃ r, v' = some (.int r) ∧ Rq M st (cIf (¬ i < -1) (shwV m i) (-1)) r M') by
      exact hin (p - 1) 1 M5 (Nat.le_refl _) (by omega) f5 hI5
    intro r
    induction r with
    | zero =>
      intro k M6 hk1 hk f6 hI6
      have : k = p := by omega
      subst this
      have hrl := rtT_len (pX m) z k
      refine b10_shown_75 (fun _ => b10_shown_106 (vtT m z ++ rtT (pX m) z k).length hI6.1 (by rw [List.length_append]; omega) (b10_shown_116 ?_)) (fun h => absurd (by rw [pd]) h)
      have := ih (z + 1) _ (by omega) (Fr_trans f6 Sx_fr) (by
        show SxI (vtT m z ++ _) _
        rw [if_pos hyes, hp, ← List.append_assoc]
        exact Sx_add (c := 41) hI6)
      rw [(rk_new hyes).2] at this
      rw [nI_1, nI_1]; exact this
    | succ r ih2 =>
      intro k M6 hk1 hk f6 hI6
      have hrl := rtT_len (pX m) z k
      have hy := it_lt hm.1.2.1.1 k z hz'
      have hne := pl' k (by omega) (by omega)
      have hs : it (pX m) (k + 1) z = pX m (it (pX m) k z) := it_succ' (pX m) k z
      have ers : rtT (pX m) z (k + 1) = rtT (pX m) z k ++ ([32] ++ dgT (it (pX m) k z)) := by
        show rtT (pX m) z k ++ ([if k = 0 then 40 else 32] ++ _) = _
        rw [if_neg (by omega)]
      refine b10_shown_75 (fun h => absurd ((nI_eq (by omega) (by omega)).mp h) hne) (fun _ => b10_shown_82 (vtT m z ++ rtT (pX m) z k).length hI6.1 (by rw [List.length_append]; omega) (putsDart_ev (d := d + 1) (l := vtT m z ++ rtT (pX m) z k ++ [32]) (by omega) (by rw [List.length_append, List.length_append, List.length_singleton]; omega) (Sx_add hI6)) (fun M7 h7 => b10_shown_94 (32 * j + it (pX m) k z) (i32m j _) (by omega) ?_))
      have f7 : Fr tSx M2 M7 := Fr_trans f6 (Fr_trans Sx_fr h7.1)
      obtain ⟨k7, -⟩ := KP M7 f7
      rw [show gI M7 111 (32 * j + it (pX m) k z) = nI (pX m (it (pX m) k z)) from k7.2.2 _ hy, ← hs]
      exact ih2 (k + 1) M7 (by omega) (by omega) f7 (by rw [ers, ← List.append_assoc, ← List.append_assoc]; exact h7.2)
end SHR
