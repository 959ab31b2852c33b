/-! the class: back -/
def bkT (m : PMp) (w s : Nat) : PTr := (pE m / 2, stJ (rhM m w) (oe m w) (kpF m) s, lbJ (rhM m w) (oe m w) (kpF m) (lv m w) (pE m / 2) s)
def bkS (m : PMp) (w : Nat) : Nat := if dnB m w (pR m) = true then pR m else ox (pR m)
noncomputable def oBack (st : ST) (x v y : Int32) : Int32 × ST := cIf (vp_in x 4 ∧ vp_in v (pVn (sM st x.toNatClampNeg)) ∧ vp_in y 3 ∧ fit (sM st x.toNatClampNeg) = true) ((if dnB (sM st x.toNatClampNeg) v.toNatClampNeg (pR (sM st x.toNatClampNeg)) = true then 0 else 1), setT st y.toNatClampNeg (bkT (sM st x.toNatClampNeg) v.toNatClampNeg (bkS (sM st x.toNatClampNeg) v.toNatClampNeg))) (-1, st)
/-- what is known of a map that is taken back -/
def BkI (m : PMp) (w s : Nat) : Prop := s < pN m ∧ (0 < pE m / 2 → Fit4 m w ∧ TT (pN m) (pE m / 2) (pVn m) (Hd m w) (Uv m w) (rhM m w) (oe m w) (pVo m) (kpF m) ∧ Hd m w s = true)
theorem one_edge {m : PMp} (hm : PV m) (h1 : pE m = 1) (hF : pFn m = 1) : ∀ x, x < 2 → pX m x = x := by
  have hN : pN m = 2 := by show 2 * m.1 = 2; have : m.1 = 1 := h1; omega
  have hp := hm.2.1
  rw [hN] at hp
  have hF' : ctO (pF m) (pN m) = 1 := by
    have : pFn m = if m.1 = 0 then 1 else ctO (pF m) (pN m) := rfl
    rw [if_neg (by have : m.1 = 1 := h1; omega)] at this
    rw [← this]; exact hF
  have p0 := hp.1 0 (by decide)
  have p1 := hp.1 1 (by decide)
  have hne : pX m 0 ≠ pX m 1 := fun e => absurd (hp.2 0 1 (by decide) (by decide) e) (by decide)
  have : ¬ pX m 0 = 1 := fun z => by
    have z1 : pX m 1 = 0 := by omega
    have f0 : pF m 0 = 0 := by show pX m 1 = 0; exact z1
    have hFp : PermOn (pF m) (pN m) := pF_perm hm.2.1
    have l0 := lbO_lt hFp (show 0 < pN m by omega)
    have l1 := lbO_lt hFp (show 1 < pN m by omega)
    rw [hF'] at l0 l1
    obtain ⟨k, hk⟩ := (lbO_eq hFp (show 0 < pN m by omega) (show 1 < pN m by omega)).mp (by omega)
    have : ∀ k, it (pF m) k 0 = 0 := fun k => by
      induction k with
      | zero => rfl
      | succ k ih => rw [it_succ', ih, f0]
    rw [this k] at hk; omega
  intro x hx
  have : x = 0 ∨ x = 1 := by omega
  rcases this with rfl | rfl <;> omega
theorem BkI_of {m : PMp} {w : Nat} (hm : MV m) (hw : w < pVn m) (hf : fit m = true) : BkI m w (bkS m w) := by
  obtain ⟨hP, hc, hV⟩ := hm
  unfold fit at hf
  have hE0 : 0 < pE m := by
    rw [Bool.or_eq_true] at hf
    rcases hf with h | h
    · have := fr4_E hP h
      have := pFn_pos hP
      omega
    · rw [Bool.and_eq_true] at h
      have := of_decide_eq_true h.1
      omega
  have hR : pR m < pN m := by
    rcases hP.2.2 with h | h
    · exact h
    · have : 0 < m.1 := hE0
      omega
  have hS : bkS m w < pN m := by
    unfold bkS
    by_cases q : dnB m w (pR m) = true
    · rw [if_pos q]; exact hR
    · rw [if_neg q]; exact ox_lt hR
  refine ⟨hS, fun h2 => ?_⟩
  have h4 : fr4 m = true := by
    rw [Bool.or_eq_true] at hf
    rcases hf with h | h
    · exact h
    · rw [Bool.and_eq_true] at h
      have := of_decide_eq_true h.1
      omega
  have F : Fit4 m w := ⟨hP, hc, hw, h4, fun x hx => fit_two ⟨hP, hc, hV⟩ h4 hE0 hw hx⟩
  have hEF := fr4_E hP h4
  have T := map_TT F hV
  rw [show pFn m = pE m / 2 by omega] at T
  refine ⟨F, T, ?_⟩
  unfold bkS
  by_cases q : dnB m w (pR m) = true
  · rw [if_pos q]; exact Hd_iff.mpr ⟨hR, dn_iff.mp q⟩
  · rw [if_neg q]; exact Hd_iff.mpr ⟨ox_lt hR, dn_iff.mp ((dn_ox F hR).mpr q)⟩
theorem bkT_ok {m : PMp} {w s : Nat} (hm : PV m) (h : BkI m w s) : TV (bkT m w s) ∧ TL (bkT m w s) := by
  have hE : m.1 ≤ 16 := hm.1
  by_cases q : 0 < pE m / 2
  · obtain ⟨F, T, hs⟩ := h.2 q
    refine ⟨⟨by show m.1 / 2 ≤ 8; omega, dyck_J T hs, rfl⟩, ?_⟩
    refine lb_TL T hs (fun x y _ _ e => by unfold lv; rw [e]) (fun x hx => ?_)
    obtain ⟨k, -, -, -, -, -, h6⟩ := oe_sp F hx
    exact h6
  · have e0 : pE m / 2 = 0 := by omega
    have et : tn (bkT m w s) = 0 := e0
    refine ⟨⟨by rw [et]; omega, ?_, rfl⟩, fun v v1 v2 => by rw [et] at v2; omega⟩
    rw [et]
    exact ⟨fun i hi => by omega, fun i hi => by
      have : i = 0 := by omega
      subst this
      exact Int.le_refl 0, rfl⟩
section CBK
variable {L : Nat} {xs : Nat → Int32} {d : Nat} {tab : Nat → Nat → Int64} {M : ME} {st : ST}
theorem dn_le {m : PMp} {w x : Nat} (hm : PV m) (hd : dRow M m w) (hx : x < pN m) : gI M 55 (pVo m x) ≤ gI M 55 (pVo m (ox x)) ↔ ¬ dnB m w x = true := by
  have h1 := dst_lt hm w (pVo m x)
  have h2 := dst_lt hm w (pVo m (ox x))
  rw [show gI M 55 (pVo m x) = _ from hd _ (pVo_ltV hm hx), show gI M 55 (pVo m (ox x)) = _ from hd _ (pVo_ltV hm (ox_lt hx)), nI_leI (by omega) (by omega), dn_iff]
  unfold lv
  omega
theorem otherEnd_ev {a x w : Nat} {m : PMp} (ha : RMs a) (hm : PV m) (hc : cM M a m) (hd : dRow M m w) (hx : x < pN m) : EvI (E0 L xs) (d + 1) m9_otherEnd [.ref 1, .ref a, .int (nI x)] M (fun r M' => r = nI (oe m w x) ∧ M' = M) := by
  have hN := MV_N hm
  have T := RMs_is (L := L) (xs := xs) ha
  have hF := pF_perm hm.2.1
  have hf : ∀ z, z < pN m → gI M (a + 2) z = nI (pF m z) := hc.2.2.2.2.2.1
  have hv : ∀ z, z < pN m → gI M (a + 3) z = nI (pVo m z) := hc.2.2.2.2.2.2.1
  refine Ev_of k9_otherEnd rfl (Nat.le_of_ble_eq_true rfl) (b9_otherEnd_0 T (ox x) (nI_ox (by omega)) (by have : ox x < pN m := ox_lt hx; omega) ?_)
  rw [hf _ (ox_lt hx)]
  suffices ho : ∀ (q k z : Nat), k + q = 4 → z < pN m → Wp (E0 L xs) (d + 1) m9_otherEnd 12 [.ref 1, .ref a, .int (nI x), .int (nI z), .int (nI k)] [] M (fun v' M' => ∃ r, v' = some (.int r) ∧ (r = nI (ox (oeK m w q z)) ∧ M' = M)) from ho 4 0 _ (by omega) (hF.1 _ (ox_lt hx))
  intro q
  induction q with
  | zero =>
    intro k z hk hz
    have : k = 4 := by omega
    subst this
    refine b9_otherEnd_12 (fun _ => b9_otherEnd_40 ⟨_, rfl, nI_ox (by omega), rfl⟩) (fun h => absurd (nI_le (a := 4) (b := 4) (by omega) (by omega)) h)
  | succ q ih =>
    intro k z hk hz
    have hoz : ox z < pN m := ox_lt hz
    have v1 := pVo_lt hm hz
    have v2 := pVo_lt hm hoz
    refine b9_otherEnd_12 (fun h => absurd ((nI_leI (a := 4) (b := k) (by omega) (by omega)).mp h) (by omega)) (fun _ => b9_otherEnd_18 T z rfl (by omega) (pVo m z) (hv z hz) v1 (ox z) (nI_ox (by omega)) (by omega) (pVo m (ox z)) (hv _ hoz) v2 (fun y => ?_) (fun y => b9_otherEnd_40 ⟨_, rfl, ?_, rfl⟩))
    · have hdn : dnB m w z = true := Classical.byContradiction fun z' => y ((dn_le hm hd hz).mpr z')
      refine b9_otherEnd_27 T z rfl (by omega) ?_
      rw [hf z hz, nI_1, show oeK m w (q + 1) z = oeK m w q (pF m z) from if_pos hdn]
      exact ih (k + 1) (pF m z) (by omega) (hF.1 z hz)
    · rw [show oeK m w (q + 1) z = z from if_neg ((dn_le hm hd hz).mp y)]
      exact nI_ox (by omega)
theorem nextDown_ev {a x w : Nat} {m : PMp} (ha : RMs a) (hm : PV m) (hc : cM M a m) (hd : dRow M m w) (hx : x < pN m) : EvI (E0 L xs) (d + 1) m9_nextDown [.ref 1, .ref a, .int (nI x)] M (fun r M' => r = nI (rhM m w x) ∧ M' = M) := by
  have hN := MV_N hm
  have T := RMs_is (L := L) (xs := xs) ha
  have hn : ∀ z, z < pN m → gI M (a + 1) z = nI (pX m z) := hc.2.2.2.2.1
  have hv : ∀ z, z < pN m → gI M (a + 3) z = nI (pVo m z) := hc.2.2.2.2.2.2.1
  refine Ev_of k9_nextDown rfl (Nat.le_of_ble_eq_true rfl) (b9_nextDown_0 T x rfl (by omega) ?_)
  rw [hn x hx]
  suffices ho : ∀ (q k z : Nat), k + q = 32 → z < pN m → Wp (E0 L xs) (d + 1) m9_nextDown 10 [.ref 1, .ref a, .int (nI x), .int (nI z), .int (nI k)] [] M (fun v' M' => ∃ r, v' = some (.int r) ∧ (r = nI (ndK m w q z) ∧ M' = M)) from ho 32 0 _ (by omega) (hm.2.1.1 _ hx)
  intro q
  induction q with
  | zero =>
    intro k z hk hz
    have : k = 32 := by omega
    subst this
    exact b9_nextDown_10 (fun _ => b9_nextDown_39 ⟨_, rfl, rfl, rfl⟩) (fun h => absurd (nI_le (a := 32) (b := 32) (by omega) (by omega)) h)
  | succ q ih =>
    intro k z hk hz
    have hoz : ox z < pN m := ox_lt hz
    have v1 := pVo_lt hm hz
    have v2 := pVo_lt hm hoz
    refine b9_nextDown_10 (fun h => absurd ((nI_leI (a := 32) (b := k) (by omega) (by omega)).mp h) (by omega)) (fun _ => b9_nextDown_17 T z rfl (by omega) (pVo m z) (hv z hz) v1 (ox z) (nI_ox (by omega)) (by omega) (pVo m (ox z)) (hv _ hoz) v2 (fun y => b9_nextDown_39 ⟨_, rfl, ?_, rfl⟩) (fun y => ?_))
    · have hdn : dnB m w z = true := Classical.byContradiction fun z' => y ((dn_le hm hd hz).mpr z')
      rw [show ndK m w (q + 1) z = z from if_pos hdn]
    · refine b9_nextDown_26 T z rfl (by omega) ?_
      rw [hn z hz, nI_1, show ndK m w (q + 1) z = ndK m w q (pX m z) from if_neg ((dn_le hm hd hz).mp y)]
      exact ih (k + 1) (pX m z) (by omega) (hm.2.1.1 z hz)
def tWt (b : Nat) (k j : Nat) : Bool := k == 63 || tTR b k j
theorem tWt_f {b k j : Nat} (h : k ≠ 63) (h2 : k < b ∨ b + 5 < k) : tWt b k j = false := by
  show (k == 63 || tTR b k j) = false
  rw [tTR_f h2]; simp [h]
theorem tWt_t {b k j : Nat} (h : b ≤ k) (h2 : k ≤ b + 5) : tWt b k j = true := by
  show (k == 63 || tTR b k j) = true
  rw [tTR_t h h2]; simp
def bkC (m : PMp) (w s j : Nat) : Nat := it (ph (rhM m w) (oe m w)) j s
def bkU (m : PMp) (w s j : Nat) : Bool := upJ (rhM m w) (oe m w) (kpF m) s j
theorem b2i_0 {b : Bool} : b2i b = 0 ↔ b = false := by cases b <;> decide
theorem walkTree_ev {a b s w : Nat} {m : PMp} (ha : RMs a) (hb : TRs b) (hm : PV m) (hc : cM M a m) (hd : dRow M m w) (hK : BkI m w s) (h0 : M.1 (b + 2) 0 = 0) : EvV (E0 L xs) (d + 3) m9_walkTree [.ref 1, .ref a, .int (nI s), .ref b] M (fun M' => Fr (tWt b) M M' ∧ cT M' b (bkT m w s)) := by
  have hN := MV_N hm
  have hE : m.1 ≤ 16 := hm.1
  have Ta := RMs_is (L := L) (xs := xs) ha
  have Tb := TRs_is (L := L) (xs := xs) hb
  have hb2 : 64 ≤ b ∧ b ≤ 76 := by rcases hb with rfl | rfl | rfl <;> omega
  have hab : a + 6 < b ∨ b + 5 < a := by
    rcases ha with rfl | rfl | rfl | rfl | rfl <;> rcases hb with rfl | rfl | rfl <;> omega
  have ha63 : a + 6 < 63 ∨ 63 < a := by rcases ha with rfl | rfl | rfl | rfl | rfl <;> omega
  obtain ⟨hsN, hK2⟩ := hK
  obtain ⟨tv, -⟩ := bkT_ok hm ⟨hsN, hK2⟩
  have hD : Dyck (stJ (rhM m w) (oe m w) (kpF m) s) (pE m / 2) := tv.2.1
  have n8 : pE m / 2 ≤ 8 := by show m.1 / 2 ≤ 8; omega
  have hcv : ∀ z, z < pN m → M.1 (a + 3) z = nI (pVo m z) := hc.2.2.2.2.2.2.1
  have e55 : gI M 55 (pVo m s) = nI (lv m w s) := hd _ (pVo_ltV hm hsN)
  refine Ev_of k9_walkTree rfl (Nat.le_of_ble_eq_true rfl) (b9_walkTree_0 Ta s rfl (by omega) (pVo m s) (hcv s hsN) (pVo_lt hm hsN) (fill_ev (n := 32) rfl (by decide)) (fun M1 h1 => b9_walkTree_38 Tb ?_))
  obtain ⟨f1, z1⟩ := h1
  rw [e55, show gI M a 0 = nI (pE m) from hc.1, half_e (show pE m < 2 ^ 31 by show m.1 < _; omega)]
  have F1 : Fr (tWt b) M M1 := Fr_mono f1 (fun k j q => tR1_f (fun e => by rw [e] at q; cases q))
  have CM : ∀ M2, Fr (tWt b) M M2 → cM M2 a m := fun M2 f => cM_fr hc f (fun k j h1 h2 => tWt_f (by omega) (by omega))
  have DR : ∀ M2, Fr (tWt b) M M2 → dRow M2 m w := fun M2 f v hv => (f.1 55 v (tWt_f (by decide) (by omega))).trans (hd v hv)
  suffices ho : ∀ (q i : Nat) (M2 : ME), i + q = 2 * (pE m / 2) → Fr (tWt b) M M2 → M2.1 b 0 = nI (pE m / 2) → (∀ j, j < i → M2.1 (b + 1) j = nI (stJ (rhM m w) (oe m w) (kpF m) s j)) → M2.1 (b + 2) 0 = 0 → (∀ j, j < i → bkU m w s j = true → M2.1 (b + 2) (cnB (bkU m w s) j + 1) = nI (lv m w (oe m w (bkC m w s j))) - nI (lv m w s)) → (∀ f, f < 32 → M2.1 63 f = b2i (anB (fun j => decide (kpF m (bkC m w s j) = f)) i)) → Wp (E0 L xs) (d + 3) m9_walkTree 47 [.ref 1, .ref a, .int (nI s), .ref b, .int (nI (pE m / 2)), .int (nI (lv m w s)), .int (nI (bkC m w s i)), .int (nI (cnB (bkU m w s) i)), .int (nI i), .null, .null] [] M2 (fun v' M' => v' = none ∧ (Fr (tWt b) M M' ∧ cT M' b (bkT m w s))) by
    refine ho _ 0 _ (Nat.zero_add _) (Fr_sI F1 (tWt_t (by omega) (by omega))) (sI_eq _ _ _ _) (fun j hj => absurd hj (Nat.not_lt_zero _)) ?_ (fun j hj => absurd hj (Nat.not_lt_zero _)) (fun f hf => ?_)
    · rw [sI_ne (Or.inl (by omega)), f1.1 _ _ (tR1_f (by omega))]; exact h0
    · rw [sI_ne (Or.inl (by omega))]; exact z1 f hf
  intro q
  induction q with
  | zero =>
    intro i M2 hi f2 a0 a1 a2 a3 a4
    have : i = 2 * (pE m / 2) := by omega
    have c0 : cT0 M2 b (bkT m w s) := by
      refine ⟨a0, fun j hj => a1 j (by have : j < 2 * (pE m / 2) := hj; omega), fun v hv => ?_⟩
      have hv' : v ≤ pE m / 2 := hv
      by_cases v0 : v = 0
      · rw [v0]; exact a2
      · have hcn : v - 1 < cnB (bkU m w s) (2 * (pE m / 2)) := by
          have := Dyck_ups hD
          rw [ups_c] at this
          have e : cnB (bkU m w s) (2 * (pE m / 2)) = pE m / 2 := this
          omega
        obtain ⟨j, j1, j2, j3⟩ := cn_hit hcn
        have ev : v = cnB (bkU m w s) j + 1 := by omega
        rw [ev, a3 j (by omega) j2]
        exact (lbJ_at (lev := lv m w) j1 j2).symm
    refine b9_walkTree_47 (fun _ => b9_walkTree_166 Tb (placeCorners_ev (d := d + 2) Tb tv c0) (fun M3 h3 => ?_)) (fun h => absurd (by rw [nI_dbl]; exact nI_le (by omega) (by omega)) h)
    have c0' : cT0 M3 b (bkT m w s) := cT0_fr c0 h3.1 (fun k j hk => tR2_f (by omega) (by omega))
    refine b9_walkTree_170 Tb (findHeirs_ev (d := d) Tb tv c0' h3.2) (fun M4 h4 => b9_walkTree_174 ⟨rfl, ?_, h4.2⟩)
    refine Fr_trans f2 (Fr_trans (Fr_mono h3.1 (fun k j q => tR2_f (fun e => ?_) (fun e => ?_))) (Fr_mono h4.1 (fun k j q => tR1_f (fun e => ?_))))
    · rw [e, tWt_t (by omega) (by omega)] at q; cases q
    · rw [e, tWt_t (by omega) (by omega)] at q; cases q
    · rw [e, tWt_t (by omega) (by omega)] at q; cases q
  | succ q ih =>
    intro i M2 hi f2 a0 a1 a2 a3 a4
    have hn0 : 0 < pE m / 2 := by omega
    obtain ⟨F, T, hs⟩ := hK2 hn0
    have hH : Hd m w (bkC m w s i) = true := ph_H T hs i
    have hcN := (Hd_iff.mp hH).1
    have hoH := (oe_all F hH).1
    have hoN := (Hd_iff.mp hoH).1
    have hc2 := CM M2 f2
    have hd2 := DR M2 f2
    have hfo : gI M2 (a + 4) (ox (bkC m w s i)) = nI (kpF m (bkC m w s i)) := hc2.2.2.2.2.2.2.2.1 _ (ox_lt hcN)
    have hf32 : kpF m (bkC m w s i) < 32 := by have := pFo_ltF hm (ox_lt hcN); have := pFn_le hm; unfold kpF; omega
    have i16 : i < 16 := by omega
    refine b9_walkTree_47 (fun h => absurd ((nI_leI (a := 2 * (pE m / 2)) (b := i) (by omega) (by omega)).mp (by rw [← nI_dbl]; exact h)) (by omega)) (fun _ => b9_walkTree_56 Ta (ox (bkC m w s i)) (nI_ox (by omega)) (by have : ox (bkC m w s i) < pN m := ox_lt hcN; omega) (otherEnd_ev (d := d + 1) ha hm hc2 hd2 hcN) (fun r M3 hr => ?_))
    obtain ⟨rfl, rfl⟩ := hr
    rw [hfo]
    have mk := a4 _ hf32
    have upE : bkU m w s i = !anB (fun j => decide (kpF m (bkC m w s j) = kpF m (bkC m w s i))) i := rfl
    -- from 143 on
    have tail : ∀ (M4 : ME) (c : Nat), Fr (tWt b) M M4 → M4.1 b 0 = nI (pE m / 2) → (∀ j, j < i + 1 → M4.1 (b + 1) j = nI (stJ (rhM m w) (oe m w) (kpF m) s j)) → M4.1 (b + 2) 0 = 0 → (∀ j, j < i + 1 → bkU m w s j = true → M4.1 (b + 2) (cnB (bkU m w s) j + 1) = nI (lv m w (oe m w (bkC m w s j))) - nI (lv m w s)) → (∀ f, f < 32 → M4.1 63 f = b2i (anB (fun j => decide (kpF m (bkC m w s j) = f)) i)) → c = cnB (bkU m w s) (i + 1) → Wp (E0 L xs) (d + 3) m9_walkTree 143 [.ref 1, .ref a, .int (nI s), .ref b, .int (nI (pE m / 2)), .int (nI (lv m w s)), .int (nI (bkC m w s i)), .int (nI c), .int (nI i), .int (nI (kpF m (bkC m w s i))), .int (nI (oe m w (bkC m w s i)))] [] M4 (fun v' M' => v' = none ∧ (Fr (tWt b) M M' ∧ cT M' b (bkT m w s))) := fun M4 c f4 g0 g1 g2 g3 g4 ec => by
      subst ec
      have f5 : Fr (tWt b) M (sI M4 63 (kpF m (bkC m w s i)) 1) := Fr_sI f4 rfl
      refine b9_walkTree_143 (kpF m (bkC m w s i)) rfl hf32 (nextDown_ev (d := d + 1) ha hm (CM _ f5) (DR _ f5) hoN) (fun r M5 hr => b9_walkTree_158 ?_)
      obtain ⟨rfl, rfl⟩ := hr
      rw [nI_1]
      have e : rhM m w (oe m w (bkC m w s i)) = bkC m w s (i + 1) := by unfold bkC; rw [it_succ']; rfl
      rw [e]
      refine ih (i + 1) _ (by omega) f5 ((sI_ne (Or.inl (by omega))).trans g0) (fun j hj => (sI_ne (Or.inl (by omega))).trans (g1 j hj)) ((sI_ne (Or.inl (by omega))).trans g2) (fun j hj hu => (sI_ne (Or.inl (by omega))).trans (g3 j hj hu)) (fun f hf => ?_)
      rw [sI_at]
      show _ = b2i (anB (fun j => decide (kpF m (bkC m w s j) = f)) i || decide (kpF m (bkC m w s i) = f))
      by_cases ef : f = kpF m (bkC m w s i)
      · rw [if_pos ⟨rfl, ef⟩, decide_eq_true ef.symm, Bool.or_true]; rfl
      · rw [if_neg (fun z => ef z.2), decide_eq_false (fun z => ef z.symm), Bool.or_false]
        exact g4 f hf
    have ecn : cnB (bkU m w s) (i + 1) = cnB (bkU m w s) i + (if bkU m w s i = true then 1 else 0) := rfl
    have stE : stJ (rhM m w) (oe m w) (kpF m) s i = if bkU m w s i = true then 1 else 0 := rfl
    refine b9_walkTree_74 Tb (kpF m (bkC m w s i)) rfl hf32 (fun y => b9_walkTree_96 ?_) (fun y => b9_walkTree_92 ?_)
    · -- met before
      have hu : bkU m w s i = false := by
        rw [upE]
        cases z : anB (fun j => decide (kpF m (bkC m w s j) = kpF m (bkC m w s i))) i with
        | true => rfl
        | false => rw [show gI M3 63 _ = _ from mk, z] at y; exact absurd rfl y
      rw [hu] at ecn stE
      refine b9_walkTree_97 (n1 := 16) Tb.2.1 (by decide) i rfl i16 (kpF m (bkC m w s i)) rfl hf32 (fun z => tail _ _ (Fr_sI f2 (tWt_t (by omega) (by omega))) ((sI_ne (Or.inl (by omega))).trans a0) (fun j hj => ?_) ((sI_ne (Or.inl (by omega))).trans a2) (fun j hj hju => ?_) (fun f hf => (sI_ne (Or.inl (by omega))).trans (a4 f hf)) (by rw [ecn]; rfl)) (fun z => ?_)
      · rw [sI_at]
        by_cases ej : j = i
        · rw [if_pos ⟨rfl, ej⟩, ej, stE]; rfl
        · rw [if_neg (fun z => ej z.2)]; exact a1 j (by omega)
      · rw [sI_ne (Or.inl (by omega))]
        by_cases ej : j = i
        · rw [ej, hu] at hju; cases hju
        · exact a3 j (by omega) hju
      · exact absurd (by rw [← z]; exact (sI_ne (Or.inl (by omega))).symm) y
    · -- new
      have hu : bkU m w s i = true := by
        rw [upE]
        cases z : anB (fun j => decide (kpF m (bkC m w s j) = kpF m (bkC m w s i))) i with
        | false => rfl
        | true => rw [show gI M3 63 _ = _ from mk, z] at y; exact absurd y (by decide)
      rw [hu] at ecn stE
      have hlt : cnB (bkU m w s) i < pE m / 2 := by
        have := Dyck_lt hD (show i < 2 * (pE m / 2) by omega) (by rw [stE]; rfl)
        rw [ups_c] at this
        exact this
      refine b9_walkTree_97 (n1 := 16) Tb.2.1 (by decide) i rfl i16 (kpF m (bkC m w s i)) rfl hf32 (fun z => ?_) (fun z => ?_)
      · exact absurd ((sI_ne (Or.inl (by omega))).trans y) z
      · generalize hM4 : sI M3 (b + 1) i 1 = M4
        have f4 : Fr (tWt b) M M4 := by subst hM4; exact Fr_sI f2 (tWt_t (by omega) (by omega))
        refine b9_walkTree_108 (fun h => absurd ((nI_leI (a := pE m / 2) (b := cnB (bkU m w s) i) (by omega) (by omega)).mp h) (by omega)) (fun _ => ?_)
        have hv4 : gI M4 (a + 3) (oe m w (bkC m w s i)) = nI (pVo m (oe m w (bkC m w s i))) := (CM _ f4).2.2.2.2.2.2.1 _ hoN
        have hl4 : gI M4 55 (pVo m (oe m w (bkC m w s i))) = nI (lv m w (oe m w (bkC m w s i))) := DR _ f4 _ (pVo_ltV hm hoN)
        refine b9_walkTree_115 Tb Ta (oe m w (bkC m w s i)) rfl (by omega) (pVo m (oe m w (bkC m w s i))) hv4 (pVo_lt hm hoN) (cnB (bkU m w s) i + 1) (nI_1 _) (by omega) ?_
        rw [hl4, nI_1]
        refine tail _ _ (Fr_sI f4 (tWt_t (by omega) (by omega))) ?_ (fun j hj => ?_) ?_ (fun j hj hju => ?_) (fun f hf => ?_) (by rw [ecn]; rfl)
        · rw [sI_ne (Or.inl (by omega))]; subst hM4; rw [sI_ne (Or.inl (by omega))]; exact a0
        · rw [sI_ne (Or.inl (by omega))]; subst hM4; rw [sI_at]
          by_cases ej : j = i
          · rw [if_pos ⟨rfl, ej⟩, ej, stE]; rfl
          · rw [if_neg (fun z => ej z.2)]; exact a1 j (by omega)
        · rw [sI_ne (Or.inr (by omega))]; subst hM4; rw [sI_ne (Or.inl (by omega))]; exact a2
        · rw [sI_at]
          by_cases ej : j = i
          · rw [if_pos ⟨rfl, by rw [ej]⟩, ej]
          · have := cnB_s (P := bkU m w s) (show j < i by omega) hju
            rw [if_neg (fun z => by have := z.2; omega)]; subst hM4; rw [sI_ne (Or.inl (by omega))]
            exact a3 j (by omega) hju
        · rw [sI_ne (Or.inl (by omega))]; subst hM4; rw [sI_ne (Or.inl (by omega))]; exact a4 f hf
end CBK
