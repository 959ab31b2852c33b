/-! the draft; mirrored maps; alike -/
section CQ5
variable {L : Nat} {xs : Nat → Int32} {d : Nat} {tab : Nat → Nat → Int64} {M : ME} {st : ST}
def tCl (a : Nat) (k j : Nat) : Bool := tSc k j || tRM a k j
theorem tCl_sc {a : Nat} {M M' : ME} (f : Fr tSc M M') : Fr (tCl a) M M' := Fr_mono f (fun k j q => by
  have q2 : (tSc k j || tRM a k j) = false := q
  rw [Bool.or_eq_false_iff] at q2; exact q2.1)
theorem tCl_rm {a : Nat} {M M' : ME} (f : Fr (tRM a) M M') : Fr (tCl a) M M' := Fr_mono f (fun k j q => by
  have q2 : (tSc k j || tRM a k j) = false := q
  rw [Bool.or_eq_false_iff] at q2; exact q2.2)
theorem tCl_f {a k j : Nat} (h : (k < 12 ∨ 17 < k) ∧ (k < 54 ∨ 63 < k)) (h2 : k < a ∨ a + 6 < k) : tCl a k j = false := by
  show (tSc k j || tRM a k j) = false
  rw [tSc_f h, tRM_f h2]; rfl
theorem RMs_apart {a b : Nat} (ha : RMs a) (hb : RMs b) (h : a ≠ b) : a + 6 < b ∨ b + 6 < a := by
  rcases ha with rfl | rfl | rfl | rfl | rfl <;> rcases hb with rfl | rfl | rfl | rfl | rfl <;> omega
theorem RMs_sc {a k : Nat} (ha : RMs a) (h1 : a ≤ k) (h2 : k ≤ a + 6) : (k < 12 ∨ 17 < k) ∧ (k < 54 ∨ 63 < k) ∧ (k < 64 ∨ 81 < k) ∧ (k < 18 ∨ 53 < k) ∧ 4 < k ∧ k < 110 := by
  rcases ha with rfl | rfl | rfl | rfl | rfl <;> omega
theorem tCl_o {a b k j : Nat} (ha : RMs a) (hb : RMs b) (h : a ≠ b) (h1 : b ≤ k) (h2 : k ≤ b + 6) : tCl a k j = false := by
  have q := RMs_sc hb h1 h2
  refine tCl_f ⟨q.1, q.2.1⟩ ?_
  rcases RMs_apart ha hb h with z | z <;> omega
/-- scratch rows and the draft may change -/
theorem ClsS_cl {a : Nat} (ha : RMs a) (hne : ∀ s, s < 4 → M.2.2 4 s ≠ a) {M' : ME} (h : ClsS tab M st) (f : Fr (tCl a) M M') : ClsS tab M' st := by
  have e : ∀ k, (k < 12 ∨ 17 < k) ∧ (k < 54 ∨ 63 < k) → (k < a ∨ a + 6 < k) → M'.1 k = M.1 k := fun k hk hk2 => funext fun j => f.1 k j (tCl_f hk hk2)
  have ea : ∀ k, k ≤ 4 ∨ (64 ≤ k ∧ k ≤ 81) ∨ (18 ≤ k ∧ k ≤ 53) → (k < a ∨ a + 6 < k) := fun k hk => by
    rcases ha with rfl | rfl | rfl | rfl | rfl <;> omega
  have e12 : ∀ j, j < 5 → M'.1 12 j = M.1 12 j := fun j hj => f.1 12 j (by
    show (Nat.ble 8 j || tRM a 12 j) = false
    rw [tRM_f (by rcases ha with rfl | rfl | rfl | rfl | rfl <;> omega), Bool.or_false]
    cases q : Nat.ble 8 j with
    | false => rfl
    | true => exact absurd (Nat.le_of_ble_eq_true q) (by omega))
  have er : M'.2 = M.2 := f.2
  obtain ⟨h1, h2, ⟨a0, a1, a2, a3, a4⟩, h4, ⟨⟨g1, g2, g3, g4⟩, g5⟩, h6, c, c1, c2, c3, c4, c5⟩ := h
  refine ⟨by rw [e 1 (by omega) (ea 1 (by omega))]; exact h1, by rw [e 2 (by omega) (ea 2 (by omega))]; exact h2, ⟨by rw [e12 0 (by omega)]; exact a0, by rw [e12 1 (by omega)]; exact a1, by rw [e12 2 (by omega)]; exact a2, by rw [e12 3 (by omega)]; exact a3, by rw [e12 4 (by omega)]; exact a4⟩, fun s hs => ⟨by rw [er]; exact (h4 s hs).1, cT_eq (h4 s hs).2 (fun k hk1 hk => e k (by omega) (ea k (by omega)))⟩, ⟨⟨by rw [er]; exact g1, by rw [er]; exact g2, by rw [er]; exact g3, by rw [er]; exact g4⟩, fun s hs => ?_⟩, fun l hl => by rw [e (36 + 1 + l) (by omega) (ea _ (by omega))]; exact h6 l hl, c, c1, c2, by rw [e 18 (by omega) (ea _ (by omega))]; exact c3, fun n hn => by rw [er]; exact c4 n hn, fun n hn hn2 => by rw [er]; exact c5 n hn hn2⟩
  rw [er]
  refine cM_eq (g5 s hs) (fun k hk1 hk => ?_)
  have q := RMs_sc (g1 s hs) hk1 hk
  refine e k ⟨q.1, q.2.1⟩ ?_
  rcases RMs_apart ha (g1 s hs) (Ne.symm (hne s hs)) with z | z <;> omega
theorem tCl_C {a : Nat} (ha : RMs a) {M' : ME} (f : Fr (tCl a) M M') : FrC M M' := FrC_of f (fun k j hk => tCl_f (by omega) (by have := RMs_lt ha; omega))
/-- what the picture says of the draft -/
theorem cl_dr (hS : ClsS tab M st) : RMs (M.2.2 1 4) ∧ (∀ s, s < 4 → M.2.2 4 s ≠ M.2.2 1 4) ∧ M.2.2 1 4 ≠ 0 := by
  have h := hS.2.2.2.2.1.1
  exact ⟨h.2.1, h.2.2.2, by have := RMs_lt h.2.1; omega⟩
theorem mirrorIntoDraft_ev {a b : Nat} {m : PMp} (ha : RMs a) (hb : RMs b) (hab : b ≠ a) (hdr : M.2.2 1 4 = b) (hm : PV m) (hc : cM M a m) : EvV (E0 L xs) (d + 1) m9_mirrorIntoDraft [.ref 1, .ref a] M (fun M' => Fr (tRM b) M M' ∧ cM0 M' b (mir m)) := by
  have T := RMs_is (L := L) (xs := xs) ha
  have hN := MV_N hm
  have hap := RMs_apart ha hb (Ne.symm hab)
  have hb0 : b ≠ 0 := by have := RMs_lt hb; omega
  have TB' := RMs_is (L := L) (xs := xs) hb
  have hdr' : gR M 1 4 = b := hdr
  refine Ev_of k9_mirrorIntoDraft rfl (Nat.le_of_ble_eq_true rfl) (b9_mirrorIntoDraft_0 (by rw [hdr']; exact hb0) T (by rw [hdr']; exact TB') (by rw [hdr']; exact hb0) ?_)
  rw [hdr']
  have key : ∀ (q i : Nat) (M1 : ME), i + q = pN m → Fr (tRM b) M M1 → M1.1 b 0 = nI (pE m) → M1.1 b 1 = nI (pR m) → (∀ x, x < i → M1.1 (b + 1) (pX m x) = nI x) → Wp (E0 L xs) (d + 1) m9_mirrorIntoDraft 24 [.ref 1, .ref a, .int (nI i)] [] M1 (fun v M' => v = none ∧ (Fr (tRM b) M M' ∧ cM0 M' b (mir m))) := by
    intro q
    induction q with
    | zero =>
      intro i M1 hi f g0 g1 g2
      have hc1 : cM M1 a m := cM_fr hc f (fun k j q1 q2 => tRM_f (by omega))
      have e0 : 2 * gI M1 a 0 = nI (pN m) := by rw [show gI M1 a 0 = _ from hc1.1]; exact pk_mul 2 _
      have : i = pN m := by omega
      subst this
      refine b9_mirrorIntoDraft_24 T (fun _ => b9_mirrorIntoDraft_53 ⟨rfl, f, g0, g1, fun y hy => ?_⟩) (fun h => absurd (by rw [e0]; exact nI_le (Nat.le_refl _) (by omega)) h)
      obtain ⟨x, hx, rfl⟩ := perm_sur hm.2.1 (show y < pN m from hy)
      rw [g2 x hx]
      show _ = nI (ivF (pX m) (pN m) (pX m x))
      rw [iv_l hm.2.1 hx]
    | succ q ih =>
      intro i M1 hi f g0 g1 g2
      have hc1 : cM M1 a m := cM_fr hc f (fun k j q1 q2 => tRM_f (by omega))
      have e0 : 2 * gI M1 a 0 = nI (pN m) := by rw [show gI M1 a 0 = _ from hc1.1]; exact pk_mul 2 _
      have hx := hm.2.1.1 i (by omega)
      have e1 : gI M1 (a + 1) i = nI (pX m i) := hc1.2.2.2.2.1 i (by omega)
      have ed : gR M1 1 4 = b := by show M1.2.2 1 4 = b; rw [f.2]; exact hdr
      refine b9_mirrorIntoDraft_24 T (fun h => absurd ((nI_leI (a := pN m) (b := i) (by omega) (by omega)).mp (by rw [← e0]; exact h)) (by omega)) (fun _ => b9_mirrorIntoDraft_32 (by rw [ed]; exact hb0) (by rw [ed]; exact TB') T i rfl (by omega) (pX m i) e1 (by omega) ?_)
      rw [ed, nI_1]
      refine ih (i + 1) _ (by omega) (Fr_sI f (tRM_t (by omega) (by omega))) ((sI_ne (Or.inl (by omega))).trans g0) ((sI_ne (Or.inl (by omega))).trans g1) (fun x hxi => ?_)
      rw [sI_at]
      by_cases e : x = i
      · rw [e, if_pos ⟨rfl, rfl⟩]
      · rw [if_neg (fun z => e (hm.2.1.2 x i (by omega) (by omega) z.2))]
        exact g2 x (by omega)
  refine key (pN m) 0 _ (by omega) (Fr_sI (Fr_sI (Fr_refl _ _) (tRM_t (by omega) (by omega))) (tRM_t (by omega) (by omega))) ?_ ?_ (fun x hx => absurd hx (Nat.not_lt_zero _))
  · rw [sI_ne (Or.inr (by decide)), sI_eq]; exact hc.1
  · rw [sI_eq]
    exact (sI_ne (Or.inl (by omega))).trans hc.2.1
theorem tCl_dr {a : Nat} {M M' : ME} (f : Fr (tCl a) M M') : M'.2.2 = M.2.2 := by rw [f.2]
theorem c_alike (hS : ClsS tab M st) (hok : StOK st) {x y w : Int32} : EvI (E0 L xs) (d + 6) m9_alike [.ref 1, .int x, .int y, .int w] M (Cq tab M st (aAlike st x y w)) := by
  have no : ¬ (vp_in x 4 ∧ vp_in y 4 ∧ vp_in w 3) → Wp (E0 L xs) (d + 6) m9_alike 23 [.ref 1, .int x, .int y, .int w, .null, .null] [] M (fun v' M' => ∃ r, v' = some (.int r) ∧ Cq tab M st (aAlike st x y w) r M') := fun h => b9_alike_23 ⟨_, rfl, by rw [show aAlike st x y w = -1 from cIf_neg h _ _]; exact Cq_same hS⟩
  refine Ev_of k9_alike rfl (Nat.le_of_ble_eq_true rfl) (b9_alike_0 (fun h => no (fun q => h q.1)) (fun h1 => b9_alike_7 (fun h => no (fun q => h q.2.1)) (fun h2 => b9_alike_14 (fun h => no (fun q => (in_lt (by decide) q.2.2).1 h)) (fun h3 => b9_alike_18 (fun h4 => ?_) (fun h => no (fun q => ?_))))))
  rotate_left
  · have := (in_lt (by decide) q.2.2).2
    rw [Int32.lt_iff_toInt_lt] at this
    rw [Int32.le_iff_toInt_le] at h
    have e1 : (nI 3).toInt = 3 := rfl
    have e2 : (2 : Int32).toInt = 2 := rfl
    omega
  have hw : vp_in w 3 := by
    rw [Int32.le_iff_toInt_le] at h4
    rw [Int32.lt_iff_toInt_lt] at h3
    have e1 : (0 : Int32).toInt = 0 := rfl
    have e2 : (2 : Int32).toInt = 2 := rfl
    exact vp_in_iff.mpr ⟨by omega, by omega⟩
  rw [show aAlike st x y w = _ from cIf_pos ⟨h1, h2, hw⟩ _ _]
  obtain ⟨j, hj, rfl, ej, hR, hc, hn0⟩ := cl_map hS h1
  obtain ⟨i, hi, rfl, ei, hR', hc', hn0'⟩ := cl_map hS h2
  rw [ej, ei]
  have hm := hok.2.2 j hj
  have hm' := hok.2.2 i hi
  have hN := MV_N hm.1
  have hN' := MV_N hm'.1
  have hEl : (sM st j).1 ≤ 16 := hm.1.1
  have hEl' : (sM st i).1 ≤ 16 := hm'.1.1
  have T := RMs_is (L := L) (xs := xs) hR
  have T' := RMs_is (L := L) (xs := xs) hR'
  obtain ⟨d1, d2, d3⟩ := cl_dr hS
  have e0 : gI M (gR M 4 j) 0 = nI (pE (sM st j)) := hc.1
  have e0' : gI M (gR M 4 i) 0 = nI (pE (sM st i)) := hc'.1
  refine b9_alike_25 j rfl hj hn0 i rfl hi hn0' T T' (fun h => ?_) (fun h => b9_alike_54 ⟨_, rfl, ?_⟩)
  rotate_left
  · rw [e0, e0'] at h
    unfold alk
    rw [if_pos (fun z => h (by rw [z]))]
    exact Cq_same hS
  rw [e0, e0'] at h
  have hE : pE (sM st j) = pE (sM st i) := (nI_eq (show (sM st j).1 < _ by omega) (show (sM st i).1 < _ by omega)).mp h
  have hNN : pN (sM st j) = pN (sM st i) := by show 2 * (sM st j).1 = 2 * (sM st i).1; rw [show (sM st j).1 = (sM st i).1 from hE]
  have e1 : gI M (gR M 4 j) 1 = nI (pR (sM st j)) := hc.2.1
  refine b9_alike_56 (R' := fun M2 => Fr (tWc 61) M M2 ∧ (0 < pE (sM st j) → ∀ i, i < (cdL (sM st j) (pR (sM st j))).length → M2.1 61 i = cdV (sM st j) (pR (sM st j)) i)) T (by rw [e1]; exact writeCode_ev (d := d + 2) hR (Or.inl rfl) hm.1 hc (rt_lt hm.1)) (fun M2 h5 => ?_)
  have hc2 : cM M2 (gR M 4 i) (sM st i) := cM_fr hc' h5.1 (fun k j q1 q2 => tWc_f hR' (Or.inl rfl) q1 q2)
  have h6 : cd1 M2 (sM st j) := fun hE i hi => h5.2 hE i (by
    rcases rt_lt hm.1 with q | q
    · rw [cdL_len hm.1 hm.2.1 q]; exact hi
    · omega)
  have f2 := tWc_sc (Or.inl rfl) h5.1
  have bb : ∀ {b : Bool} {M3 : ME}, Fr (tCl (M.2.2 1 4)) M M3 → Cq tab M st (b2i b) (b2i b) M3 := fun f => ⟨rfl, ClsS_cl d1 d2 hS f, tCl_C d1 f⟩
  -- no edges: alike
  have sm0 : ∀ {m m' : PMp} {x y : Nat}, pE m' = 0 → smC m x m' y (pN m') = true := fun {m m' x y} h => alB_iff.mpr (fun k hk => by have : k < 2 * m'.1 := hk; have h' : m'.1 = 0 := h; omega)
  refine b9_alike_74 (fun h7 => ?_) (fun h7 => ?_)
  · -- any root
    have last : ∀ (M3 : ME) (b : Nat) (m' : PMp), RMs b → PV m' → Conn m' → cM M3 b m' → cd1 M3 (sM st j) → pE (sM st j) = pE m' → Fr (tCl (M.2.2 1 4)) M M3 → alk (sM st j) (sM st i) w = (if pE (sM st j) = 0 then 1 else b2i (decide (0 < rtC (sM st j) m' (pN m')))) → Wp (E0 L xs) (d + 6) m9_alike 122 [.ref 1, .int (nI j), .int (nI i), .int w, .ref (gR M 4 j), .ref b] [] M3 (fun v' M' => ∃ r, v' = some (.int r) ∧ Cq tab M st (alk (sM st j) (sM st i) w) r M') := by
      intro M3 b m' hb hv hcn hc3 hd hEE f ea
      rw [ea]
      have hEl2 : m'.1 ≤ 16 := hv.1
      have e3 : gI M3 b 0 = nI (pE m') := hc3.1
      refine b9_alike_122 (RMs_is hb) (fun h8 => b9_alike_139 (b9_alike_144 ⟨_, rfl, ?_⟩)) (fun h8 => b9_alike_130 (rootingsOfOneCode_ev (d := d) hb hv hcn hc3 hd hEE) (fun r M4 hr => ?_))
      · rw [e3] at h8
        have z : pE m' = 0 := (nI_eq (b := 0) (show m'.1 < _ by omega) (by decide)).mp h8
        rw [if_pos (hEE.trans z)]
        exact bb (b := true) f
      · obtain ⟨rfl, h9⟩ := hr
        rw [e3] at h8
        rw [if_neg (fun z => h8 (by rw [← hEE, z]; rfl))]
        have f4 := Fr_trans f (tCl_sc (tWc_sc (Or.inr rfl) h9))
        have hle := rtC_le (sM st j) m' (pN m')
        have hN2 := MV_N hv
        by_cases z : 0 < rtC (sM st j) m' (pN m')
        · rw [decide_eq_true z]
          exact b9_alike_136 (fun h => absurd ((nI_leI (b := 0) (by omega) (by decide)).mp h) (by omega)) (fun _ => b9_alike_139 (b9_alike_144 ⟨_, rfl, bb (b := true) f4⟩))
        · rw [decide_eq_false z]
          exact b9_alike_136 (fun _ => b9_alike_143 (b9_alike_144 ⟨_, rfl, bb (b := false) f4⟩)) (fun h => absurd ((nI_leI (b := 0) (by omega) (by decide)).mpr (by omega)) h)
    refine b9_alike_98 (fun h8 => last M2 _ _ hR' hm'.1 hm'.2.1 hc2 h6 hE (tCl_sc f2) ?_) (fun h8 => b9_alike_103 (mirrorIntoDraft_ev (d := d + 4) (b := M.2.2 1 4) hR' d1 (Ne.symm (d2 i hi)) (by rw [h5.1.2]) hm'.1 hc2) (fun M3 h9 => ?_))
    · unfold alk
      rw [if_neg (not_not_intro hE), if_neg h7, if_neg h8]
    · have ed : gR M3 1 4 = M.2.2 1 4 := by show M3.2.2 1 4 = _; rw [h9.1.2, h5.1.2]
      refine b9_alike_109 (R' := fun M4 => Fr (tRM (M.2.2 1 4)) M3 M4 ∧ cM M4 (M.2.2 1 4) (mir (sM st i))) (by rw [ed]; exact d3) (by rw [ed]; exact RMs_is d1) (by rw [ed]; exact numberRounds_ev (d := d + 3) (RMs_is d1) (mir_PV hm'.1) h9.2) (fun M4 h10 => b9_alike_116 (by rw [show gR M4 1 4 = M.2.2 1 4 by show M4.2.2 1 4 = _; rw [h10.1.2]; exact ed]; exact d3) ?_)
      rw [show gR M4 1 4 = M.2.2 1 4 by show M4.2.2 1 4 = _; rw [h10.1.2]; exact ed]
      have f4 : Fr (tCl (M.2.2 1 4)) M M4 := Fr_trans (tCl_sc f2) (Fr_trans (tCl_rm h9.1) (tCl_rm h10.1))
      refine last M4 _ _ d1 (mir_PV hm'.1) (mir_Conn hm'.1 hm'.2.1) h10.2 ?_ hE f4 ?_
      · intro hE2 k hk
        rw [h10.1.1 61 k (tRM_f (by rcases d1 with q | q | q | q | q <;> rw [q] <;> omega)), h9.1.1 61 k (tRM_f (by rcases d1 with q | q | q | q | q <;> rw [q] <;> omega))]
        exact h6 hE2 k hk
      · unfold alk
        rw [if_neg (not_not_intro hE), if_neg h7, if_pos h8]
        rfl
  · have e3 : gI M2 (gR M 4 i) 1 = nI (pR (sM st i)) := hc2.2.1
    refine b9_alike_78 (R' := fun r M' => r = b2i (smC (sM st j) (pR (sM st j)) (sM st i) (pR (sM st i)) (pN (sM st i))) ∧ Fr (tWc 62) M2 M') T' (by rw [e3]; exact hasOneCode_ev (d := d + 1) hR' hm'.1 hm'.2.1 hc2 h6 hE (rt_lt hm'.1)) (fun r M3 hr => ?_)
    obtain ⟨rfl, h8⟩ := hr
    have f3 : Fr (tCl (M.2.2 1 4)) M M3 := tCl_sc (Fr_trans f2 (tWc_sc (Or.inr rfl) h8))
    have ea : alk (sM st j) (sM st i) w = b2i (smC (sM st j) (pR (sM st j)) (sM st i) (pR (sM st i)) (pN (sM st i))) := by
      unfold alk
      rw [if_neg (not_not_intro hE), if_pos h7]
      by_cases z : pE (sM st j) = 0
      · rw [if_pos z, sm0 (hE.symm.trans z)]; rfl
      · rw [if_neg z]
    rw [ea]
    cases smC (sM st j) (pR (sM st j)) (sM st i) (pR (sM st i)) (pN (sM st i)) with
    | true => exact b9_alike_89 (fun h => absurd h (by decide)) (fun _ => b9_alike_92 (b9_alike_97 ⟨_, rfl, bb (b := true) f3⟩))
    | false => exact b9_alike_89 (fun _ => b9_alike_96 (b9_alike_97 ⟨_, rfl, bb (b := false) f3⟩)) (fun h => absurd rfl h)
end CQ5
