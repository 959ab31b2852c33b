/-! the class: map -/
section CMP
variable {L : Nat} {xs : Nat → Int32} {d : Nat} {tab : Nat → Nat → Int64} {M : ME} {st : ST} {s : RSt} {p : Nat}
theorem half_e {n : Nat} (h : n < 2 ^ 31) : nI n / 2 = nI (n / 2) := pk_div (a := n) (d := 2) h (by decide) (by decide)
theorem copyTo_ev {b len : Nat} (hb : RMs b) (hI : RI s p) (hf : qF (endS s len) = none) (hR : RDC M (endS s len)) : EvV (E0 L xs) d m3_copyTo [.ref 12, .ref b] M (fun M' => Fr (tRM b) M M' ∧ cM0 M' b (mpO (endS s len))) := by
  obtain ⟨hP, hN⟩ := mpO_PV hI hf
  obtain ⟨ee, h1, h2, h3, h4⟩ := endS_ok hI hf
  have hI2 := eN_RI hI
  rw [← ee] at hI2 h1 h2 h3 h4
  generalize endS s len = t at *
  have hl := toL_len hI2
  have T := RMs_is (L := L) (xs := xs) hb
  have hb2 := RMs_lt hb
  have hb3 : b ≠ 12 ∧ b + 1 ≠ 13 ∧ b ≠ 13 ∧ b + 1 ≠ 12 := by rcases hb with rfl | rfl | rfl | rfl | rfl <;> decide
  obtain ⟨w1, w2, w3, w4, w5⟩ := hR.2.2.2 hf
  have e8 : M.1 12 8 = nI (toL t).length := hR.2.2.1
  refine Ev_of k3_copyTo rfl (Nat.le_of_ble_eq_true rfl) (b3_copyTo_0 T ?_)
  have nx : ∀ x, x < (toL t).length → M.1 13 x = nI (rX (qR t) x) := fun x hx => by
    have hm := (((allT_iff hI2.1).mp h4).1 x).mpr hx
    have et : toL t = (qR t).flatten := by unfold toL; rw [h3]; rfl
    have hn : (qR t).flatten.Nodup := by rw [← et]; exact hI2.1
    rw [et] at hm
    obtain ⟨r, hr, hxr⟩ := List.mem_flatten.mp hm
    rw [rX_eq hn hr hxr]
    exact w5 r hr x hxr
  suffices ho : ∀ (q x : Nat) (M1 : ME), x + q = (toL t).length → Fr (tRM b) M M1 → M1.1 b 0 = nI ((toL t).length / 2) → M1.1 b 1 = nI 0 → (∀ i, i < x → M1.1 (b + 1) i = nI (rX (qR t) i)) → Wp (E0 L xs) d m3_copyTo 17 [.ref 12, .ref b, .int (nI x)] [] M1 (fun v' M' => v' = none ∧ (Fr (tRM b) M M' ∧ cM0 M' b (mpO t))) by
    refine ho (toL t).length 0 _ (by omega) (Fr_sI (Fr_sI (Fr_refl _ _) (tRM_t (by omega) (by omega))) (tRM_t (by omega) (by omega))) ?_ (sI_eq _ _ _ _) (fun i hi => by omega)
    rw [sI_ne (Or.inr (by decide)), sI_eq, show gI M 12 8 = _ from e8]
    exact half_e (by omega)
  intro q
  induction q with
  | zero =>
    intro x M1 hx f a0 a1 a2
    have g8 : gI M1 12 8 = nI (toL t).length := by
      show M1.1 12 8 = _
      rw [f.1 12 8 (tRM_f (by rcases hb with rfl | rfl | rfl | rfl | rfl <;> omega))]; exact e8
    refine b3_copyTo_17 (fun _ => b3_copyTo_43 ⟨rfl, f, a0, a1, fun i hi => a2 i ?_⟩) (fun h => absurd (by rw [g8]; exact nI_le (by omega) (by omega)) h)
    rw [hN] at hi; omega
  | succ q ih =>
    intro x M1 hx f a0 a1 a2
    have hb12 : 12 < b ∨ b + 6 < 12 := by rcases hb with rfl | rfl | rfl | rfl | rfl <;> omega
    have hb13 : 13 < b ∨ b + 6 < 13 := by rcases hb with rfl | rfl | rfl | rfl | rfl <;> omega
    have g8 : gI M1 12 8 = nI (toL t).length := by
      show M1.1 12 8 = _
      rw [f.1 12 8 (tRM_f hb12)]; exact e8
    have g13 : gI M1 13 x = nI (rX (qR t) x) := by
      show M1.1 13 x = _
      rw [f.1 13 x (tRM_f hb13)]; exact nx x (by omega)
    refine b3_copyTo_17 (fun h => absurd ((nI_leI (a := (toL t).length) (b := x) (by omega) (by omega)).mp (by rw [← g8]; exact h)) (by omega)) (fun _ => b3_copyTo_25 T x rfl (by omega) x rfl (by omega) ?_)
    rw [g13, nI_1]
    refine ih (x + 1) _ (by omega) (Fr_sI f (tRM_t (by omega) (by omega))) ((sI_ne (Or.inl (by omega))).trans a0) ((sI_ne (Or.inl (by omega))).trans a1) (fun i hi => ?_)
    by_cases e : i = x
    · rw [e, sI_eq]
    · rw [sI_ne (Or.inr e)]; exact a2 i (by omega)
theorem faultOfDraft_ev {b : Nat} {m : PMp} (hb : RMs b) (hdr : M.2.2 1 4 = b) (hm : PV m) (hc : cM M b m) : EvI (E0 L xs) (d + 2) m9_faultOfDraft [.ref 1] M (fun r M' => r = (if lost m = true then 5 else if pVn m + pFn m = pE m + 2 then 0 else 6) ∧ Fr tDs M M') := by
  have hb0 : b ≠ 0 := by have := RMs_lt hb; omega
  have gr : ∀ M1 : ME, Fr tDs M M1 → gR M1 1 4 = b := fun M1 f => by show M1.2.2 1 4 = b; rw [f.2]; exact hdr
  have g0 : gR M 1 4 = b := hdr
  refine Ev_of k9_faultOfDraft rfl (Nat.le_of_ble_eq_true rfl) (b9_faultOfDraft_0 (R' := fun M1 => Fr tDs M M1 ∧ (∀ v, v < 32 → M1.1 55 v = dsV m 0 v) ∧ M1.1 54 1 = nI (rcN m 0)) (by rw [g0]; exact hb0) (by rw [g0]; exact measure_ev (d := d) hb (pVn_pos hm) hm hc) (fun M1 h1 => ?_))
  obtain ⟨f, -, hr⟩ := h1
  have g1 := gr M1 f
  have hc1 := cM_fr hc f (fun k j a b => tDs_f hb a b)
  have hV := pVn_le hm
  have hF := pFn_le hm
  have hE : m.1 ≤ 16 := hm.1
  have e2 : gI M1 b 2 = nI (pVn m) := hc1.2.2.1
  have e3 : gI M1 b 3 = nI (pFn m) := hc1.2.2.2.1
  have e0 : gI M1 b 0 = nI (pE m) := hc1.1
  have hrl : rcN m 0 ≤ 32 := cnB_le _ _
  have g54 : gI M1 54 1 = nI (rcN m 0) := hr
  have key : pVn m ≤ rcN m 0 ↔ lost m = false := by
    constructor
    · intro h
      exact lost_f.mpr (cnB_full (fun v hv => rch_ltV hm (pVn_pos hm) hv) h)
    · intro h
      rw [rcN_conn hm (pVn_pos hm) (lost_f.mp h)]; exact Nat.le_refl _
  refine b9_faultOfDraft_12 (by rw [g1]; exact hb0) (by rw [g1]; exact RMs_is hb) (fun z => ?_) (fun z => b9_faultOfDraft_29 ⟨_, rfl, ?_, f⟩)
  · rw [g1, e2, g54] at z
    have hl := key.mp ((nI_leI (a := pVn m) (b := rcN m 0) (by omega) (by omega)).mp z)
    rw [hl]
    show Wp (E0 L xs) (d + 2) m9_faultOfDraft 31 [.ref 1] [] M1 _
    refine b9_faultOfDraft_31 (by rw [g1]; exact hb0) (by rw [g1]; exact RMs_is hb) (by rw [g1]; exact hb0) (by rw [g1]; exact hb0) (fun y => b9_faultOfDraft_62 (b9_faultOfDraft_64 ⟨_, rfl, ?_, f⟩)) (fun y => b9_faultOfDraft_58 (b9_faultOfDraft_64 ⟨_, rfl, ?_, f⟩))
    · rw [g1, e2, e3, e0, nI_add, show nI (pE m) + 2 = nI (pE m + 2) from nI_add _ 2] at y
      rw [if_neg (by decide), if_neg (fun e => y (by rw [e]))]
    · rw [g1, e2, e3, e0, nI_add, show nI (pE m) + 2 = nI (pE m + 2) from nI_add _ 2] at y
      have e : pVn m + pFn m = pE m + 2 := by
        have a := (nI_leI (a := pVn m + pFn m) (b := pE m + 2) (by omega) (by show m.1 + 2 < _; omega)).mp (by rw [y]; exact nI_le (Nat.le_refl _) (by show m.1 + 2 < _; omega))
        have b := (nI_leI (a := pE m + 2) (b := pVn m + pFn m) (by show m.1 + 2 < _; omega) (by omega)).mp (by rw [y]; exact nI_le (Nat.le_refl _) (by show m.1 + 2 < _; omega))
        omega
      rw [if_neg (by decide), if_pos e]
  · rw [g1, e2, g54] at z
    have hl : lost m = true := by
      cases w : lost m with
      | true => rfl
      | false => exact absurd (nI_le (key.mpr w) (by omega)) z
    rw [if_pos hl]
/-- tape emptied, fault set -/
theorem ClsS_rd {F : Int32 × Int32 × Int32 × Int32 × Int32} {M' : ME} (h : ClsS tab M st) (e : ∀ k, k ≠ 1 → (k < 12 ∨ 15 < k) → M'.1 k = M.1 k) (er : M'.2 = M.2) (h1 : M'.1 1 1 = nI 0) (hF : FE M' F) : ClsS tab M' (clr st F) := by
  obtain ⟨-, -, -, h4, ⟨⟨g1, g2, g3, g4⟩, g5⟩, h6, c, c1, c2, c3, c4, c5⟩ := h
  refine ⟨h1, fun i hi => absurd hi (Nat.not_lt_zero _), hF, fun s hs => ⟨by rw [er]; exact (h4 s hs).1, cT_eq (h4 s hs).2 (fun k hk1 hk => e k (by omega) (by omega))⟩, ⟨⟨by rw [er]; exact g1, by rw [er]; exact g2, by rw [er]; exact g3, by rw [er]; exact g4⟩, fun s hs => ?_⟩, fun l hl => by rw [e (36 + 1 + l) (by omega) (by omega)]; exact h6 l hl, c, c1, c2, by rw [e 18 (by decide) (by decide)]; exact c3, fun n hn => by rw [er]; exact c4 n hn, fun n hn hn2 => by rw [er]; exact c5 n hn hn2⟩
  rw [er]
  refine cM_eq (g5 s hs) (fun k hk1 hk => ?_)
  have q := RMs_sc (g1 s hs) hk1 hk
  exact e k (by omega) (by omega)
theorem c_map (hS : ClsS tab M st) (hok : StOK st) {x : Int32} : EvI (E0 L xs) (d + 5) m9_map [.ref 1, .int x] M (Co tab M (oMap st x)) := by
  have hl : sTl st ≤ 300 := hok.1
  have e11 : gI M 1 1 = nI (sTl st) := hS.1
  generalize hM0 : sI (sI (sI (sI (sI (sI M 1 1 0) 12 0 0) 12 1 (-1)) 12 2 (-1)) 12 3 (-1)) 12 4 (-1) = M0
  have F0 : FE M0 (flV none) := by
    subst hM0
    refine ⟨?_, ?_, ?_, ?_, sI_eq _ _ _ _⟩
    · rw [sI_ne (Or.inr (by decide)), sI_ne (Or.inr (by decide)), sI_ne (Or.inr (by decide)), sI_ne (Or.inr (by decide)), sI_eq]; rfl
    · rw [sI_ne (Or.inr (by decide)), sI_ne (Or.inr (by decide)), sI_ne (Or.inr (by decide)), sI_eq]; rfl
    · rw [sI_ne (Or.inr (by decide)), sI_ne (Or.inr (by decide)), sI_eq]; rfl
    · rw [sI_ne (Or.inr (by decide)), sI_eq]; rfl
  have O0 : ∀ k, k ≠ 1 → k ≠ 12 → M0.1 k = M.1 k := fun k a b => by subst hM0; rw [sI_row b, sI_row b, sI_row b, sI_row b, sI_row b, sI_row a]
  have e0 : M0.2 = M.2 := by subst hM0; rfl
  have t0 : M0.1 1 1 = nI 0 := by subst hM0; rw [sI_ne (Or.inl (by decide)), sI_ne (Or.inl (by decide)), sI_ne (Or.inl (by decide)), sI_ne (Or.inl (by decide)), sI_ne (Or.inl (by decide)), sI_eq]; rfl
  have C0 : FrC M M0 := fun k hk => ⟨O0 k (by omega) (by omega), by rw [e0]⟩
  refine Ev_of k9_map rfl (Nat.le_of_ble_eq_true rfl) (b9_map_0 (fun h => ?_) (fun h => ?_))
  · rw [hM0]
    refine b9_map_24 ⟨_, rfl, ?_⟩
    rw [show oMap st x = _ from cIf_neg h _ _]
    exact ⟨rfl, ClsS_rd hS (fun k a b => O0 k a (by omega)) e0 t0 F0, C0⟩
  · rw [hM0, show oMap st x = _ from cIf_pos h _ _, e11]
    obtain ⟨j, hj, rfl, ej⟩ := in_j h (by decide)
    rw [ej]
    have htb : ∀ i, i < sTl st → M0.1 2 i = sTb st i := fun i hi => by rw [O0 2 (by decide) (by decide)]; exact hS.2.1 i hi
    refine b9_map_27 (read_ev (d := d) hl htb F0) (fun r M1 hr => ?_)
    obtain ⟨rfl, hR, f1⟩ := hr
    have O1 : ∀ k, k ≠ 1 → (k < 12 ∨ 15 < k) → M1.1 k = M.1 k := fun k a b => (funext fun j => f1.1 k j (tRdr_f b)).trans (O0 k a (by omega))
    have e1 : M1.2 = M.2 := f1.2.trans e0
    have t1 : M1.1 1 1 = nI 0 := (f1.1 1 1 rfl).trans t0
    have C1 : FrC M M1 := FrC_trans C0 (FrC_of f1 (fun k j hk => tRdr_f (by omega)))
    have hS1 : ClsS tab M1 (clr st (flV (qF (endS (run (sTb st) (sTl st)) (sTl st))))) := ClsS_rd hS O1 e1 t1 hR.1
    have hI := run_RI (sTb st) (sTl st)
    refine b9_map_39 (fun z => ?_) (fun z => b9_map_42 ⟨_, rfl, ?_⟩)
    · have hf : qF (endS (run (sTb st) (sTl st)) (sTl st)) = none := by
        by_cases q : qF (endS (run (sTb st) (sTl st)) (sTl st)) = none
        · exact q
        · rw [decide_eq_false q] at z; exact absurd rfl z
      have hm := (mpO_PV hI hf).1
      obtain ⟨d1, d2, d3⟩ := cl_dr hS1
      refine b9_map_44 d3 (copyTo_ev (d := d + 4) d1 hI hf hR) (fun M2 h2 => ?_)
      obtain ⟨f2, c2⟩ := h2
      have g2 : gR M2 1 4 = M1.2.2 1 4 := by show M2.2.2 1 4 = _; rw [f2.2]
      refine b9_map_55 (R' := fun M3 => Fr (tRM (M1.2.2 1 4)) M2 M3 ∧ cM M3 (M1.2.2 1 4) (mpO (endS (run (sTb st) (sTl st)) (sTl st)))) (by rw [g2]; exact d3) (by rw [g2]; exact RMs_is d1) (by rw [g2]; exact numberRounds_ev (d := d + 2) (RMs_is d1) hm c2) (fun M3 h3 => ?_)
      obtain ⟨f3, c3⟩ := h3
      have g3 : M3.2.2 1 4 = M1.2.2 1 4 := by rw [f3.2]; exact g2
      refine b9_map_62 (faultOfDraft_ev (d := d + 2) d1 g3 hm c3) (fun r M4 hr => ?_)
      obtain ⟨rfl, f4⟩ := hr
      have f4s : Fr tSc M3 M4 := Fr_mono f4 (fun k j q => by
        cases w : tDs k j with
        | false => rfl
        | true =>
          unfold tDs at w
          split at w
          · cases q
          · cases q
          · cases w)
      have F14 : Fr (tCl (M1.2.2 1 4)) M1 M4 := Fr_trans (tCl_rm f2) (Fr_trans (tCl_rm f3) (tCl_sc f4s))
      have hS4 := ClsS_cl d1 d2 hS1 F14
      have C4 : FrC M M4 := FrC_trans C1 (tCl_C d1 F14)
      rw [hf] at hS4
      have bad : ∀ k : Nat, rdF (sTb st) (sTl st) = some (k, sTl st, none) → Co tab M (-1, clr st (flV (some (k, sTl st, none)))) (-1) (sI (sI M4 12 0 (nI k)) 12 1 (nI (sTl st))) := fun k _ => by
        obtain ⟨k1, k2, ⟨b0, b1, b2, b3, b4⟩, k3⟩ := hS4
        refine ⟨rfl, ?_, FrC_trans C4 (fun k hk => ⟨by rw [sI_row (by omega), sI_row (by omega)], rfl⟩)⟩
        have hx := ClsS_rd (st := clr st (flV none)) (F := flV (some (k, sTl st, none))) (M' := sI (sI M4 12 0 (nI k)) 12 1 (nI (sTl st))) (⟨k1, k2, ⟨b0, b1, b2, b3, b4⟩, k3⟩ : ClsS tab M4 (clr st (flV none))) (fun k' _ hk => by rw [sI_row (by omega), sI_row (by omega)]) rfl (by rw [sI_ne (Or.inl (by decide)), sI_ne (Or.inl (by decide))]; exact k1) ⟨by rw [sI_ne (Or.inr (by decide)), sI_eq]; rfl, by rw [sI_eq]; rfl, by rw [sI_ne (Or.inr (by decide)), sI_ne (Or.inr (by decide))]; exact b2, by rw [sI_ne (Or.inr (by decide)), sI_ne (Or.inr (by decide))]; exact b3, by rw [sI_ne (Or.inr (by decide)), sI_ne (Or.inr (by decide))]; exact b4⟩
        exact hx
      refine b9_map_66 (fun y => ?_) (fun y => b9_map_71 ⟨_, rfl, ?_⟩)
      · have hlo : ¬ lost (mpO (endS (run (sTb st) (sTl st)) (sTl st))) = true := fun q => by rw [if_pos q] at y; exact absurd y (by decide)
        rw [if_neg hlo] at y
        have heu : pVn (mpO (endS (run (sTb st) (sTl st)) (sTl st))) + pFn (mpO (endS (run (sTb st) (sTl st)) (sTl st))) = pE (mpO (endS (run (sTb st) (sTl st)) (sTl st))) + 2 := by
          by_cases q : pVn (mpO (endS (run (sTb st) (sTl st)) (sTl st))) + pFn (mpO (endS (run (sTb st) (sTl st)) (sTl st))) = pE (mpO (endS (run (sTb st) (sTl st)) (sTl st))) + 2
          · exact q
          · rw [if_neg q] at y; exact absurd y (by decide)
        have hrd : rdF (sTb st) (sTl st) = none := by unfold rdF; rw [if_pos hf, if_neg hlo, if_pos heu]
        rw [if_pos hrd]
        have g4 : gR M4 1 4 = M1.2.2 1 4 := by show M4.2.2 1 4 = _; rw [f4.2]; exact g3
        have hR4 := hS4.2.2.2.2.1.1.1 j hj
        have hn0 : gR M4 4 j ≠ 0 := by have := RMs_lt hR4; show M4.2.2 4 j ≠ 0; omega
        have c4 := cM_fr c3 f4 (fun k j a b => tDs_f d1 a b)
        have hc4 : cM M4 (M4.2.2 1 4) (mpO (endS (run (sTb st) (sTl st)) (sTl st))) := by rw [show M4.2.2 1 4 = M1.2.2 1 4 from g4]; exact c4
        refine b9_map_82 (by rw [g4]; exact d3) j rfl hj hn0 hn0 j rfl hj (by rw [g4]; exact RMs_is d1) ⟨_, rfl, ?_, keep_ok hS4 hj hc4, fun k hk => C4 k hk⟩
        exact hc4.1
      · by_cases q : lost (mpO (endS (run (sTb st) (sTl st)) (sTl st))) = true
        · have hrd : rdF (sTb st) (sTl st) = some (5, sTl st, none) := by unfold rdF; rw [if_pos hf, if_pos q]
          rw [hrd, if_neg (fun e => by cases e), if_pos q]
          exact bad 5 hrd
        · rw [if_neg q] at y ⊢
          have heu : ¬ pVn (mpO (endS (run (sTb st) (sTl st)) (sTl st))) + pFn (mpO (endS (run (sTb st) (sTl st)) (sTl st))) = pE (mpO (endS (run (sTb st) (sTl st)) (sTl st))) + 2 := fun e => y (by rw [if_pos e])
          have hrd : rdF (sTb st) (sTl st) = some (6, sTl st, none) := by unfold rdF; rw [if_pos hf, if_neg q, if_neg heu]
          rw [hrd, if_neg (fun e => by cases e), if_neg heu]
          exact bad 6 hrd
    · have hf : ¬ qF (endS (run (sTb st) (sTl st)) (sTl st)) = none := fun q => by
        rw [decide_eq_true q] at z; exact absurd z (by decide)
      have hrd : rdF (sTb st) (sTl st) = qF (endS (run (sTb st) (sTl st)) (sTl st)) := if_neg hf
      rw [if_neg (by rw [hrd]; exact hf), hrd]
      exact ⟨rfl, hS1, C1⟩
end CMP
