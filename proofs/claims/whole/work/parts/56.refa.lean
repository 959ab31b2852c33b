/-! the reference: its simple answers; feed of both -/
section RFA
variable {L : Nat} {xs : Nat → Int32} {d : Nat} {M : ME} {st : ST}
def Rq (M : ME) (st : ST) (r0 : Int32) : Int32 → ME → Prop := fun r M' => r = r0 ∧ RefS M' st ∧ FrR M M'
def Ro (M : ME) (p : Int32 × ST) : Int32 → ME → Prop := fun r M' => r = p.1 ∧ RefS M' p.2 ∧ FrR M M'
def Rl (M : ME) (st : ST) (r0 : Int64) : Int64 → ME → Prop := fun r M' => r = r0 ∧ RefS M' st ∧ FrR M M'
theorem ok_PV (hok : StOK st) : ∀ s, s < 4 → PV (sM st s) := fun s hs => (hok.2.2 s hs).1
theorem Rq_sc (hok : StOK st) (hS : RefS M st) {r0 : Int32} {M' : ME} (f : Fr tSr M M') : Rq M st r0 r0 M' := ⟨rfl, RefS_sc (ok_PV hok) hS f, tSr_R f⟩
theorem Ro_sc (hok : StOK st) (hS : RefS M st) {r0 : Int32} {M' : ME} (f : Fr tSr M M') : Ro M (r0, st) r0 M' := ⟨rfl, RefS_sc (ok_PV hok) hS f, tSr_R f⟩
theorem Rl_sc (hok : StOK st) (hS : RefS M st) {r0 : Int64} {M' : ME} (f : Fr tSr M M') : Rl M st r0 r0 M' := ⟨rfl, RefS_sc (ok_PV hok) hS f, tSr_R f⟩
theorem tld (M : ME) : Fr tSr M (sI M 110 0 0) := Fr_sI (Fr_refl _ _) rfl
theorem tld_S (hok : StOK st) (hS : RefS M st) : RefS (sI M 110 0 0) st := RefS_sc (ok_PV hok) hS (tld M)
noncomputable def oEnd (st : ST) (x : Int32) : Int32 × ST := cIf (vp_in x (sTl st + 1)) (1, ((x.toNatClampNeg, sTb st), st.2)) (0, st)
theorem c_end2 {tab : Nat → Nat → Int64} (hS : ClsS tab M st) (hok : StOK st) {x : Int32} : EvI (E0 L xs) d m9_end [.ref 1, .int x] M (Co tab M (oEnd st x)) :=
  EvI_post (c_end hS hok) (fun r M' h => by
    rcases h with ⟨h1, h2, h3, h4⟩ | ⟨h1, h2, h3, h4⟩
    · rw [show oEnd st x = _ from cIf_pos h1 _ _]; exact ⟨h2, h3, h4⟩
    · rw [show oEnd st x = _ from cIf_neg h1 _ _]; exact ⟨h2, h3, h4⟩)
theorem r_end (hS : RefS M st) (hok : StOK st) {x : Int32} : EvI (E0 L xs) (d + 1) m10_end [.ref 110, .int x] M (Ro M (oEnd st x)) := by
  have hl : sTl st ≤ 300 := hok.1
  have e1 : gI M 110 22 = nI (sTl st) := hS.1
  have hi : (0 ≤ x.toInt64 ∧ x.toInt64 ≤ (gI M 110 22).toInt64) ↔ vp_in x (sTl st + 1) := in_iff (by rw [e1, nI_l2 (by omega), lN_toInt (by omega)]; omega)
  refine Ev_of k10_end rfl (Nat.le_of_ble_eq_true rfl) (b10_end_0 (fun h => b10_end_22 ⟨_, rfl, ?_⟩) (fun h => b10_end_20 ⟨_, rfl, ?_⟩))
  · have hx := hi.mp h
    rw [show oEnd st x = _ from cIf_pos hx _ _]
    obtain ⟨j, hj, rfl, ej⟩ := in_j hx (by omega)
    refine ⟨rfl, ?_, fun k hk => ⟨?_, rfl, rfl⟩⟩
    · obtain ⟨h1, h2, h3, h4, h5⟩ := tld_S hok hS
      refine ⟨by rw [sI_eq, ej], fun i hi => ?_, h3, h4, h5⟩
      have hi' : i < (nI j).toNatClampNeg := hi
      rw [ej] at hi'
      exact h2 i (by omega)
    · show up2 (up2 M.1 110 0 0) 110 22 (nI j) k = M.1 k
      rw [up2_ne (by omega), up2_ne (by omega)]
  · rw [show oEnd st x = _ from cIf_neg (fun z => h (hi.mpr z)) _ _]
    exact Ro_sc hok hS (tld M)
theorem r_fault (hS : RefS M st) (hok : StOK st) {x : Int32} : EvI (E0 L xs) d m10_fault [.ref 110, .int x] M (Rq M st (fvF (sF st) x)) := by
  obtain ⟨f0, f1, f2, -⟩ := hS.2.2.1
  have T := tld M
  have fin : ∀ {r0 r : Int32}, r = r0 → Rq M st r0 r (sI M 110 0 0) := fun h => by rw [h]; exact Rq_sc hok hS T
  have e30 : gI (sI M 110 0 0) 110 30 = M.1 110 30 := sI_ne (Or.inr (by decide))
  have e27 : gI (sI M 110 0 0) 110 27 = M.1 110 27 := sI_ne (Or.inr (by decide))
  have e28 : gI (sI M 110 0 0) 110 28 = M.1 110 28 := sI_ne (Or.inr (by decide))
  have e29 : gI (sI M 110 0 0) 110 29 = M.1 110 29 := sI_ne (Or.inr (by decide))
  have w0 : M.1 110 30 = 0 → (sF st).2.2 = (-1, -1, -1) := fun h => by
    rcases f2 with q | q
    · exact q.2
    · rw [q.1] at h; exact absurd h (by decide)
  have w1 : ¬ M.1 110 30 = 0 → (sF st).2.2 = (M.1 110 27, M.1 110 28, M.1 110 29) := fun h => by
    rcases f2 with q | q
    · exact absurd q.1 h
    · exact q.2
  refine Ev_of k10_fault rfl (Nat.le_of_ble_eq_true rfl) (b10_fault_0 (fun h => b10_fault_36 ⟨_, rfl, fin ?_⟩) (fun h => b10_fault_41 ⟨_, rfl, fin ?_⟩) (fun h => b10_fault_46 (fun h2 => b10_fault_60 (b10_fault_61 ⟨_, rfl, fin ?_⟩)) (fun h2 => b10_fault_53 (b10_fault_61 ⟨_, rfl, fin ?_⟩))) (fun h => b10_fault_62 (fun h2 => b10_fault_76 (b10_fault_77 ⟨_, rfl, fin ?_⟩)) (fun h2 => b10_fault_69 (b10_fault_77 ⟨_, rfl, fin ?_⟩))) (fun h => b10_fault_78 (fun h2 => b10_fault_97 (b10_fault_98 ⟨_, rfl, fin ?_⟩)) (fun h2 => b10_fault_83 (fun h3 => b10_fault_97 (b10_fault_98 ⟨_, rfl, fin ?_⟩)) (fun h3 => b10_fault_90 (b10_fault_98 ⟨_, rfl, fin ?_⟩)))))
  · subst h; exact (sI_ne (Or.inr (by decide))).trans f0
  · subst h; exact (sI_ne (Or.inr (by decide))).trans f1
  · subst h; rw [e30] at h2
    show _ = (sF st).2.2.1
    rw [w0 h2]
  · subst h; rw [e30] at h2
    show _ = (sF st).2.2.1
    rw [w1 h2]; exact e27
  · subst h; rw [e30] at h2
    show _ = (sF st).2.2.2.1
    rw [w0 h2]
  · subst h; rw [e30] at h2
    show _ = (sF st).2.2.2.1
    rw [w1 h2]; exact e28
  · unfold fvF
    rw [if_neg (sw_ne h 0 rfl (by decide) (by decide)), if_neg (sw_ne h 1 rfl (by decide) (by decide)), if_neg (sw_ne h 2 rfl (by decide) (by decide)), if_neg (sw_ne h 3 rfl (by decide) (by decide)), if_neg h2]
  · subst h2; rw [e30] at h3
    show _ = (sF st).2.2.2.2
    rw [w0 h3]
  · subst h2; rw [e30] at h3
    show _ = (sF st).2.2.2.2
    rw [w1 h3]; exact e29
theorem r_look (hS : RefS M st) (hok : StOK st) {x : Int32} : EvI (E0 L xs) d m10_look [.ref 110, .int x] M (Rq M st (lkV st x)) := by
  have T := tld M
  have fin : ∀ {r0 r : Int32}, r = r0 → Rq M st r0 r (sI M 110 0 0) := fun h => by rw [h]; exact Rq_sc hok hS T
  have S2 := tld_S hok hS
  have et : ∀ s, s < 3 → gI (sI M 110 0 0) 119 s = nI (tn (sT st s)) := fun s hs => (S2.2.2.2.1 s hs).1
  have em : ∀ s, s < 4 → gI (sI M 110 0 0) 112 s = nI (pE (sM st s)) := fun s hs => (S2.2.2.2.2 s hs).1
  refine Ev_of k10_look rfl (Nat.le_of_ble_eq_true rfl) (b10_look_0 (fun h => b10_look_32 ⟨_, rfl, fin ?_⟩) (fun h => b10_look_37 0 rfl (by decide) 1 rfl (by decide) 2 rfl (by decide) ⟨_, rfl, fin ?_⟩) (fun h => b10_look_58 (fun h2 => b10_look_93 (b10_look_94 ⟨_, rfl, fin ?_⟩)) (fun h2 => b10_look_63 0 rfl (by decide) 1 rfl (by decide) 2 rfl (by decide) 3 rfl (by decide) (b10_look_94 ⟨_, rfl, fin ?_⟩))))
  · subst h; exact S2.1
  · subst h; rw [et 0 (by decide), et 1 (by decide), et 2 (by decide)]; rfl
  · unfold lkV
    rw [if_neg h.1, if_neg h.2, if_neg h2]
  · subst h2; rw [em 0 (by decide), em 1 (by decide), em 2 (by decide), em 3 (by decide)]; rfl
theorem r_trees (hS : RefS M st) (hok : StOK st) {x : Int32} : EvL (E0 L xs) (d + 22) m10_trees [.ref 110, .int x] M (Rl M st (aTrees x)) := by
  have hi : (0 ≤ x.toInt64 ∧ x.toInt64 ≤ 8) ↔ vp_in x 9 := in_iff rfl
  refine Ev_of k10_trees rfl (Nat.le_of_ble_eq_true rfl) (b10_trees_0 (fun h => ?_) (fun h => b10_trees_26 (b10_trees_29 ⟨_, rfl, ?_⟩)))
  · have hx := hi.mp h
    rw [show aTrees x = _ from cIf_pos hx _ _]
    obtain ⟨n, hn, rfl, en⟩ := in_j hx (by decide)
    rw [en]
    refine b10_trees_18 (allTrees_ev (d := d) (show n ≤ 8 by omega)) (fun r M1 hr => b10_trees_23 (b10_trees_29 ⟨_, rfl, ?_⟩))
    obtain ⟨rfl, rfl⟩ := hr
    exact Rl_sc hok hS (tld M)
  · rw [show aTrees x = _ from cIf_neg (fun z => h (hi.mpr z)) _ _]
    exact Rl_sc hok hS (tld M)
/-- a tree slot of the reference has changed -/
theorem RefS_tr {s : Nat} {t : PTr} {M' : ME} (hs : s < 3) (hok : StOK st) (hS : RefS M st) (f : Fr (tTo s) M M') (hr : rT M' s t) : RefS M' (setT st s t) := by
  obtain ⟨h1, h2, ⟨h3, h4, h5⟩, h6, h7⟩ := hS
  have hN : ∀ i, i < 4 → pN (sM st i) ≤ 32 := fun i hi => MV_N (ok_PV hok i hi)
  refine ⟨(f.1 _ _ rfl).trans h1, fun i hi => (f.1 _ _ rfl).trans (h2 i hi), ⟨(f.1 _ _ rfl).trans h3, (f.1 _ _ rfl).trans h4, ?_⟩, fun i hi => ?_, fun i hi => ?_⟩
  · rw [f.1 110 30 rfl, f.1 110 27 rfl, f.1 110 28 rfl, f.1 110 29 rfl, f.1 110 17 rfl]; exact h5
  · show rT M' i (if i = s then t else sT st i)
    by_cases q : i = s
    · rw [if_pos q, q]; exact hr
    · rw [if_neg q]
      have hn8 : tn (sT st i) ≤ 8 := (hok.2.1 i hi).1.1
      refine rT_fr (h6 i hi) f ?_ (fun k hk => ?_) (fun v hv => ?_)
      · show (i == s) = false
        simp [q]
      · show (Nat.ble (16 * s) (16 * i + k) && Nat.ble (16 * i + k) (16 * s + 15)) = false
        rw [Bool.and_eq_false_iff]
        by_cases z : 16 * s ≤ 16 * i + k
        · right
          cases w : Nat.ble (16 * i + k) (16 * s + 15) with
          | false => rfl
          | true => have := Nat.le_of_ble_eq_true w; omega
        · left
          cases w : Nat.ble (16 * s) (16 * i + k) with
          | false => rfl
          | true => exact absurd (Nat.le_of_ble_eq_true w) z
      · show (Nat.ble (9 * s) (9 * i + v) && Nat.ble (9 * i + v) (9 * s + 8)) = false
        rw [Bool.and_eq_false_iff]
        by_cases z : 9 * s ≤ 9 * i + v
        · right
          cases w : Nat.ble (9 * i + v) (9 * s + 8) with
          | false => rfl
          | true => have := Nat.le_of_ble_eq_true w; omega
        · left
          cases w : Nat.ble (9 * s) (9 * i + v) with
          | false => rfl
          | true => exact absurd (Nat.le_of_ble_eq_true w) z
  · exact rM_fr (h7 i hi) f rfl rfl (fun _ _ => rfl)
end RFA
