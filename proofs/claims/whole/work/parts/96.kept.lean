/-! PURE: what holds of the state is kept -/
section KPT
variable {st : ST}
theorem ok_M (hok : StOK st) {s : Nat} {m : PMp} (hm : MV m) : StOK (setM st s m) := by
  refine ⟨hok.1, hok.2.1, fun i hi => ?_⟩
  show MV (if i = s then m else sM st i)
  by_cases q : i = s
  · rw [if_pos q]; exact hm
  · rw [if_neg q]; exact hok.2.2 i hi
theorem ok_T (hok : StOK st) {s : Nat} {t : PTr} (h1 : TV t) (h2 : TL t) : StOK (setT st s t) := by
  refine ⟨hok.1, fun i hi => ?_, hok.2.2⟩
  show TV (if i = s then t else sT st i) ∧ TL (if i = s then t else sT st i)
  by_cases q : i = s
  · rw [if_pos q]; exact ⟨h1, h2⟩
  · rw [if_neg q]; exact hok.2.1 i hi
theorem k_feed (hok : StOK st) {a b c d e : Int32} : StOK (oFeed st a b c d e).2 := by
  unfold oFeed
  by_cases q : sTl st ≤ 280
  · rw [if_pos q]
    exact ⟨by show sTl st + 20 ≤ 300; omega, hok.2.1, hok.2.2⟩
  · rw [if_neg q]; exact hok
theorem k_end (hok : StOK st) {x : Int32} : StOK (oEnd st x).2 := by
  by_cases q : vp_in x (sTl st + 1)
  · rw [show oEnd st x = _ from cIf_pos q _ _]
    have hl : sTl st ≤ 300 := hok.1
    obtain ⟨j, hj, -, ej⟩ := in_j q (by omega)
    exact ⟨by show x.toNatClampNeg ≤ 300; omega, hok.2.1, hok.2.2⟩
  · rw [show oEnd st x = _ from cIf_neg q _ _]; exact hok
theorem ok_clr (hok : StOK st) {F : Int32 × Int32 × Int32 × Int32 × Int32} : StOK (clr st F) := ⟨Nat.zero_le _, hok.2.1, hok.2.2⟩
theorem k_map (hok : StOK st) {x : Int32} : StOK (oMap st x).2 := by
  by_cases q : vp_in x 4
  · rw [show oMap st x = _ from cIf_pos q _ _]
    by_cases r : rdF (sTb st) (sTl st) = none
    · rw [if_pos r]; exact ok_M (ok_clr hok) (rdM_MV r)
    · rw [if_neg r]; exact ok_clr hok
  · rw [show oMap st x = _ from cIf_neg q _ _]; exact ok_clr hok
theorem k_tree (hok : StOK st) {x n : Int32} {k : Int64} : StOK (oTree st x n k).2 := by
  by_cases q : vp_in x 3 ∧ vp_in n 9 ∧ ¬ k < 0 ∧ k < lN (ttN n.toNatClampNeg)
  · rw [show oTree st x n k = _ from cIf_pos q _ _]
    obtain ⟨-, q2, q3, q4⟩ := q
    obtain ⟨j, hj, -, ej⟩ := in_j q2 (by decide)
    have h8 : n.toNatClampNeg ≤ 8 := by omega
    obtain ⟨l1, -⟩ := l_of (ttN_lt h8) q3 q4
    exact ok_T hok (trN_TV h8 l1) (trN_TL h8 l1)
  · rw [show oTree st x n k = _ from cIf_neg q _ _]; exact hok
theorem k_turn (hok : StOK st) {x y w : Int32} : StOK (oTurn st x y w).2 := by
  by_cases q : vp_in x 3 ∧ vp_in y 4 ∧ vp_in w 2
  · rw [show oTurn st x y w = _ from cIf_pos q _ _]
    obtain ⟨j, hj, -, ej⟩ := in_j q.1 (by decide)
    obtain ⟨i, hi, -, ei⟩ := in_j q.2.2 (by decide)
    have h := hok.2.1 x.toNatClampNeg (by omega)
    exact ok_M hok (trM_MV h.1 h.2 (by omega))
  · rw [show oTurn st x y w = _ from cIf_neg q _ _]; exact hok
theorem k_back (hok : StOK st) {x v y : Int32} : StOK (oBack st x v y).2 := by
  by_cases q : vp_in x 4 ∧ vp_in v (pVn (sM st x.toNatClampNeg)) ∧ vp_in y 3 ∧ fit (sM st x.toNatClampNeg) = true
  · rw [show oBack st x v y = _ from cIf_pos q _ _]
    obtain ⟨q1, q2, q3, q4⟩ := q
    obtain ⟨j, hj, -, ej⟩ := in_j q1 (by decide)
    have hm := hok.2.2 x.toNatClampNeg (by omega)
    have hV := pVn_le hm.1
    obtain ⟨i, hi, -, ei⟩ := in_j q2 (by omega)
    have h := bkT_ok hm.1 (BkI_of hm (show v.toNatClampNeg < _ by omega) q4)
    exact ok_T hok h.1 h.2
  · rw [show oBack st x v y = _ from cIf_neg q _ _]; exact hok
theorem k_halve (hok : StOK st) {x y : Int32} : StOK (oHalve st x y).2 := by
  by_cases q : vp_in x 4 ∧ vp_in y 4 ∧ fit (sM st x.toNatClampNeg) = true
  · rw [show oHalve st x y = _ from cIf_pos q _ _]
    obtain ⟨j, hj, -, ej⟩ := in_j q.1 (by decide)
    exact ok_M hok (hlv_MV (hok.2.2 x.toNatClampNeg (by omega)) q.2.2)
  · rw [show oHalve st x y = _ from cIf_neg q _ _]; exact hok
theorem k_redouble (hok : StOK st) {x y : Int32} : StOK (oRedouble st x y).2 := by
  by_cases q : vp_in x 4 ∧ vp_in y 4 ∧ pE (sM st x.toNatClampNeg) ≤ 8
  · rw [show oRedouble st x y = _ from cIf_pos q _ _]
    obtain ⟨j, hj, -, ej⟩ := in_j q.1 (by decide)
    exact ok_M hok (dbl_MV (hok.2.2 x.toNatClampNeg (by omega)) q.2.2)
  · rw [show oRedouble st x y = _ from cIf_neg q _ _]; exact hok
theorem chg_MV {m m' : PMp} {w d : Int32} (hm : MV m) (h : chg m w d = some m') : MV m' := by
  have hN := MV_N hm.1
  unfold chg at h
  by_cases c0 : w = 0
  · rw [if_pos c0] at h; cases h; exact hm
  rw [if_neg c0] at h
  by_cases c1 : w = 1
  · rw [if_pos c1] at h; cases h; exact mir_MV hm
  rw [if_neg c1] at h
  by_cases c2 : w = 2
  · rw [if_pos c2] at h; cases h; exact dual_MV hm
  rw [if_neg c2] at h
  by_cases c3 : w = 3
  · rw [if_pos c3] at h; cases h; exact cdM_MV hm
  rw [if_neg c3] at h
  by_cases c4 : w = 4
  · rw [if_pos c4] at h
    by_cases q : vp_in d (pN m)
    · rw [cIf_pos q] at h; cases h
      obtain ⟨j, hj, -, ej⟩ := in_j q (by omega)
      exact root_MV hm (by omega)
    · rw [cIf_neg q] at h; cases h
  rw [if_neg c4] at h
  by_cases c5 : w = 5
  · rw [if_pos c5] at h
    by_cases q : vp_in d (pN m) ∧ pFo m d.toNatClampNeg ≠ pFo m (ox d.toNatClampNeg)
    · rw [cIf_pos q] at h; cases h
      obtain ⟨j, hj, -, ej⟩ := in_j q.1 (by omega)
      exact del_MV hm (by omega) q.2
    · rw [cIf_neg q] at h; cases h
  rw [if_neg c5] at h; cases h
theorem k_change (hok : StOK st) {x w d y : Int32} : StOK (oChange st x w d y).2 := by
  by_cases q : vp_in x 4 ∧ vp_in y 4
  · rw [show oChange st x w d y = _ from cIf_pos q _ _]
    obtain ⟨j, hj, -, ej⟩ := in_j q.1 (by decide)
    have hm := hok.2.2 x.toNatClampNeg (by omega)
    cases e : chg (sM st x.toNatClampNeg) w d with
    | none => exact hok
    | some m' => exact ok_M hok (chg_MV hm e)
  · rw [show oChange st x w d y = _ from cIf_neg q _ _]; exact hok
/-- the state of a new object -/
def st0 : ST := ((0, fun _ => 0), (0, -1, -1, -1, -1), (fun _ => (0, fun _ => 0, fun _ => 0)), fun _ => (0, 0, id))
theorem st0_ok : StOK st0 := by
  refine ⟨Nat.zero_le _, fun s _ => ⟨⟨Nat.zero_le _, ⟨fun i hi => absurd hi (Nat.not_lt_zero _), fun i hi => ?_, rfl⟩, rfl⟩, fun v v1 v2 => ?_⟩, fun s _ => E0_MV ⟨Nat.zero_le _, ⟨fun x hx => absurd hx (Nat.not_lt_zero _), fun x y hx => absurd hx (Nat.not_lt_zero _)⟩, Or.inr ⟨rfl, rfl⟩⟩ rfl⟩
  · have : i = 0 := by have h : i ≤ 2 * 0 := hi; omega
    subst this; exact Int.le_refl 0
  · have h : v ≤ 0 := v2
    omega
end KPT
