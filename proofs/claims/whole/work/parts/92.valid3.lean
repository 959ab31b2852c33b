/-! PURE: a map without an edge is plane -/
section VA4
variable {m : PMp}
theorem wi_ox (e y : Nat) : wi e (ox y) = ox (wi e y) := by unfold wi ox; split <;> split <;> split <;> (try split) <;> omega
theorem wo_ox {e x : Nat} (h : x / 2 ≠ e) : wo e (ox x) = ox (wo e x) := by unfold wo ox; split <;> split <;> split <;> (try split) <;> omega
theorem skp_vo (hP : PV m) {e z : Nat} (hz : z < pN m) : pVo m (skp m e z) = pVo m z := by
  have h := hP.2.1
  have a1 := h.1 z hz
  have a2 := h.1 _ a1
  have s1 : pVo m (pX m z) = pVo m z := lbO_step h hz
  have s2 : pVo m (pX m (pX m z)) = pVo m (pX m z) := lbO_step h a1
  have s3 : pVo m (pX m (pX m (pX m z))) = pVo m (pX m (pX m z)) := lbO_step h a2
  unfold skp
  split
  · split
    · rw [s3, s2, s1]
    · rw [s2, s1]
  · exact s1
/-- a dart that stays, at the same vertex -/
def exD (m : PMp) (e z : Nat) : Nat := if z / 2 = e then skp m e z else z
theorem skp_ex {e z : Nat} (h : skp m e z / 2 ≠ e) : skp m e z = exD m e (pX m z) := by
  unfold exD
  by_cases h1 : pX m z / 2 = e
  · rw [if_pos h1]
    by_cases h2 : pX m (pX m z) / 2 = e
    · have e1 : skp m e z = pX m (pX m (pX m z)) := by unfold skp; rw [if_pos h1, if_pos h2]
      rw [e1] at h
      have e2 : skp m e (pX m z) = pX m (pX m (pX m z)) := by unfold skp; rw [if_pos h2, if_neg h]
      rw [e1, e2]
    · have e1 : skp m e z = pX m (pX m z) := by unfold skp; rw [if_pos h1, if_neg h2]
      have e2 : skp m e (pX m z) = pX m (pX m z) := by unfold skp; rw [if_neg h2]
      rw [e1, e2]
  · rw [if_neg h1]
    unfold skp; rw [if_neg h1]
theorem del_MV (hm : MV m) {x : Nat} (hx : x < pN m) (hf : pFo m x ≠ pFo m (ox x)) : MV (del m (x / 2)) := by
  obtain ⟨hP, hc, hV⟩ := hm
  have hPd := del_PV hP hc hx hf
  have hx' : x < 2 * m.1 := hx
  by_cases h1 : m.1 = 1
  · exact E0_MV hPd (by show m.1 - 1 = 0; omega)
  generalize he : x / 2 = e at hPd ⊢
  have heE : e < m.1 := by omega
  have hX := hP.2.1
  have hF := pF_perm hX
  have h0' : 0 < m.1 := by omega
  have h0d : 0 < (del m e).1 := by show 0 < m.1 - 1; omega
  have eN : pN (del m e) = 2 * (m.1 - 1) := rfl
  have eX : ∀ y, pX (del m e) y = wo e (skp m e (wi e y)) := fun y => rfl
  -- the edge's darts
  have inE : ∀ d, d / 2 = e → d = x ∨ d = ox x := fun d hd => half2 (by omega)
  have fE : ∀ d, d / 2 = e → pFo m d = pFo m x ∨ pFo m d = pFo m (ox x) := fun d hd => by
    rcases inE d hd with q | q
    · left; rw [q]
    · right; rw [q]
  have fne : ∀ d, d / 2 = e → pFo m d ≠ pFo m (ox d) := fun d hd => by
    rcases inE d hd with q | q
    · rw [q]; exact hf
    · rw [q, ox_ox]; exact fun z => hf z.symm
  have sr : ∀ z, z < pN m → skp m e z / 2 ≠ e := fun z hz => by
    by_cases q : z / 2 = e
    · exact skp_root hP hc h1 hz q (fne z q)
    · exact skp_ne hP hz q
  have sx : ∀ z, z < pN m → skp m e z = exD m e (pX m z) := fun z hz => skp_ex (sr z hz)
  have exl : ∀ z, z < pN m → exD m e z < pN m ∧ exD m e z / 2 ≠ e := fun z hz => by
    unfold exD
    by_cases q : z / 2 = e
    · rw [if_pos q]; exact ⟨skp_lt hP hz, sr z hz⟩
    · rw [if_neg q]; exact ⟨hz, q⟩
  have oxe : ∀ z, ox z / 2 = z / 2 := ox_half
  -- darts of the new map
  have wl : ∀ z, z < pN m → z / 2 ≠ e → wo e z < pN (del m e) := fun z hz hq => wo_lt heE hq hz
  have wil : ∀ y, y < pN (del m e) → wi e y < pN m ∧ wi e y / 2 ≠ e := fun y hy => ⟨wi_lt hy, wi_ne e y⟩
  have skf : ∀ d, d < pN m → d / 2 = e → pFo m (skp m e d) = pFo m x ∨ pFo m (skp m e d) = pFo m (ox x) := fun d hd hq => by
    have a1 := hX.1 d hd
    have s := sr d hd
    by_cases q1 : pX m d / 2 = e
    · by_cases q2 : pX m (pX m d) / 2 = e
      · have e1 : skp m e d = pX m (pX m (pX m d)) := by unfold skp; rw [if_pos q1, if_pos q2]
        rw [e1, fX hP (hX.1 _ a1)]
        exact fE _ (by rw [oxe]; exact q2)
      · have e1 : skp m e d = pX m (pX m d) := by unfold skp; rw [if_pos q1, if_neg q2]
        rw [e1, fX hP a1]
        exact fE _ (by rw [oxe]; exact q1)
    · have e1 : skp m e d = pX m d := by unfold skp; rw [if_neg q1]
      rw [e1, fX hP hd]
      exact fE _ (by rw [oxe]; exact hq)
  refine MV_of hPd (fun S s1 s2 a b ha hb hS => ?_) ?_
  · -- connected
    have SX0 : ∀ z, z < pN m → S (wo e (exD m e z)) → S (wo e (exD m e (pX m z))) := fun z hz h => by
      by_cases q : z / 2 = e
      · have e1 : exD m e z = skp m e z := if_pos q
        rw [e1, sx z hz] at h; exact h
      · have e1 : exD m e z = z := if_neg q
        rw [e1] at h
        have := s1 _ (wl z hz q) h
        rw [eX, wi_wo q, sx z hz] at this
        exact this
    have SO0 : ∀ z, z < pN m → z / 2 ≠ e → S (wo e (exD m e z)) → S (wo e (exD m e (ox z))) := fun z hz q h => by
      have e1 : exD m e z = z := if_neg q
      have e2 : exD m e (ox z) = ox z := if_neg (by rw [oxe]; exact q)
      rw [e1] at h
      rw [e2, wo_ox q]
      exact s2 _ (wl z hz q) h
    have SO : ∀ z, z < pN m → S (wo e (exD m e z)) → S (wo e (exD m e (ox z))) := fun z hz h => by
      by_cases q : z / 2 = e
      · obtain ⟨p, p0, pp, pl⟩ : ∃ p, 0 < p ∧ it (pF m) p (ox z) = ox z ∧ ∀ j, 0 < j → j < p → it (pF m) j (ox z) ≠ ox z := ⟨_, (pF_per hP (ox_lt hz)).1, (pF_per hP (ox_lt hz)).2.1, (pF_per hP (ox_lt hz)).2.2⟩
        have walk : ∀ i, i < p → S (wo e (exD m e (it (pF m) (i + 1) (ox z)))) := by
          intro i
          induction i with
          | zero =>
            intro _
            show S (wo e (exD m e (pX m (ox (ox z)))))
            rw [ox_ox]; exact SX0 z hz h
          | succ i ih =>
            intro hi
            have hy := it_lt hF.1 (i + 1) _ (ox_lt hz)
            have hyf : pFo m (it (pF m) (i + 1) (ox z)) = pFo m (ox z) := ((lbO_eq hF (ox_lt hz) hy).mpr ⟨i + 1, rfl⟩).symm
            have hye : it (pF m) (i + 1) (ox z) / 2 ≠ e := fun w => by
              rcases half2 (x := it (pF m) (i + 1) (ox z)) (y := ox z) (by rw [oxe]; omega) with u | u
              · exact pl (i + 1) (by omega) hi u
              · rw [ox_ox] at u
                rw [u] at hyf
                exact fne z q hyf
            rw [it_succ']
            exact SX0 _ (ox_lt hy) (SO0 _ hy hye (ih (by omega)))
        have := walk (p - 1) (by omega)
        rw [show p - 1 + 1 = p by omega, pp] at this
        exact this
      · exact SO0 z hz q h
    obtain ⟨a1, a2⟩ := wil a ha
    obtain ⟨b1, b2⟩ := wil b hb
    have := hc (fun z => S (wo e (exD m e z))) SX0 SO (wi e a) (wi e b) a1 b1 (by
      show S (wo e (exD m e (wi e a)))
      rw [show exD m e (wi e a) = wi e a from if_neg a2, wo_wi]; exact hS)
    have this' : S (wo e (exD m e (wi e b))) := this
    rw [show exD m e (wi e b) = wi e b from if_neg b2, wo_wi] at this'
    exact this'
  · have v : pVn m ≤ pVn (del m e) := by
      rw [vn_pos h0d]
      refine ct_geN (ps := fun y => pVo m (wi e y)) hPd.2.1 (fun y hy => ?_) (fun c hc' => ?_)
      · obtain ⟨y1, y2⟩ := wil y hy
        show pVo m (wi e (wo e (skp m e (wi e y)))) = _
        rw [wi_wo (sr _ y1)]; exact skp_vo hP y1
      · obtain ⟨z, z1, z2⟩ := vtx h0' hc'
        by_cases q : z / 2 = e
        · refine ⟨wo e (skp m e z), wl _ (skp_lt hP z1) (sr z z1), ?_⟩
          show pVo m (wi e (wo e (skp m e z))) = c
          rw [wi_wo (sr z z1), skp_vo hP z1]; exact z2
        · refine ⟨wo e z, wl z z1 q, ?_⟩
          show pVo m (wi e (wo e z)) = c
          rw [wi_wo q]; exact z2
    have f : pFn m - 1 ≤ pFn (del m e) := by
      rw [fn_pos h0d]
      have fa := pFo_ltF hP hx
      have fb := pFo_ltF hP (ox_lt hx)
      generalize ga : pFo m x = A at *
      generalize gb : pFo m (ox x) = B at *
      refine ct_geN (ps := fun y => (fun h => if B < h then h - 1 else h) (if pFo m (wi e y) = B then A else pFo m (wi e y))) (pF_perm hPd.2.1) (fun y hy => ?_) (fun c hc' => ?_)
      · obtain ⟨y1, y2⟩ := wil y hy
        have key : (if pFo m (wi e (pF (del m e) y)) = B then A else pFo m (wi e (pF (del m e) y))) = if pFo m (wi e y) = B then A else pFo m (wi e y) := by
          have e1 : wi e (pF (del m e) y) = skp m e (ox (wi e y)) := by
            show wi e (wo e (skp m e (wi e (ox y)))) = _
            rw [wi_ox, wi_wo (sr _ (ox_lt y1))]
          rw [e1]
          have a1 := hX.1 _ (ox_lt y1)
          have hfx : pFo m (pX m (ox (wi e y))) = pFo m (wi e y) := by rw [fX hP (ox_lt y1), ox_ox]
          by_cases q1 : pX m (ox (wi e y)) / 2 = e
          · have e2 : skp m e (ox (wi e y)) = skp m e (pX m (ox (wi e y))) := by rw [sx _ (ox_lt y1)]; exact if_pos q1
            rw [e2]
            have g1 := skf _ a1 q1
            have g2 := fE _ q1
            rw [hfx] at g2
            rcases g1 with g1 | g1 <;> rcases g2 with g2 | g2 <;> rw [g1, g2]
            · rw [if_neg hf, if_pos rfl]
            · rw [if_neg hf, if_pos rfl]
          · have e2 : skp m e (ox (wi e y)) = pX m (ox (wi e y)) := by unfold skp; rw [if_neg q1]
            rw [e2, hfx]
        show (fun h => if B < h then h - 1 else h) (if pFo m (wi e (pF (del m e) y)) = B then A else pFo m (wi e (pF (del m e) y))) = _
        rw [key]
      · have hft : ∃ t, t < pFn m ∧ t ≠ B ∧ (if B < t then t - 1 else t) = c := by
          by_cases q : c < B
          · exact ⟨c, by omega, by omega, by rw [if_neg (by omega)]⟩
          · exact ⟨c + 1, by omega, by omega, by rw [if_pos (by omega)]; omega⟩
        obtain ⟨t, t1, t2, t3⟩ := hft
        obtain ⟨z, z1, z2⟩ := fac h0' t1
        by_cases q : z / 2 = e
        · have hzA : t = A := by
            rcases fE z q with u | u
            · rw [← z2]; exact u
            · exact absurd (z2.symm.trans u) t2
          refine ⟨wo e (skp m e z), wl _ (skp_lt hP z1) (sr z z1), ?_⟩
          show (fun h => if B < h then h - 1 else h) (if pFo m (wi e (wo e (skp m e z))) = B then A else pFo m (wi e (wo e (skp m e z)))) = c
          rw [wi_wo (sr z z1)]
          rcases skf z z1 q with u | u <;> rw [u]
          · rw [if_neg hf, ← hzA]; exact t3
          · rw [if_pos rfl, ← hzA]; exact t3
        · refine ⟨wo e z, wl z z1 q, ?_⟩
          show (fun h => if B < h then h - 1 else h) (if pFo m (wi e (wo e z)) = B then A else pFo m (wi e (wo e z))) = c
          rw [wi_wo q, z2, if_neg t2]; exact t3
    show m.1 - 1 + 2 ≤ _
    have : pVn m + pFn m = m.1 + 2 := hV
    omega
end VA4
