/-! PURE: maps made of maps are plane -/
section VA2
variable {m : PMp} {w : Nat}
theorem cdM_MV (hm : MV m) : MV (cdM m) := by
  obtain ⟨hP, hc, hV⟩ := hm
  by_cases h0 : m.1 = 0
  · exact E0_MV (cdM_PV hP hc) h0
  have hR : pR m < pN m := by
    rcases hP.2.2 with h | h
    · exact h
    · omega
  refine iso_MV (m := m) (ka := fun i => (cdL m (pR m)).getD i 0) ⟨hP, hc, hV⟩ (cdM_PV hP hc) rfl (fun i hi => cdl_lt hP hc hR hi) (fun x hx => ⟨_, cdl_il hP hc hR hx, cdl_x hP hc hR hx⟩) (fun i hi => ?_) (fun i hi => cdl_ox hP hc hR hi) (fun i j hi hj e => ?_)
  · exact cdl_x hP hc hR (hP.2.1.1 _ (cdl_lt hP hc hR hi))
  · have h1 := cdl_i hP hc hR hi
    have h2 := cdl_i hP hc hR hj
    have e' : (cdL m (pR m)).getD i 0 = (cdL m (pR m)).getD j 0 := e
    rw [e', h2] at h1
    exact h1.symm
theorem F3X (hP : PV m) (h4 : fr4 m = true) {z : Nat} (hz : z < pN m) : F2 m (pF m (pX m z)) = ox z := by
  have e : pF m (ox z) = pX m z := by show pX m (ox (ox z)) = _; rw [ox_ox]
  have : F2 m (pF m (pF m (ox z))) = ox z := F2_F2 hP h4 (ox_lt hz)
  rw [e] at this
  exact this
theorem hn_ox (hP : PV m) (h4 : fr4 m = true) (h2 : ∀ x, x < pN m → evB m w x ≠ evB m w (ox x)) {x : Nat} (hx : x < pN m) (ex : evB m w x = true) : hn m w (F2 m x) = ox (hn m w x) := by
  have l2 := F2_lt hP hx
  have e2 := F2_ev hP h2 hx
  rw [ex] at e2
  have b1 := hb_F2 hP h4 h2 hx ex
  have b2 := hb_F2 hP h4 h2 l2 e2
  rw [F2_F2 hP h4 hx] at b2
  have hne := F2_ne hP h4 hx
  unfold hn
  rw [F2_fo hP hx]
  unfold ox
  by_cases q : F2 m x < x
  · rw [if_pos (b1.mpr q), if_neg (fun z => by have := b2.mp z; omega)]
    rw [if_neg (by omega)]; omega
  · rw [if_neg (fun z => q (b1.mp z)), if_pos (b2.mpr (by omega))]
    rw [if_pos (by omega)]
theorem hlv_MV (hm : MV m) (hf : fit m = true) : MV (hlv m) := by
  have hPh := hlv_PV hm hf
  obtain ⟨hP, hc, hV⟩ := hm
  by_cases h1 : pE m = 1
  · refine E0_MV hPh ?_
    unfold hlv; rw [if_pos h1]
  have h4 : fr4 m = true := by
    unfold fit at hf
    rw [Bool.or_eq_true] at hf
    rcases hf with h | h
    · exact h
    · rw [Bool.and_eq_true] at h
      exact absurd (of_decide_eq_true h.1) h1
  have hEF := fr4_E hP h4
  have hFp := pFn_pos hP
  have hE0 : 0 < pE m := by omega
  have hR : pR m < pN m := by
    rcases hP.2.2 with h | h
    · exact h
    · have : 0 < m.1 := hE0
      omega
  generalize hw : pVo m (pR m) = w
  have hwV : w < pVn m := by rw [← hw]; exact pVo_ltV hP hR
  have h2 : ∀ x, x < pN m → evB m w x ≠ evB m w (ox x) := fun x hx => fit_two ⟨hP, hc, hV⟩ h4 hE0 hwV hx
  have eh : hlv m = (pFn m, hn m w (pR m), fun y => hn m w (pX m (hdF m w y (pN m)))) := by
    unfold hlv; rw [if_neg h1, hw]
  have hdn : ∀ x, x < pN m → evB m w x = true → hdF m w (hn m w x) (pN m) = x := fun x hx ex => hdF_at ex rfl hx (fun z hz ez e => hn_inj hP h4 h2 hz hx ez ex e)
  have evX : ∀ x, x < pN m → evB m w (pX m x) = evB m w x := fun x hx => ev_orb hP hx
  have hX := hP.2.1
  have hF := pF_perm hX
  rw [eh] at hPh ⊢
  generalize hm' : ((pFn m, hn m w (pR m), fun y => hn m w (pX m (hdF m w y (pN m)))) : PMp) = m' at hPh ⊢
  have eE : m'.1 = pFn m := by rw [← hm']
  have eN : pN m' = 2 * pFn m := by show 2 * m'.1 = _; rw [eE]
  have eX : ∀ x, x < pN m → evB m w x = true → pX m' (hn m w x) = hn m w (pX m x) := fun x hx ex => by
    rw [← hm']
    show hn m w (pX m (hdF m w (hn m w x) (pN m))) = _
    rw [hdn x hx ex]
  have sur : ∀ y, y < pN m' → ∃ x, x < pN m ∧ evB m w x = true ∧ hn m w x = y := fun y hy => hn_sur hP h4 h2 hE0 (by rw [eN] at hy; exact hy)
  have hnl : ∀ x, x < pN m → hn m w x < pN m' := fun x hx => by rw [eN]; exact hn_lt hP hx
  have h0' : 0 < m'.1 := by omega
  refine MV_of hPh (fun S s1 s2 a b ha hb hS => ?_) ?_
  · -- connected
    have T1 : ∀ x, x < pN m → evB m w x = true → S (hn m w x) → S (hn m w (pX m x)) := fun x hx ex hs => by
      have := s1 _ (hnl x hx) hs
      rw [eX x hx ex] at this; exact this
    have T2 : ∀ x, x < pN m → evB m w x = true → S (hn m w x) → S (hn m w (F2 m x)) := fun x hx ex hs => by
      have := s2 _ (hnl x hx) hs
      rw [← hn_ox hP h4 h2 hx ex] at this; exact this
    have T3 : ∀ x, x < pN m → evB m w x = true → S (hn m w (pX m x)) → S (hn m w x) := fun x hx ex hs => by
      refine cl_inv hX (S := fun z => evB m w z = true → S (hn m w z)) (fun z hz hsz ez => ?_) hx (fun _ => hs) ex
      rw [evX z hz] at ez
      exact T1 z hz ez (hsz ez)
    have odd : ∀ z, z < pN m → ¬ evB m w z = true → evB m w (ox z) = true := fun z hz h => by
      have := h2 z hz
      cases q : evB m w (ox z) with
      | true => rfl
      | false =>
        cases q2 : evB m w z with
        | true => exact absurd q2 h
        | false => rw [q, q2] at this; exact absurd rfl this
    have evn : ∀ z, z < pN m → evB m w z = true → ¬ evB m w (ox z) = true := fun z hz h q => h2 z hz (by rw [h, q])
    obtain ⟨x, x1, x2, x3⟩ := sur a ha
    obtain ⟨y, y1, y2, y3⟩ := sur b hb
    have := hc (fun z => (evB m w z = true → S (hn m w z)) ∧ (¬ evB m w z = true → S (hn m w (ox z)))) (fun z hz hs => ?_) (fun z hz hs => ?_) x y x1 y1 ⟨fun _ => by rw [x3]; exact hS, fun z => absurd x2 z⟩
    · have := this.1 y2
      rw [y3] at this; exact this
    · refine ⟨fun ez => ?_, fun ez => ?_⟩
      · rw [evX z hz] at ez
        exact T1 z hz ez (hs.1 ez)
      · rw [evX z hz] at ez
        have h5 := T2 _ (ox_lt hz) (odd z hz ez) (hs.2 ez)
        have hXz := hX.1 z hz
        have eF : F2 m (ox z) = pX m (ox (pX m z)) := by
          rw [← F3X hP h4 hz, F2_F2 hP h4 (hF.1 _ hXz)]; rfl
        rw [eF] at h5
        exact T3 _ (ox_lt hXz) (odd _ hXz (by rw [evX z hz]; exact ez)) h5
    · refine ⟨fun ez => ?_, fun ez => ?_⟩
      · by_cases q : evB m w z = true
        · exact absurd ez (evn z hz q)
        · exact hs.2 q
      · rw [ox_ox]
        by_cases q : evB m w z = true
        · exact hs.1 q
        · exact absurd (odd z hz q) ez
  · have v : cnB (fun c => decide (dst m w c % 2 = 0)) (pVn m) ≤ pVn m' := by
      rw [vn_pos h0']
      refine ct_ge (ps := fun y => pVo m (hdF m w y (pN m))) hPh.2.1 (fun y hy => ?_) (fun c hc hp => ?_)
      · obtain ⟨x, x1, x2, x3⟩ := sur y hy
        rw [← x3]
        show pVo m (hdF m w (pX m' (hn m w x)) (pN m)) = pVo m (hdF m w (hn m w x) (pN m))
        rw [eX x x1 x2, hdn x x1 x2, hdn _ (hX.1 x x1) (by rw [evX x x1]; exact x2)]
        exact lbO_step hX x1
      · obtain ⟨x, x1, x2⟩ := vtx (show 0 < m.1 from hE0) hc
        have ex : evB m w x = true := by unfold evB; rw [x2]; exact hp
        exact ⟨hn m w x, hnl x x1, by show pVo m (hdF m w (hn m w x) (pN m)) = c; rw [hdn x x1 ex]; exact x2⟩
    have f : cnB (fun c => !decide (dst m w c % 2 = 0)) (pVn m) ≤ pFn m' := by
      rw [fn_pos h0']
      refine ct_ge (ps := fun y => pVo m (pF m (F2 m (hdF m w y (pN m))))) (pF_perm hPh.2.1) (fun y hy => ?_) (fun c hc hp => ?_)
      · obtain ⟨x, x1, x2, x3⟩ := sur y hy
        rw [← x3]
        have l2 := F2_lt hP x1
        have e2 : evB m w (F2 m x) = true := by rw [F2_ev hP h2 x1]; exact x2
        have eF : pF m' (hn m w x) = hn m w (pX m (F2 m x)) := by
          show pX m' (ox (hn m w x)) = _
          rw [← hn_ox hP h4 h2 x1 x2, eX _ l2 e2]
        show pVo m (pF m (F2 m (hdF m w (pF m' (hn m w x)) (pN m)))) = pVo m (pF m (F2 m (hdF m w (hn m w x) (pN m))))
        rw [eF, hdn _ (hX.1 _ l2) (by rw [evX _ l2]; exact e2), hdn x x1 x2]
        have e3 : pF m (F2 m (pX m (F2 m x))) = ox (F2 m x) := by
          have : F2 m (pF m (pX m (F2 m x))) = ox (F2 m x) := F3X hP h4 l2
          exact this
        rw [e3]
        have e4 : pF m (F2 m x) = pX m (ox (F2 m x)) := rfl
        rw [e4]
        exact (lbO_step hX (ox_lt l2)).symm
      · obtain ⟨z, z1, z2⟩ := vtx (show 0 < m.1 from hE0) hc
        have ez : ¬ evB m w z = true := fun q => by
          unfold evB at q
          rw [z2] at q
          have : (!decide (dst m w c % 2 = 0)) = true := hp
          rw [q] at this; cases this
        have eFz : evB m w (pF m z) = true := by
          rw [ev_F hP h2 z1]
          cases q : evB m w z with
          | true => exact absurd q ez
          | false => rfl
        refine ⟨hn m w (pF m z), hnl _ (hF.1 z z1), ?_⟩
        show pVo m (pF m (F2 m (hdF m w (hn m w (pF m z)) (pN m)))) = c
        rw [hdn _ (hF.1 z z1) eFz]
        have : pF m (F2 m (pF m z)) = z := F2_F2 hP h4 z1
        rw [this]; exact z2
    have c3 := cnB_or (P := fun c => decide (dst m w c % 2 = 0)) (Q := fun c => !decide (dst m w c % 2 = 0)) (R := fun _ => true) (n := pVn m) (fun i _ => by cases decide (dst m w i % 2 = 0) <;> rfl) (fun i _ h => by
      obtain ⟨a, b⟩ := h
      have b' : (!decide (dst m w i % 2 = 0)) = true := b
      rw [a] at b'; cases b')
    rw [cnB_T] at c3
    show m'.1 + 2 ≤ _
    omega
end VA2
