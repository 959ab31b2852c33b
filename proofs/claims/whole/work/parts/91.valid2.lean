/-! PURE: doubled maps are plane; labels of trees by number -/
section VA3
variable {m : PMp}
theorem iv_F (hP : PV m) {z : Nat} (hz : z < pN m) : ivF (pF m) (pN m) (pX m z) = ox z := by
  have e : pF m (ox z) = pX m z := by show pX m (ox (ox z)) = _; rw [ox_ox]
  rw [← e]
  exact iv_l (pF_perm hP.2.1) (ox_lt hz)
theorem ox_half (x : Nat) : ox x / 2 = x / 2 := by unfold ox; split <;> omega
theorem dbl_MV (hm : MV m) (h8 : pE m ≤ 8) : MV (dbl m) := by
  have hPd := dbl_PV hm.1 h8
  obtain ⟨hP, hc, hV⟩ := hm
  by_cases h0 : pE m = 0
  · have ed : dbl m = (1, 0, id) := by unfold dbl; rw [if_pos h0]
    rw [ed] at hPd ⊢
    refine MV_of hPd (fun S s1 s2 a b ha hb hS => ?_) ?_
    · have ha' : a < 2 := ha
      have hb' : b < 2 := hb
      by_cases e : a = b
      · rw [← e]; exact hS
      · have : b = ox a := by unfold ox; split <;> omega
        rw [this]; exact s2 a ha hS
    · have v : 2 ≤ pVn ((1, 0, id) : PMp) := by
        rw [vn_pos (m := ((1, 0, id) : PMp)) (show 0 < 1 by omega)]
        exact ct_geN (ps := id) hPd.2.1 (fun x _ => rfl) (fun c hc => ⟨c, hc, rfl⟩)
      have f := pFn_pos hPd
      show 1 + 2 ≤ _
      omega
  · have h0' : 0 < m.1 := by have : ¬ m.1 = 0 := h0; omega
    have ed : dbl m = (2 * pE m, 2 * pX m (pR m), fun y => if y % 2 = 0 then 2 * pX m (y / 2) else 2 * ivF (pF m) (pN m) (y / 2) + 1) := by unfold dbl; rw [if_neg h0]
    rw [ed] at hPd ⊢
    generalize hm' : ((2 * pE m, 2 * pX m (pR m), fun y => if y % 2 = 0 then 2 * pX m (y / 2) else 2 * ivF (pF m) (pN m) (y / 2) + 1) : PMp) = m' at hPd ⊢
    have eE : m'.1 = 2 * m.1 := by rw [← hm']
    have eN : pN m' = 2 * pN m := by show 2 * m'.1 = 2 * (2 * m.1); omega
    have e0 : ∀ x, pX m' (2 * x) = 2 * pX m x := fun x => by
      rw [← hm']
      show (if 2 * x % 2 = 0 then 2 * pX m (2 * x / 2) else _) = _
      rw [if_pos (by omega), show 2 * x / 2 = x by omega]
    have e1 : ∀ x, pX m' (2 * x + 1) = 2 * ivF (pF m) (pN m) x + 1 := fun x => by
      rw [← hm']
      show (if (2 * x + 1) % 2 = 0 then _ else 2 * ivF (pF m) (pN m) ((2 * x + 1) / 2) + 1) = _
      rw [if_neg (by omega), show (2 * x + 1) / 2 = x by omega]
    have o0 : ∀ x, ox (2 * x) = 2 * x + 1 := fun x => by unfold ox; rw [if_pos (by omega)]
    have o1 : ∀ x, ox (2 * x + 1) = 2 * x := fun x => by unfold ox; rw [if_neg (by omega)]; omega
    have hX := hP.2.1
    have hF := pF_perm hX
    have hG := iv_perm hF
    have hI := iv_perm hX
    have cas : ∀ y, y < pN m' → ∃ x, x < pN m ∧ (y = 2 * x ∨ y = 2 * x + 1) := fun y hy => ⟨y / 2, by omega, by omega⟩
    have h0m' : 0 < m'.1 := by omega
    refine MV_of hPd (fun S s1 s2 a b ha hb hS => ?_) ?_
    · have S1 : ∀ x, x < pN m → (S (2 * x) ↔ S (2 * x + 1)) := fun x hx => ⟨fun h => by have := s2 (2 * x) (by omega) h; rw [o0] at this; exact this, fun h => by have := s2 (2 * x + 1) (by omega) h; rw [o1] at this; exact this⟩
      have SX : ∀ x, x < pN m → S (2 * x) → S (2 * pX m x) := fun x hx h => by have := s1 (2 * x) (by omega) h; rw [e0] at this; exact this
      have SO : ∀ x, x < pN m → S (2 * x) → S (2 * ox x) := fun x hx h => by
        have h1 := SX x hx h
        have hXx := hX.1 x hx
        have h2 := s1 (2 * pX m x + 1) (by omega) ((S1 _ hXx).mp h1)
        rw [e1, iv_F hP hx] at h2
        exact (S1 _ (ox_lt hx)).mpr h2
      obtain ⟨x, x1, x2⟩ := cas a ha
      obtain ⟨y, y1, y2⟩ := cas b hb
      have hSx : S (2 * x) := by
        rcases x2 with e | e
        · rw [← e]; exact hS
        · rw [e] at hS; exact (S1 x x1).mpr hS
      have := hc (fun z => S (2 * z)) SX SO x y x1 y1 hSx
      rcases y2 with e | e
      · rw [e]; exact this
      · rw [e]; exact (S1 y y1).mp this
    · have v : pVn m + pFn m ≤ pVn m' := by
        rw [vn_pos h0m']
        refine ct_geN (ps := fun y => if y % 2 = 0 then pVo m (y / 2) else pVn m + pFo m (y / 2)) hPd.2.1 (fun y hy => ?_) (fun c hc' => ?_)
        · obtain ⟨x, x1, x2⟩ := cas y hy
          rcases x2 with e | e
          · rw [e, e0]
            show (if 2 * pX m x % 2 = 0 then pVo m (2 * pX m x / 2) else _) = if 2 * x % 2 = 0 then pVo m (2 * x / 2) else _
            rw [if_pos (by omega), if_pos (by omega), show 2 * pX m x / 2 = pX m x by omega, show 2 * x / 2 = x by omega]
            exact lbO_step hX x1
          · rw [e, e1]
            show (if (2 * ivF (pF m) (pN m) x + 1) % 2 = 0 then _ else pVn m + pFo m ((2 * ivF (pF m) (pN m) x + 1) / 2)) = if (2 * x + 1) % 2 = 0 then _ else pVn m + pFo m ((2 * x + 1) / 2)
            rw [if_neg (by omega), if_neg (by omega), show (2 * ivF (pF m) (pN m) x + 1) / 2 = ivF (pF m) (pN m) x by omega, show (2 * x + 1) / 2 = x by omega]
            have : pFo m (pF m (ivF (pF m) (pN m) x)) = pFo m (ivF (pF m) (pN m) x) := lbO_step hF (hG.1 x x1)
            rw [iv_r hF x1] at this
            omega
        · by_cases q : c < pVn m
          · obtain ⟨x, x1, x2⟩ := vtx h0' q
            refine ⟨2 * x, by omega, ?_⟩
            show (if 2 * x % 2 = 0 then pVo m (2 * x / 2) else _) = c
            rw [if_pos (by omega), show 2 * x / 2 = x by omega]; exact x2
          · obtain ⟨x, x1, x2⟩ := fac h0' (show c - pVn m < pFn m by omega)
            refine ⟨2 * x + 1, by omega, ?_⟩
            show (if (2 * x + 1) % 2 = 0 then _ else pVn m + pFo m ((2 * x + 1) / 2)) = c
            rw [if_neg (by omega), show (2 * x + 1) / 2 = x by omega, x2]; omega
      have f : m.1 ≤ pFn m' := by
        rw [fn_pos h0m']
        refine ct_geN (ps := fun y => if y % 2 = 0 then ivF (pX m) (pN m) (y / 2) / 2 else y / 2 / 2) (pF_perm hPd.2.1) (fun y hy => ?_) (fun c hc' => ?_)
        · obtain ⟨x, x1, x2⟩ := cas y hy
          rcases x2 with e | e
          · have ef : pF m' y = 2 * ivF (pF m) (pN m) x + 1 := by show pX m' (ox y) = _; rw [e, o0, e1]
            rw [ef, e]
            show (if (2 * ivF (pF m) (pN m) x + 1) % 2 = 0 then _ else (2 * ivF (pF m) (pN m) x + 1) / 2 / 2) = if 2 * x % 2 = 0 then ivF (pX m) (pN m) (2 * x / 2) / 2 else _
            rw [if_neg (by omega), if_pos (by omega), show 2 * x / 2 = x by omega, show (2 * ivF (pF m) (pN m) x + 1) / 2 = ivF (pF m) (pN m) x by omega]
            have : ivF (pF m) (pN m) (pX m (ivF (pX m) (pN m) x)) = ox (ivF (pX m) (pN m) x) := iv_F hP (hI.1 x x1)
            rw [iv_r hX x1] at this
            rw [this, ox_half]
          · have ef : pF m' y = 2 * pX m x := by show pX m' (ox y) = _; rw [e, o1, e0]
            rw [ef, e]
            show (if 2 * pX m x % 2 = 0 then ivF (pX m) (pN m) (2 * pX m x / 2) / 2 else _) = if (2 * x + 1) % 2 = 0 then _ else (2 * x + 1) / 2 / 2
            rw [if_pos (by omega), if_neg (by omega), show 2 * pX m x / 2 = pX m x by omega, iv_l hX x1]
            omega
        · refine ⟨2 * (2 * c) + 1, by rw [eN]; show _ < 2 * (2 * m.1); omega, ?_⟩
          show (if (2 * (2 * c) + 1) % 2 = 0 then _ else (2 * (2 * c) + 1) / 2 / 2) = c
          rw [if_neg (by omega)]; omega
      show m'.1 + 2 ≤ _
      have : pVn m + pFn m = m.1 + 2 := hV
      omega
end VA3
theorem trN_TL {n num : Nat} (hn : n ≤ 8) (h : num < ttN n) : TL (trN n num) := by
  intro v v1 v2
  have v2' : v ≤ n := v2
  obtain ⟨u, rfl⟩ : ∃ u, v = u + 1 := ⟨v - 1, by omega⟩
  rw [trN_lab hn h v2']
  have hd : dgN n num (u + 1) < 3 := Nat.mod_lt _ (by decide)
  generalize dgN n num (u + 1) = k at hd
  have : k = 0 ∨ k = 1 ∨ k = 2 := by omega
  rcases this with rfl | rfl | rfl
  · left
    rw [show nI 0 = 0 from rfl, Int32.add_zero]
  · right; left
    exact Int32.add_sub_cancel _ _
  · right; right
    rw [show nI 2 = 1 + 1 from rfl, ← Int32.add_assoc]
    exact Int32.add_sub_cancel _ _
