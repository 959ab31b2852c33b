/-! PURE: a tree's map is plane -/
section TUV
variable {t : PTr}
theorem bkc_bkc {s j i : Nat} (hs : s < tC t) (hij : j + i ≤ tC t) : bkc t (bkc t s j) i = bkc t s (j + i) := by
  have hb := bkc_lt t s j
  rw [bkc_eq hb (by omega), bkc_eq hs (by omega), bkc_eq hs (by omega)]
  by_cases q : j ≤ s
  · rw [if_pos q]
    by_cases q2 : j + i ≤ s
    · rw [if_pos (by omega), if_pos q2]; omega
    · rw [if_neg (by omega), if_neg q2]; omega
  · rw [if_neg q, if_neg (show ¬ j + i ≤ s by omega), if_pos (by omega)]; omega
theorem bkc_1 {c : Nat} (hc : c < tC t) : bkc t c 1 = (c + tC t - 1) % tC t := rfl
theorem bo_odd (hv : TV t) {z : Nat} (hz : z < tC t) (h : hrV t z ≠ -1) : hrN t z < tC t ∧ 1 ≤ boJ t z ∧ boJ t z < tC t ∧ bkc t (hrN t z) (boJ t z) = z ∧ hrV t z = nI (hrN t z) := by
  rcases hr_cases hv hz with q | ⟨j, j1, j2, j3, j4, j5, j6⟩
  · exact absurd q h
  · have e : boJ t z = j := by
      unfold boJ
      have := bo_bkc j5 j1 j2
      rw [j6] at this; exact this
    exact ⟨j5, by omega, by omega, by rw [e]; exact j6, by rw [j4]; exact j3⟩
theorem lb_heir (hv : TV t) (hl : TL t) (hn : 1 ≤ tn t) {z : Nat} (hz : z < tC t) (h : hrV t z ≠ -1) : lbc t (hrN t z) = lbc t z - 1 ∧ ∀ i, i < boJ t z → lbc t z ≤ lbc t ((z + i) % tC t) := by
  obtain ⟨b1, b2, b3, b4, b5⟩ := bo_odd hv hz h
  have hC := tC_le hv
  rcases HRc hv hl hn hz with q | ⟨j, j1, j2, j3, j4, j5⟩
  · exact absurd q.1 h
  · have hm := Nat.mod_lt (z + j) (tC_pos t)
    have e : hrN t z = (z + j) % tC t := (hrN_of hv hm j3).1
    have e2 : boJ t z = j := by
      unfold boJ
      rw [e]
      by_cases q : z + j < tC t
      · rw [Nat.mod_eq_of_lt q, show z + j + tC t - z = j + tC t by omega, Nat.add_mod_right, Nat.mod_eq_of_lt j2]
      · have : (z + j) % tC t = z + j - tC t := by rw [Nat.mod_eq_sub_mod (by omega), Nat.mod_eq_of_lt (by omega)]
        rw [this, show z + j - tC t + tC t - z = j by omega, Nat.mod_eq_of_lt j2]
    rw [e2, e]
    exact ⟨j4, j5⟩
/-- a corner between one and its heir has no lower label -/
theorem lb_btw (hv : TV t) (hl : TL t) (hn : 1 ≤ tn t) {z k : Nat} (hz : z < tC t) (h : hrV t z ≠ -1) (h1 : 1 ≤ k) (h2 : k ≤ boJ t z) : lbc t z ≤ lbc t (bkc t (hrN t z) k) := by
  obtain ⟨b1, b2, b3, b4, b5⟩ := bo_odd hv hz h
  have := (lb_heir hv hl hn hz h).2 (boJ t z - k) (by omega)
  have e : (z + (boJ t z - k)) % tC t = bkc t (hrN t z) k := by
    have e1 := bkc_bkc (t := t) (s := hrN t z) (j := k) (i := boJ t z - k) b1 (by omega)
    rw [show k + (boJ t z - k) = boJ t z by omega, b4] at e1
    have e2 := bkc_add (t := t) (c := bkc t (hrN t z) k) (i := boJ t z - k) (bkc_lt t _ _) (by omega)
    rw [e1] at e2
    exact e2
  rw [e] at this
  exact this
noncomputable def fcJ (t : PTr) (x : Nat) : Nat := if x % 2 = 0 then edJ (ts t) (bkc t (x / 2) (qJ t (x / 2))) else edJ (ts t) (x / 2)
theorem fc_0 {c : Nat} : fcJ t (2 * c) = edJ (ts t) (bkc t c (qJ t c)) := by unfold fcJ; rw [if_pos (by omega), show 2 * c / 2 = c by omega]
theorem fc_1 {c : Nat} : fcJ t (2 * c + 1) = edJ (ts t) c := by unfold fcJ; rw [if_neg (by omega), show (2 * c + 1) / 2 = c by omega]
theorem key_0 {c : Nat} : keyJ t (2 * c) = c * (tC t + 1) + tC t := by unfold keyJ; rw [if_pos (by omega), show 2 * c / 2 = c by omega]
theorem key_1 {c : Nat} : keyJ t (2 * c + 1) = hrN t c * (tC t + 1) + boJ t c := by unfold keyJ; rw [if_neg (by omega), show (2 * c + 1) / 2 = c by omega]
theorem mul_lt' {a b C : Nat} (h : a < b) : a * (C + 1) + (C + 1) ≤ b * (C + 1) := by
  rw [← Nat.succ_mul]
  exact Nat.mul_le_mul_right _ h
theorem blk (hv : TV t) {v z : Nat} (hz : z ∈ vl t v (tC t)) : ∃ b r, b < tC t ∧ tA t b = v ∧ 1 ≤ r ∧ r ≤ tC t ∧ keyJ t z = b * (tC t + 1) + r ∧ ((z = 2 * b ∧ r = tC t) ∨ ∃ z', z' < tC t ∧ z = 2 * z' + 1 ∧ hrV t z' ≠ -1 ∧ hrN t z' = b ∧ boJ t z' = r ∧ r < tC t) := by
  obtain ⟨h1, h2⟩ := (mem_vlC hv).mp hz
  have hC := tC_pos t
  rcases h2 with ⟨a, b⟩ | ⟨a, b, c⟩
  · refine ⟨z / 2, tC t, by omega, b, by omega, Nat.le_refl _, ?_, Or.inl ⟨by omega, rfl⟩⟩
    rw [show keyJ t z = keyJ t (2 * (z / 2)) by rw [show 2 * (z / 2) = z by omega], key_0]
  · obtain ⟨b1, b2, b3, b4, b5⟩ := bo_odd hv (show z / 2 < tC t by omega) b
    refine ⟨hrN t (z / 2), boJ t (z / 2), b1, c, b2, by omega, ?_, Or.inr ⟨z / 2, by omega, by omega, b, rfl, rfl, b3⟩⟩
    rw [show keyJ t z = keyJ t (2 * (z / 2) + 1) by rw [show 2 * (z / 2) + 1 = z by omega], key_1]
/-- the face behind the start of an arc -/
theorem face0 (hv : TV t) (hl : TL t) (hn : 1 ≤ tn t) {c : Nat} (hc : c < tC t) : fcJ t (trX t (2 * c + 1)) = fcJ t (2 * c) := by
  have hC := tC_pos t
  rw [fc_0]
  obtain ⟨⟨q1, q2, q3⟩, q4⟩ := q_sp hc
  have hqN := bkc_lt t c (qJ t c)
  by_cases hr : hrV t c = -1
  · -- to the point
    have hmin : ∀ d, d < tC t → lbc t c ≤ lbc t d := by
      rcases HRc hv hl hn hc with h | ⟨j, j1, j2, j3, -⟩
      · exact h.2
      · rw [j3] at hr
        exact absurd hr (nI_ne1 (by have := Nat.mod_lt (c + j) hC; have := tC_le hv; omega))
    have heq : lbc t (bkc t c (qJ t c)) = lbc t c := by have := hmin _ hqN; omega
    have hrq : hrV t (bkc t c (qJ t c)) = -1 := by
      rcases HRc hv hl hn hqN with h | ⟨j, j1, j2, j3, j4, -⟩
      · exact h.1
      · have := hmin _ (Nat.mod_lt (bkc t c (qJ t c) + j) hC)
        omega
    have minz : ∀ z', z' < tC t → hrV t z' = -1 → lbc t z' = lbc t c := fun z' hz' h => by
      rcases HRc hv hl hn hz' with g | ⟨j, j1, j2, j3, -⟩
      · have a := g.2 c hc
        have b := hmin z' hz'
        omega
      · rw [j3] at h
        exact absurd h (nI_ne1 (by have := Nat.mod_lt (z' + j) hC; have := tC_le hv; omega))
    have erid : rid t (2 * c + 1) = tn t + 1 := by
      unfold rid
      rw [if_neg (by omega), show (2 * c + 1) / 2 = c by omega, if_pos hr]
    have erl : rlt t (rid t (2 * c + 1)) = pl t (tC t) := by unfold rlt; rw [erid, if_neg (by omega)]
    have hx : 2 * c + 1 ∈ pl t (tC t) := mem_plC.mpr ⟨by omega, by omega, by rw [show (2 * c + 1) / 2 = c by omega]; exact hr⟩
    have hy : 2 * bkc t c (qJ t c) + 1 ∈ pl t (tC t) := mem_plC.mpr ⟨by omega, by omega, by rw [show (2 * bkc t c (qJ t c) + 1) / 2 = bkc t c (qJ t c) by omega]; exact hrq⟩
    have e : trX t (2 * c + 1) = 2 * bkc t c (qJ t c) + 1 := by
      unfold trX
      rw [erl]
      refine nx_eq (key := fun a => tC t - 1 - a / 2) (pl_sort (tC t) (Nat.le_refl _)).1 hx hy ?_
      show (tC t - 1 - (2 * c + 1) / 2 < tC t - 1 - (2 * bkc t c (qJ t c) + 1) / 2 ∧ _) ∨ _
      rw [show (2 * c + 1) / 2 = c by omega, show (2 * bkc t c (qJ t c) + 1) / 2 = bkc t c (qJ t c) by omega]
      have ez : ∀ z, z ∈ pl t (tC t) → z / 2 < tC t ∧ lbc t (z / 2) = lbc t c := fun z hz => by
        obtain ⟨a, b, d⟩ := mem_plC.mp hz
        exact ⟨by omega, minz _ (by omega) d⟩
      have ebk := bkc_eq hc q2
      by_cases w : qJ t c ≤ c
      · left
        rw [if_pos w] at ebk
        refine ⟨by omega, fun z hz hk => ?_⟩
        obtain ⟨z1, z2⟩ := ez z hz
        have hk' : tC t - 1 - c < tC t - 1 - z / 2 := hk
        show tC t - 1 - bkc t c (qJ t c) ≤ tC t - 1 - z / 2
        by_cases w2 : z / 2 ≤ bkc t c (qJ t c)
        · omega
        · have h5 := q4 (c - z / 2) (by omega) (by omega)
          rw [bkc_eq hc (by omega), if_pos (by omega), show c - (c - z / 2) = z / 2 by omega] at h5
          omega
      · right
        rw [if_neg w] at ebk
        refine ⟨fun z hz => ?_, fun z hz => ?_⟩
        · obtain ⟨z1, z2⟩ := ez z hz
          show tC t - 1 - z / 2 ≤ tC t - 1 - c
          by_cases w2 : c ≤ z / 2
          · omega
          · have h5 := q4 (c - z / 2) (by omega) (by omega)
            rw [bkc_eq hc (by omega), if_pos (by omega), show c - (c - z / 2) = z / 2 by omega] at h5
            omega
        · obtain ⟨z1, z2⟩ := ez z hz
          show tC t - 1 - bkc t c (qJ t c) ≤ tC t - 1 - z / 2
          by_cases w2 : z / 2 ≤ bkc t c (qJ t c)
          · omega
          · have h5 := q4 (c + tC t - z / 2) (by omega) (by omega)
            rw [bkc_eq hc (by omega), if_neg (by omega), show c + tC t - (c + tC t - z / 2) = z / 2 by omega] at h5
            omega
    rw [e, fc_1]
  · -- to an heir
    obtain ⟨b1, b2, b3, b4, b5⟩ := bo_odd hv hc hr
    obtain ⟨c1, -⟩ := lb_heir hv hl hn hc hr
    generalize hs : hrN t c = s at *
    generalize hj : boJ t c = j at *
    have hsA := tA_le hv b1
    have erid : rid t (2 * c + 1) = tA t s := by
      unfold rid
      rw [if_neg (by omega), show (2 * c + 1) / 2 = c by omega, if_neg hr, hs]
    have erl : rlt t (rid t (2 * c + 1)) = vl t (tA t s) (tC t) := by unfold rlt; rw [erid, if_pos hsA]
    have hx : 2 * c + 1 ∈ vl t (tA t s) (tC t) := (mem_vlC hv).mpr ⟨by omega, Or.inr ⟨by omega, by rw [show (2 * c + 1) / 2 = c by omega]; exact hr, by rw [show (2 * c + 1) / 2 = c by omega, hs]⟩⟩
    have kx : keyJ t (2 * c + 1) = s * (tC t + 1) + j := by rw [key_1, hs, hj]
    -- corners farther back
    have bkq : ∀ i, j + i ≤ tC t → bkc t s (j + i) = bkc t c i := fun i hi => by rw [← bkc_bkc b1 hi, b4]
    have qle : qJ t c + j ≤ tC t := by
      by_cases w : qJ t c + j ≤ tC t
      · exact w
      · exfalso
        have h5 := q4 (tC t - j) (by omega) (by omega)
        rw [← bkq (tC t - j) (by omega), show j + (tC t - j) = tC t by omega, bkc_eq b1 (Nat.le_refl _), if_neg (by omega), show s + tC t - tC t = s by omega] at h5
        omega
    by_cases ql : lbc t (bkc t c (qJ t c)) = lbc t c
    · have qlt : qJ t c + j < tC t := by
        by_cases w : qJ t c + j < tC t
        · exact w
        · exfalso
          have e1 : qJ t c + j = tC t := by omega
          rw [← bkq (qJ t c) (by omega), show j + qJ t c = tC t by omega, bkc_eq b1 (Nat.le_refl _), if_neg (by omega), show s + tC t - tC t = s by omega] at ql
          omega
      -- its heir is the same
      have eqs : (bkc t c (qJ t c) + (qJ t c + j)) % tC t = s := by
        rw [← bkq (qJ t c) (by omega), show qJ t c + j = j + qJ t c by omega]
        exact bkc_add b1 (by omega)
      have hq : hrV t (bkc t c (qJ t c)) ≠ -1 ∧ hrN t (bkc t c (qJ t c)) = s ∧ boJ t (bkc t c (qJ t c)) = j + qJ t c := by
        have off : ∀ a, a < qJ t c + j → lbc t c ≤ lbc t ((bkc t c (qJ t c) + a) % tC t) := fun a ha => by
          have e0 : (bkc t c (qJ t c) + a) % tC t = bkc t s (j + qJ t c - a) := by
            have e1 := bkc_bkc (t := t) (s := s) (j := j + qJ t c - a) (i := a) b1 (by omega)
            rw [show j + qJ t c - a + a = j + qJ t c by omega, bkq (qJ t c) (by omega)] at e1
            have e2 := bkc_add (t := t) (c := bkc t s (j + qJ t c - a)) (i := a) (bkc_lt t _ _) (by omega)
            rw [e1] at e2; exact e2
          rw [e0]
          by_cases w : j + qJ t c - a ≤ j
          · have := lb_btw hv hl hn hc hr (k := j + qJ t c - a) (by omega) (by rw [hj]; exact w)
            rw [hs] at this; exact this
          · rw [show j + qJ t c - a = j + (qJ t c - a) by omega, bkq _ (by omega)]
            by_cases a0 : a = 0
            · rw [a0, Nat.sub_zero, ql]; exact Int.le_refl _
            · have := q4 (qJ t c - a) (by omega) (by omega)
              omega
        rcases HRc hv hl hn hqN with g | ⟨j', g1, g2, g3, g4, g5⟩
        · have := g.2 s b1
          omega
        · have ej : j' = qJ t c + j := by
            by_cases w : j' < qJ t c + j
            · have := off j' w; omega
            · by_cases w2 : qJ t c + j < j'
              · have := g5 _ w2
                rw [eqs] at this; omega
              · omega
          rw [ej, eqs] at g3
          have h7 := hrN_of hv b1 g3
          refine ⟨h7.2, h7.1, ?_⟩
          unfold boJ
          rw [h7.1, ← bkq (qJ t c) (by omega)]
          exact bo_bkc b1 (by omega) (by omega)
      obtain ⟨hq1, hq2, hq3⟩ := hq
      have hy : 2 * bkc t c (qJ t c) + 1 ∈ vl t (tA t s) (tC t) := (mem_vlC hv).mpr ⟨by omega, Or.inr ⟨by omega, by rw [show (2 * bkc t c (qJ t c) + 1) / 2 = bkc t c (qJ t c) by omega]; exact hq1, by rw [show (2 * bkc t c (qJ t c) + 1) / 2 = bkc t c (qJ t c) by omega, hq2]⟩⟩
      have e : trX t (2 * c + 1) = 2 * bkc t c (qJ t c) + 1 := by
        unfold trX
        rw [erl]
        refine nx_eq (key := keyJ t) (vl_sort hv (tC t) (Nat.le_refl _)).1 hx hy (Or.inl ⟨?_, fun z hz hk => ?_⟩)
        · rw [kx, key_1, hq2, hq3]; omega
        · rw [kx] at hk
          rw [key_1, hq2, hq3]
          obtain ⟨b, r, r1, r2, r3, r4, r5, r6⟩ := blk hv hz
          rw [r5] at hk ⊢
          by_cases w : b < s
          · have := mul_lt' (C := tC t) w; omega
          · by_cases w2 : s < b
            · have := mul_lt' (C := tC t) w2; omega
            · have eb : b = s := by omega
              rw [eb] at hk ⊢
              rcases r6 with ⟨-, er⟩ | ⟨z', z1, z2, z3, z4, z5, z6⟩
              · omega
              · by_cases w3 : j + qJ t c ≤ r
                · omega
                · exfalso
                  obtain ⟨-, -, -, y4, -⟩ := bo_odd hv z1 z3
                  rw [z4, z5, eb] at y4
                  have hz7 := (lb_heir hv hl hn z1 z3).1
                  rw [z4, eb] at hz7
                  have h8 := q4 (r - j) (by omega) (by omega)
                  rw [← bkq (r - j) (by omega), show j + (r - j) = r by omega, y4] at h8
                  omega
      rw [e, fc_1]
    · -- the step into c goes up
      have qi1 : qJ t c = 1 := by
        by_cases w : qJ t c = 1
        · exact w
        · exfalso
          have h5 := q4 (qJ t c - 1) (by omega) (by omega)
          have h6 := (lip hv hl hn hqN).1
          have e0 : (bkc t c (qJ t c) + 1) % tC t = bkc t c (qJ t c - 1) := by
            have e1 := bkc_bkc (t := t) (s := c) (j := qJ t c - 1) (i := 1) hc (by omega)
            rw [show qJ t c - 1 + 1 = qJ t c by omega] at e1
            have e2 := bkc_add (t := t) (c := bkc t c (qJ t c - 1)) (i := 1) (bkc_lt t _ _) (by omega)
            rw [e1] at e2; exact e2
          rw [e0] at h6
          omega
      have lq : lbc t (bkc t c 1) = lbc t s := by
        have h6 := (lip hv hl hn (bkc_lt t c 1)).1
        rw [bkc_add hc (by omega)] at h6
        rw [qi1] at q3 ql
        omega
      have hy : 2 * s ∈ vl t (tA t s) (tC t) := (mem_vlC hv).mpr ⟨by omega, Or.inl ⟨by omega, by rw [show 2 * s / 2 = s by omega]⟩⟩
      have e : trX t (2 * c + 1) = 2 * s := by
        unfold trX
        rw [erl]
        refine nx_eq (key := keyJ t) (vl_sort hv (tC t) (Nat.le_refl _)).1 hx hy (Or.inl ⟨?_, fun z hz hk => ?_⟩)
        · rw [kx, key_0]; omega
        · rw [kx] at hk
          rw [key_0]
          obtain ⟨b, r, r1, r2, r3, r4, r5, r6⟩ := blk hv hz
          rw [r5] at hk ⊢
          by_cases w : b < s
          · have := mul_lt' (C := tC t) w; omega
          · by_cases w2 : s < b
            · have := mul_lt' (C := tC t) w2; omega
            · have eb : b = s := by omega
              rw [eb] at hk ⊢
              rcases r6 with ⟨-, er⟩ | ⟨z', z1, z2, z3, z4, z5, z6⟩
              · omega
              · exfalso
                have hz7 := (lb_heir hv hl hn z1 z3).1
                rw [z4, eb] at hz7
                have h8 := lb_btw hv hl hn z1 z3 (k := j + 1) (by omega) (by omega)
                rw [z4, eb, bkq 1 (by omega), lq] at h8
                omega
      rw [e, fc_0]
      have eq2 : qJ t s = j + 1 := by
        have hj1 : j + 1 ≤ tC t := by omega
        refine q_un b1 (by omega) hj1 (by rw [bkq 1 hj1, lq]; exact Int.le_refl _) (fun k k1 k2 => ?_)
        have := lb_btw hv hl hn hc hr (k := k) k1 (by omega)
        rw [hs] at this
        omega
      rw [eq2, bkq 1 (by omega), qi1]
/-- the face behind the end of an arc -/
theorem face1 (hv : TV t) (hl : TL t) (hn : 1 ≤ tn t) {c : Nat} (hc : c < tC t) : fcJ t (trX t (2 * c)) = fcJ t (2 * c + 1) := by
  have hC := tC_pos t
  have eC : tC t = 2 * tn t := by unfold tC; rw [if_neg (by omega)]
  rw [fc_1]
  obtain ⟨c', n1, n2, n3, n4⟩ := nxc hv.2.1 (show c < 2 * tn t by omega)
  have n1' : c' < tC t := by omega
  have n2' : tA t c' = tA t c := n2
  have et : (c' + 2 * tn t - 1) % (2 * tn t) = bkc t c' 1 := by unfold bkc; rw [eC]
  rw [et] at n4
  have hA := tA_le hv hc
  have erid : rid t (2 * c) = tA t c := by unfold rid; rw [if_pos (by omega), show 2 * c / 2 = c by omega]
  have erl : rlt t (rid t (2 * c)) = vl t (tA t c) (tC t) := by unfold rlt; rw [erid, if_pos hA]
  have hx : 2 * c ∈ vl t (tA t c) (tC t) := (mem_vlC hv).mpr ⟨by omega, Or.inl ⟨by omega, by rw [show 2 * c / 2 = c by omega]⟩⟩
  have hτ := bkc_lt t c' 1
  -- the first of the corner's darts
  have first : ∀ y, y ∈ vl t (tA t c) (tC t) → (∃ r, keyJ t y = c' * (tC t + 1) + r ∧ 1 ≤ r ∧ r ≤ tC t ∧ ∀ z, z ∈ vl t (tA t c) (tC t) → ∀ r', keyJ t z = c' * (tC t + 1) + r' → 1 ≤ r' → r' ≤ tC t → r ≤ r') → trX t (2 * c) = y := fun y hy ⟨r, k1, k2, k3, k4⟩ => by
    unfold trX
    rw [erl]
    refine nx_eq (key := keyJ t) (vl_sort hv (tC t) (Nat.le_refl _)).1 hx hy ?_
    rw [key_0, k1]
    rcases n3 with ⟨m1, m2⟩ | ⟨m1, m2⟩
    · left
      refine ⟨by have := mul_lt' (C := tC t) m1; omega, fun z hz hk => ?_⟩
      obtain ⟨b, r', r1, r2, r3, r4, r5, r6⟩ := blk hv hz
      rw [r5] at hk ⊢
      have hbc : c < b := by
        by_cases w : c < b
        · exact w
        · by_cases w2 : b = c
          · rw [w2] at hk; omega
          · have := mul_lt' (C := tC t) (show b < c by omega); omega
      by_cases w : b < c'
      · exact absurd r2 (m2 b hbc w)
      · by_cases w2 : b = c'
        · rw [w2] at r5 ⊢
          have := k4 z hz r' r5 r3 r4
          omega
        · have := mul_lt' (C := tC t) (show c' < b by omega); omega
    · right
      refine ⟨fun z hz => ?_, fun z hz => ?_⟩
      · obtain ⟨b, r', r1, r2, r3, r4, r5, r6⟩ := blk hv hz
        rw [r5]
        have hbc : b ≤ c := by
          by_cases w : b ≤ c
          · exact w
          · exact absurd r2 (m1 b (by omega) (by omega))
        by_cases w : b = c
        · rw [w]; omega
        · have := mul_lt' (C := tC t) (show b < c by omega); omega
      · obtain ⟨b, r', r1, r2, r3, r4, r5, r6⟩ := blk hv hz
        rw [r5]
        by_cases w : b < c'
        · exact absurd r2 (m2 b w)
        · by_cases w2 : b = c'
          · rw [w2] at r5 ⊢
            have := k4 z hz r' r5 r3 r4
            omega
          · have := mul_lt' (C := tC t) (show c' < b by omega); omega
  have uniq : ∀ {b r r' : Nat}, 1 ≤ r → r ≤ tC t → 1 ≤ r' → r' ≤ tC t → b * (tC t + 1) + r = c' * (tC t + 1) + r' → b = c' ∧ r = r' := fun {b r r'} h1 h2 h3 h4 h5 => by
    by_cases w : b < c'
    · have := mul_lt' (C := tC t) w; omega
    · by_cases w2 : c' < b
      · have := mul_lt' (C := tC t) w2; omega
      · have : b = c' := by omega
        subst this
        exact ⟨rfl, by omega⟩
  by_cases hd : lbc t (bkc t c' 1) = lbc t c' + 1
  · -- the step into c' goes down: its arc is the first
    have hadd : (bkc t c' 1 + 1) % tC t = c' := bkc_add n1' (by omega)
    have hC2 : 1 < tC t := by omega
    have hrτ : hrV t (bkc t c' 1) = nI c' := by
      rcases HRc hv hl hn hτ with g | ⟨j, g1, g2, g3, g4, g5⟩
      · have := g.2 c' n1'; omega
      · have : j = 1 := by
          by_cases w : j = 1
          · exact w
          · have := g5 1 (by omega)
            rw [hadd] at this; omega
        rw [this, hadd] at g3; exact g3
    have h7 := hrN_of hv n1' hrτ
    have hy : 2 * bkc t c' 1 + 1 ∈ vl t (tA t c) (tC t) := (mem_vlC hv).mpr ⟨by omega, Or.inr ⟨by omega, by rw [show (2 * bkc t c' 1 + 1) / 2 = bkc t c' 1 by omega]; exact h7.2, by rw [show (2 * bkc t c' 1 + 1) / 2 = bkc t c' 1 by omega, h7.1]; exact n2'⟩⟩
    have e := first _ hy ⟨1, key_bk hv n1' (Nat.le_refl _) hC2 hrτ, Nat.le_refl _, by omega, fun z hz r' _ h1 _ => h1⟩
    rw [e, fc_1]; exact n4
  · -- no arc ends here
    have hlτ : lbc t (bkc t c' 1) ≤ lbc t c' := by
      have h6 := (lip hv hl hn hτ).2
      rw [bkc_add n1' (by omega)] at h6
      omega
    have hy : 2 * c' ∈ vl t (tA t c) (tC t) := (mem_vlC hv).mpr ⟨by omega, Or.inl ⟨by omega, by rw [show 2 * c' / 2 = c' by omega]; exact n2'⟩⟩
    have e := first _ hy ⟨tC t, key_0, hC, Nat.le_refl _, fun z hz r' k1 k2 k3 => by
      obtain ⟨b, r, r1, r2, r3, r4, r5, r6⟩ := blk hv hz
      obtain ⟨u1, u2⟩ := uniq r3 r4 k2 k3 (r5.symm.trans k1)
      rcases r6 with ⟨-, er⟩ | ⟨z', z1, z2, z3, z4, z5, z6⟩
      · omega
      · exfalso
        have hz7 := (lb_heir hv hl hn z1 z3).1
        have h8 := lb_btw hv hl hn z1 z3 (k := 1) (Nat.le_refl _) (by omega)
        rw [z4, u1] at h8 hz7
        omega⟩
    rw [e, fc_0, q_un n1' (Nat.le_refl _) hC hlτ (fun j j1 j2 => by omega)]
    exact n4
theorem trM_Conn (hv : TV t) (hl : TL t) {sg : Nat} (hsg : sg < 2) : Conn (trM t sg) := by
  intro S s1 s2 a b ha hb hS
  have hC := tC_pos t
  have hR := tr_Rds hv
  have hP := (trM_PV hv hsg).2.1
  have eN : pN (trM t sg) = 2 * tC t := rfl
  have orb : ∀ k x, x < 2 * tC t → S x → S (it (trX t) k x) := fun k => by
    induction k with
    | zero => intro x _ h; exact h
    | succ k ih => intro x hx h; exact ih _ (hP.1 x hx) (s1 x hx h)
  have same : ∀ x y, x < 2 * tC t → y < 2 * tC t → rid t x = rid t y → S x → S y := fun x y hx hy e h => by
    obtain ⟨k, hk⟩ := (rds_orb hR hx hy).mpr e
    have := orb k x hx h
    have e2 : it (trX t) k x = y := hk
    rw [e2] at this; exact this
  have o0 : ∀ c, ox (2 * c) = 2 * c + 1 := fun c => by unfold ox; rw [if_pos (by omega)]
  have o1 : ∀ c, ox (2 * c + 1) = 2 * c := fun c => by unfold ox; rw [if_neg (by omega)]; omega
  have S1 : ∀ c, c < tC t → (S (2 * c) ↔ S (2 * c + 1)) := fun c hc => ⟨fun h => by have := s2 (2 * c) (by rw [eN]; omega) h; rw [o0] at this; exact this, fun h => by have := s2 (2 * c + 1) (by rw [eN]; omega) h; rw [o1] at this; exact this⟩
  obtain ⟨p, hp, hpr⟩ : ∃ p, p < tC t ∧ hrV t p = -1 := Classical.byContradiction fun no => hr_ex hv hl (fun c hc e => no ⟨c, hc, e⟩)
  have r0 : ∀ c, rid t (2 * c) = tA t c := fun c => by unfold rid; rw [if_pos (by omega), show 2 * c / 2 = c by omega]
  have r1 : ∀ c, rid t (2 * c + 1) = if hrV t c = -1 then tn t + 1 else tA t (hrN t c) := fun c => by
    unfold rid
    rw [if_neg (show ¬ (2 * c + 1) % 2 = 0 by omega), show (2 * c + 1) / 2 = c by omega]
  have main : ∀ (k c : Nat), c < tC t → lbc t c + 8 ≤ (k : Int) → (S (2 * c) ↔ S (2 * p + 1)) := by
    intro k
    induction k using Nat.strongRecOn with
    | _ k ih =>
      intro c hc hk
      rw [S1 c hc]
      by_cases h : hrV t c = -1
      · have e : rid t (2 * c + 1) = rid t (2 * p + 1) := by
          rw [r1, r1, if_pos h, if_pos hpr]
        exact ⟨same _ _ (by omega) (by omega) e, same _ _ (by omega) (by omega) e.symm⟩
      · obtain ⟨b1, -, -, -, b5⟩ := bo_odd hv hc h
        have e : rid t (2 * c + 1) = rid t (2 * hrN t c) := by
          rw [r0, r1, if_neg h]
        have hlt : lbc t (hrN t c) = lbc t c - 1 := by
          rcases hrV_spec t c with g | ⟨j, -, -, g3, g4, -⟩
          · exact absurd g.1 h
          · have hm := Nat.mod_lt (c + j) hC
            rw [(hrN_of hv hm g3).1]
            exact (lb_hr hv hl hc).mp g4
        have h8 := lb_sm hv hl b1
        have := ih (k - 1) (by omega) (hrN t c) b1 (by omega)
        rw [← this]
        exact ⟨same _ _ (by omega) (by omega) e, same _ _ (by omega) (by omega) e.symm⟩
  have all : ∀ x, x < 2 * tC t → (S x ↔ S (2 * p + 1)) := fun x hx => by
    have hc : x / 2 < tC t := by omega
    have h8 := lb_sm hv hl hc
    have := main (lbc t (x / 2) + 8).toNat (x / 2) hc (by omega)
    by_cases q : x % 2 = 0
    · rw [show x = 2 * (x / 2) by omega]; exact this
    · rw [show x = 2 * (x / 2) + 1 by omega, ← S1 _ hc]; exact this
  exact (all b hb).mpr ((all a ha).mp hS)
theorem tA_sur (hv : TV t) {v : Nat} (h : v ≤ tn t) : ∃ c, c < tC t ∧ tA t c = v := by
  have hD := hv.2.1
  by_cases h0 : v = 0
  · exact ⟨0, tC_pos t, by rw [h0]; rfl⟩
  · have eC : tC t = 2 * tn t := by unfold tC; rw [if_neg (by omega)]
    have hU := Dyck_ups hD
    obtain ⟨i, i1, i2, i3⟩ := cn_hit (P := fun j => decide (ts t j = 1)) (k := 2 * tn t) (v := v - 1) (by
      have : ups (ts t) (2 * tn t) = cnB (fun j => decide (ts t j = 1)) (2 * tn t) := rfl
      omega)
    have hu : ts t i = 1 := of_decide_eq_true i2
    have eu : ups (ts t) i = v - 1 := i3
    obtain ⟨p, p1, p2, -⟩ := retJ hD i1 hu
    refine ⟨i + 1, by omega, ?_⟩
    have := (A_up hD i1 hu).1
    show (tw (ts t) (i + 1)).1 = v
    omega
theorem trM_MV (hv : TV t) (hl : TL t) {sg : Nat} (hsg : sg < 2) : MV (trM t sg) := by
  have hP := trM_PV hv hsg
  have hC := tC_pos t
  have h0 : 0 < (trM t sg).1 := hC
  refine MV_of hP (trM_Conn hv hl hsg) ?_
  have hR := tr_Rds hv
  have v : tn t + 2 ≤ pVn (trM t sg) := by
    rw [vn_pos h0]
    refine ct_geN (ps := rid t) hP.2.1 (fun x hx => ?_) (fun c hc => ?_)
    · exact ((hR x hx).2.2 _ (nxL_mem (hR x hx).1)).2
    · by_cases q : c ≤ tn t
      · obtain ⟨k, k1, k2⟩ := tA_sur hv q
        refine ⟨2 * k, by show 2 * k < 2 * tC t; omega, ?_⟩
        unfold rid
        rw [if_pos (by omega), show 2 * k / 2 = k by omega]; exact k2
      · obtain ⟨p, hp, hpr⟩ : ∃ p, p < tC t ∧ hrV t p = -1 := Classical.byContradiction fun no => hr_ex hv hl (fun c hc e => no ⟨c, hc, e⟩)
        refine ⟨2 * p + 1, by show 2 * p + 1 < 2 * tC t; omega, ?_⟩
        unfold rid
        rw [if_neg (by omega), show (2 * p + 1) / 2 = p by omega, if_pos hpr]; omega
  by_cases hn : tn t = 0
  · have f := pFn_pos hP
    have eC : tC t = 1 := by unfold tC; rw [if_pos hn]
    show tC t + 2 ≤ _
    omega
  · have eC : tC t = 2 * tn t := by unfold tC; rw [if_neg hn]
    have f : tn t ≤ pFn (trM t sg) := by
      rw [fn_pos h0]
      refine ct_geN (ps := fcJ t) (pF_perm hP.2.1) (fun x hx => ?_) (fun c hc => ?_)
      · have hx' : x < 2 * tC t := hx
        show fcJ t (trX t (ox x)) = fcJ t x
        by_cases q : x % 2 = 0
        · have e : x = 2 * (x / 2) := by omega
          rw [e, show ox (2 * (x / 2)) = 2 * (x / 2) + 1 by unfold ox; rw [if_pos (by omega)]]
          exact face0 hv hl (by omega) (by omega)
        · have e : x = 2 * (x / 2) + 1 := by omega
          rw [e, show ox (2 * (x / 2) + 1) = 2 * (x / 2) by unfold ox; rw [if_neg (by omega)]; omega]
          exact face1 hv hl (by omega) (by omega)
      · have hU := Dyck_ups hv.2.1
        obtain ⟨i, i1, i2, i3⟩ := cn_hit (P := fun j => decide (ts t j = 1)) (k := 2 * tn t) (v := c) (by
          have : ups (ts t) (2 * tn t) = cnB (fun j => decide (ts t j = 1)) (2 * tn t) := rfl
          omega)
        refine ⟨2 * i + 1, by show 2 * i + 1 < 2 * tC t; omega, ?_⟩
        rw [fc_1]
        unfold edJ
        rw [if_pos (of_decide_eq_true i2)]
        exact i3
    show tC t + 2 ≤ _
    omega
end TUV
