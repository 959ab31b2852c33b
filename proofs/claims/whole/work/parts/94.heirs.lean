/-! PURE: rounds in order; labels round the tree; faces of a tree's map -/
theorem nx_eq {l : List Nat} {key : Nat → Nat} (hs : l.Pairwise (fun a b => key a < key b)) {x y : Nat} (hx : x ∈ l) (hy : y ∈ l) (h : (key x < key y ∧ ∀ z, z ∈ l → key x < key z → key y ≤ key z) ∨ ((∀ z, z ∈ l → key z ≤ key x) ∧ ∀ z, z ∈ l → key y ≤ key z)) : nxL l x = y := by
  have hi := List.idxOf_lt_length_of_mem hx
  have hj := List.idxOf_lt_length_of_mem hy
  have ex := at_idx hx
  have ey := at_idx hy
  have mono : ∀ a b, a < b → b < l.length → key (l.getD a 0) < key (l.getD b 0) := fun a b h1 h2 => by
    rw [getD_at (show a < l.length by omega), getD_at h2]
    exact List.pairwise_iff_getElem.mp hs a b (by omega) h2 h1
  have memD : ∀ a, a < l.length → l.getD a 0 ∈ l := fun a ha => getD_mem ha
  unfold nxL
  generalize l.idxOf x = i at *
  generalize l.idxOf y = j at *
  have goal : (i + 1) % l.length = j := by
    rcases h with ⟨h1, h2⟩ | ⟨h1, h2⟩
    · have hij : i < j := by
        by_cases q : i < j
        · exact q
        · by_cases e : j = i
          · rw [e] at ey; rw [← ex, ← ey] at h1; omega
          · have := mono j i (by omega) hi
            rw [ex, ey] at this; omega
      have h3 := h2 _ (memD (i + 1) (by omega)) (by have := mono i (i + 1) (by omega) (by omega); rw [ex] at this; exact this)
      have : j = i + 1 := by
        by_cases q : j = i + 1
        · exact q
        · have := mono (i + 1) j (by omega) hj
          rw [ey] at this; omega
      rw [Nat.mod_eq_of_lt (by omega)]; omega
    · have e1 : i + 1 = l.length := by
        by_cases q : i + 1 = l.length
        · exact q
        · have h3 := mono i (i + 1) (by omega) (by omega)
          have h4 := h1 _ (memD (i + 1) (by omega))
          rw [ex] at h3; omega
      have e2 : j = 0 := by
        by_cases q : j = 0
        · exact q
        · have h3 := mono 0 j (by omega) hj
          have h4 := h2 _ (memD 0 (by omega))
          rw [ey] at h3; omega
      rw [e1, Nat.mod_self, e2]
  rw [goal, ey]
section HRS
variable {t : PTr}
def boJ (t : PTr) (c : Nat) : Nat := (hrN t c + tC t - c) % tC t
def keyJ (t : PTr) (z : Nat) : Nat := if z % 2 = 0 then (z / 2) * (tC t + 1) + tC t else hrN t (z / 2) * (tC t + 1) + boJ t (z / 2)
theorem bkc_add {c i : Nat} (hc : c < tC t) (hi : i ≤ tC t) : (bkc t c i + i) % tC t = c := by
  rw [bkc_eq hc hi]
  by_cases q : i ≤ c
  · rw [if_pos q, show c - i + i = c by omega, Nat.mod_eq_of_lt hc]
  · rw [if_neg q, show c + tC t - i + i = c + tC t by omega, Nat.add_mod_right, Nat.mod_eq_of_lt hc]
theorem bo_bkc {c i : Nat} (hc : c < tC t) (h1 : 1 ≤ i) (hi : i < tC t) : (c + tC t - bkc t c i) % tC t = i := by
  rw [bkc_eq hc (by omega)]
  by_cases q : i ≤ c
  · rw [if_pos q, show c + tC t - (c - i) = i + tC t by omega, Nat.add_mod_right, Nat.mod_eq_of_lt hi]
  · rw [if_neg q, show c + tC t - (c + tC t - i) = i by omega, Nat.mod_eq_of_lt hi]
theorem key_bk (hv : TV t) {c j : Nat} (hc : c < tC t) (h1 : 1 ≤ j) (hj : j < tC t) (h : hrV t (bkc t c j) = nI c) : keyJ t (2 * bkc t c j + 1) = c * (tC t + 1) + j := by
  have e := (hrN_of hv hc h).1
  unfold keyJ
  rw [if_neg (by omega), show (2 * bkc t c j + 1) / 2 = bkc t c j by omega, e]
  unfold boJ
  rw [e, bo_bkc hc h1 hj]
theorem bk_sort (hv : TV t) {c : Nat} (hc : c < tC t) : ∀ k, k < tC t → (bk t c k).Pairwise (fun a b => keyJ t a < keyJ t b) ∧ ∀ z, z ∈ bk t c k → c * (tC t + 1) < keyJ t z ∧ keyJ t z ≤ c * (tC t + 1) + k
  | 0, _ => ⟨List.Pairwise.nil, fun z hz => (by cases hz)⟩
  | k + 1, hk => by
    obtain ⟨a, b⟩ := bk_sort hv hc k (by omega)
    show (bk t c k ++ (if hrV t (bkc t c (k + 1)) = nI c then [2 * bkc t c (k + 1) + 1] else [])).Pairwise _ ∧ ∀ z, z ∈ bk t c k ++ (if hrV t (bkc t c (k + 1)) = nI c then [2 * bkc t c (k + 1) + 1] else []) → _
    by_cases q : hrV t (bkc t c (k + 1)) = nI c
    · rw [if_pos q]
      have ek := key_bk hv hc (by omega) hk q
      refine ⟨List.pairwise_append.mpr ⟨a, List.pairwise_singleton _ _, fun y hy z hz => ?_⟩, fun z hz => ?_⟩
      · rw [List.mem_singleton] at hz
        have := b y hy
        rw [hz, ek]; omega
      · rcases List.mem_append.mp hz with w | w
        · have := b z w; omega
        · rw [List.mem_singleton] at w
          rw [w, ek]; omega
    · rw [if_neg q, List.append_nil]
      exact ⟨a, fun z hz => by have := b z hz; omega⟩
theorem vl_sort (hv : TV t) {v : Nat} : ∀ k, k ≤ tC t → (vl t v k).Pairwise (fun a b => keyJ t a < keyJ t b) ∧ ∀ z, z ∈ vl t v k → keyJ t z < k * (tC t + 1)
  | 0, _ => ⟨List.Pairwise.nil, fun z hz => (by cases hz)⟩
  | k + 1, hk => by
    obtain ⟨a, b⟩ := vl_sort hv k (by omega)
    have hC := tC_pos t
    obtain ⟨b1, b2⟩ := bk_sort hv (show k < tC t by omega) (tC t - 1) (by omega)
    have ek : keyJ t (2 * k) = k * (tC t + 1) + tC t := by unfold keyJ; rw [if_pos (by omega), show 2 * k / 2 = k by omega]
    have em : (k + 1) * (tC t + 1) = k * (tC t + 1) + (tC t + 1) := Nat.succ_mul _ _
    show (vl t v k ++ (if tA t k = v then bk t k (tC t - 1) ++ [2 * k] else [])).Pairwise _ ∧ ∀ z, z ∈ vl t v k ++ (if tA t k = v then bk t k (tC t - 1) ++ [2 * k] else []) → _
    by_cases q : tA t k = v
    · rw [if_pos q]
      refine ⟨List.pairwise_append.mpr ⟨a, List.pairwise_append.mpr ⟨b1, List.pairwise_singleton _ _, fun y hy z hz => ?_⟩, fun y hy z hz => ?_⟩, fun z hz => ?_⟩
      · rw [List.mem_singleton] at hz
        have := b2 y hy
        rw [hz, ek]; omega
      · have h1 := b y hy
        rcases List.mem_append.mp hz with w | w
        · have := b2 z w; omega
        · rw [List.mem_singleton] at w
          rw [w, ek]; omega
      · rcases List.mem_append.mp hz with w | w
        · have := b z w; omega
        · rcases List.mem_append.mp w with w | w
          · have := b2 z w; omega
          · rw [List.mem_singleton] at w
            rw [w, ek]; omega
    · rw [if_neg q, List.append_nil]
      exact ⟨a, fun z hz => by have := b z hz; omega⟩
theorem pl_sort : ∀ k, k ≤ tC t → (pl t k).Pairwise (fun a b => tC t - 1 - a / 2 < tC t - 1 - b / 2) ∧ ∀ z, z ∈ pl t k → tC t - 1 - z / 2 < k
  | 0, _ => ⟨List.Pairwise.nil, fun z hz => (by cases hz)⟩
  | k + 1, hk => by
    obtain ⟨a, b⟩ := pl_sort k (by omega)
    show (pl t k ++ (if hrV t (tC t - 1 - k) = -1 then [2 * (tC t - 1 - k) + 1] else [])).Pairwise _ ∧ ∀ z, z ∈ pl t k ++ (if hrV t (tC t - 1 - k) = -1 then [2 * (tC t - 1 - k) + 1] else []) → _
    have ek : tC t - 1 - (2 * (tC t - 1 - k) + 1) / 2 = k := by omega
    by_cases q : hrV t (tC t - 1 - k) = -1
    · rw [if_pos q]
      refine ⟨List.pairwise_append.mpr ⟨a, List.pairwise_singleton _ _, fun y hy z hz => ?_⟩, fun z hz => ?_⟩
      · rw [List.mem_singleton] at hz
        have := b y hy
        rw [hz, ek]; exact this
      · rcases List.mem_append.mp hz with w | w
        · have := b z w; omega
        · rw [List.mem_singleton] at w
          rw [w, ek]; omega
    · rw [if_neg q, List.append_nil]
      exact ⟨a, fun z hz => by have := b z hz; omega⟩
/-- labels as numbers -/
def lbc (t : PTr) (c : Nat) : Int := (tl t (tA t c)).toInt
theorem lb_sm (hv : TV t) (hl : TL t) {c : Nat} (hc : c < tC t) : -8 ≤ lbc t c ∧ lbc t c ≤ 8 := by
  have h := tl_small hv hl (tA t c) (tA_le hv hc)
  have h2 := tA_le hv hc
  have h8 : tn t ≤ 8 := hv.1
  unfold lbc
  omega
theorem sub1 {a : Int32} (h1 : -9 ≤ a.toInt) (h2 : a.toInt ≤ 9) : (a - 1).toInt = a.toInt - 1 := by
  have e1 : (1 : Int32).toInt = 1 := rfl
  rw [Int32.toInt_sub, e1, Int.bmod_eq_of_le] <;> omega
theorem add1 {a : Int32} (h1 : -9 ≤ a.toInt) (h2 : a.toInt ≤ 9) : (a + 1).toInt = a.toInt + 1 := by
  have e1 : (1 : Int32).toInt = 1 := rfl
  rw [Int32.toInt_add, e1, Int.bmod_eq_of_le] <;> omega
theorem lb_hr (hv : TV t) (hl : TL t) {c : Nat} (hc : c < tC t) {d : Nat} : tl t (tA t d) = tl t (tA t c) - 1 ↔ lbc t d = lbc t c - 1 := by
  have h := lb_sm hv hl hc
  have e : (tl t (tA t c) - 1).toInt = lbc t c - 1 := sub1 (by unfold lbc at h; omega) (by unfold lbc at h; omega)
  constructor
  · intro q
    unfold lbc at *
    rw [q]; exact e
  · intro q
    apply Int32.toInt_inj.mp
    rw [e]; exact q
theorem lip (hv : TV t) (hl : TL t) (hn : 1 ≤ tn t) {c : Nat} (hc : c < tC t) : lbc t ((c + 1) % tC t) ≤ lbc t c + 1 ∧ lbc t c ≤ lbc t ((c + 1) % tC t) + 1 := by
  have eC : tC t = 2 * tn t := by unfold tC; rw [if_neg (by omega)]
  have hD := hv.2.1
  have e1 : tA t ((c + 1) % tC t) = (tw (ts t) (c + 1)).1 := by
    by_cases q : c + 1 < tC t
    · rw [Nat.mod_eq_of_lt q]
    · have e : c + 1 = tC t := by omega
      rw [e, Nat.mod_self]
      show 0 = (tw (ts t) (tC t)).1
      obtain ⟨dp, d0, d1, d2⟩ := dp_ex hD
      have hz := d2 (2 * tn t) (Nat.le_refl _)
      rw [hD.2.2] at hz
      have hm := tw_m hD (Nat.le_refl (2 * tn t))
      have hU := Dyck_ups hD
      rw [eC]
      rcases Nat.eq_zero_or_pos (tw (ts t) (2 * tn t)).1 with z | z
      · exact z.symm
      · have := d1 _ z (by omega)
        omega
  have sm : ∀ u, u ≤ tn t → -8 ≤ (tl t u).toInt ∧ (tl t u).toInt ≤ 8 := fun u hu => by
    have h := tl_small hv hl u hu
    have h8 : tn t ≤ 8 := hv.1
    omega
  have key : ∀ u, 1 ≤ u → u ≤ tn t → (tl t u).toInt ≤ (tl t (tP t u)).toInt + 1 ∧ (tl t (tP t u)).toInt ≤ (tl t u).toInt + 1 := fun u u1 u2 => by
    have hp := tP_lt hv u1 u2
    have s1 := sm _ (show tP t u ≤ tn t by omega)
    rcases hl u u1 u2 with q | q | q
    · rw [q, sub1 (by omega) (by omega)]; omega
    · rw [q]; omega
    · rw [q, add1 (by omega) (by omega)]; omega
  unfold lbc
  rw [e1]
  by_cases hu : ts t c = 1
  · obtain ⟨a1, a2⟩ := A_up hD (show c < 2 * tn t by omega) hu
    have hlt := Dyck_lt hD (show c < 2 * tn t by omega) hu
    have := key (ups (ts t) c + 1) (by omega) (by omega)
    have ep : tP t (ups (ts t) c + 1) = tA t c := a2
    rw [ep] at this
    rw [a1]; omega
  · obtain ⟨a1, a2, -⟩ := A_pos hD (show c < 2 * tn t by omega) hu
    have := key (tA t c) a1 (tA_le hv hc)
    have ep : (tw (ts t) (c + 1)).1 = tP t (tA t c) := a2
    rw [ep]; omega
theorem HRc (hv : TV t) (hl : TL t) (hn : 1 ≤ tn t) {c : Nat} (hc : c < tC t) : (hrV t c = -1 ∧ ∀ d, d < tC t → lbc t c ≤ lbc t d) ∨ ∃ j, 1 ≤ j ∧ j < tC t ∧ hrV t c = nI ((c + j) % tC t) ∧ lbc t ((c + j) % tC t) = lbc t c - 1 ∧ ∀ i, i < j → lbc t c ≤ lbc t ((c + i) % tC t) := by
  have stepU : ∀ i, lbc t ((c + i) % tC t) ≤ lbc t ((c + (i + 1)) % tC t) + 1 := fun i => by
    have := (lip hv hl hn (Nat.mod_lt (c + i) (tC_pos t))).2
    rw [show ((c + i) % tC t + 1) % tC t = (c + (i + 1)) % tC t by rw [Nat.mod_add_mod]; rfl] at this
    exact this
  have e0 : lbc t ((c + 0) % tC t) = lbc t c := by rw [Nat.add_zero, Nat.mod_eq_of_lt hc]
  have up : ∀ J, (∀ j, 1 ≤ j → j < J → lbc t ((c + j) % tC t) ≠ lbc t c - 1) → ∀ i, i < J → lbc t c ≤ lbc t ((c + i) % tC t) := fun J hJ i => by
    induction i with
    | zero => intro _; rw [e0]; exact Int.le_refl _
    | succ i ih =>
      intro hi
      have a := ih (by omega)
      have b := stepU i
      have c' := hJ (i + 1) (by omega) hi
      omega
  rcases hrV_spec t c with ⟨h1, h2⟩ | ⟨j, h1, h2, h3, h4, h5⟩
  · left
    refine ⟨h1, fun d hd => ?_⟩
    have := up (tC t) (fun j j1 j2 z => h2 j j1 j2 ((lb_hr hv hl hc).mpr z)) ((d + tC t - c) % tC t) (Nat.mod_lt _ (tC_pos t))
    rw [show (c + (d + tC t - c) % tC t) % tC t = d by rw [Nat.add_mod_mod, show c + (d + tC t - c) = d + tC t by omega, Nat.add_mod_right, Nat.mod_eq_of_lt hd]] at this
    exact this
  · right
    exact ⟨j, h1, h2, h3, (lb_hr hv hl hc).mp h4, up j (fun i i1 i2 z => h5 i i1 i2 ((lb_hr hv hl hc).mpr z))⟩
/-- back to a label that is no greater -/
theorem q_ex {c : Nat} (hc : c < tC t) : ∃ i, (1 ≤ i ∧ i ≤ tC t ∧ lbc t (bkc t c i) ≤ lbc t c) ∧ ∀ j, j < i → ¬ (1 ≤ j ∧ j ≤ tC t ∧ lbc t (bkc t c j) ≤ lbc t c) := by
  refine least_p (P := fun i => 1 ≤ i ∧ i ≤ tC t ∧ lbc t (bkc t c i) ≤ lbc t c) (tC t) ⟨tC_pos t, Nat.le_refl _, ?_⟩
  rw [bkc_eq hc (Nat.le_refl _)]
  rw [if_neg (by omega), show c + tC t - tC t = c by omega]
  exact Int.le_refl _
noncomputable def qJ (t : PTr) (c : Nat) : Nat := @dite Nat (∃ i, (1 ≤ i ∧ i ≤ tC t ∧ lbc t (bkc t c i) ≤ lbc t c) ∧ ∀ j, j < i → ¬ (1 ≤ j ∧ j ≤ tC t ∧ lbc t (bkc t c j) ≤ lbc t c)) (Classical.propDecidable _) (fun h => h.choose) (fun _ => 0)
theorem q_sp {c : Nat} (hc : c < tC t) : (1 ≤ qJ t c ∧ qJ t c ≤ tC t ∧ lbc t (bkc t c (qJ t c)) ≤ lbc t c) ∧ ∀ j, 1 ≤ j → j < qJ t c → lbc t c < lbc t (bkc t c j) := by
  have h := q_ex hc
  have hs : (1 ≤ qJ t c ∧ qJ t c ≤ tC t ∧ lbc t (bkc t c (qJ t c)) ≤ lbc t c) ∧ ∀ j, j < qJ t c → ¬ (1 ≤ j ∧ j ≤ tC t ∧ lbc t (bkc t c j) ≤ lbc t c) := by
    unfold qJ
    rw [dif_pos h]
    exact h.choose_spec
  refine ⟨hs.1, fun j j1 j2 => ?_⟩
  have := hs.2 j j2
  by_cases q : lbc t (bkc t c j) ≤ lbc t c
  · exact absurd ⟨j1, by omega, q⟩ this
  · omega
theorem q_un {c i : Nat} (hc : c < tC t) (h1 : 1 ≤ i) (hi : i ≤ tC t) (h2 : lbc t (bkc t c i) ≤ lbc t c) (h3 : ∀ j, 1 ≤ j → j < i → lbc t c < lbc t (bkc t c j)) : qJ t c = i := by
  obtain ⟨⟨a1, a2, a3⟩, a4⟩ := q_sp hc
  by_cases q : qJ t c < i
  · have := h3 _ a1 q; omega
  · by_cases q2 : i < qJ t c
    · have := a4 i h1 q2; omega
    · omega
end HRS
