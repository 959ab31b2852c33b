/-! the class: rounds are made; a tree turned into a map -/
section RKM
variable {E : EN} {d : Nat}
/-- what the maker of rounds knows -/
def RmI (a b : Nat) (l : List Nat) (M : ME) : Prop := (l = [] → M.1 a 0 = -1) ∧ (l ≠ [] → M.1 a 0 = nI (l.getD 0 0) ∧ M.1 a 1 = nI (l.getD (l.length - 1) 0)) ∧ ∀ i, i + 1 < l.length → M.1 b (l.getD i 0) = nI (l.getD (i + 1) 0)
def tRk2 (a b : Nat) (k j : Nat) : Bool := (k == a && (j == 0 || j == 1)) || k == b
theorem tRk2_f {a b k j : Nat} (h : k ≠ a) (h2 : k ≠ b) : tRk2 a b k j = false := by simp [tRk2, h, h2]
theorem tRk2_b {a b j : Nat} : tRk2 a b b j = true := by simp [tRk2]
theorem getD_app1 {l : List Nat} {x i : Nat} (h : i < l.length) : (l ++ [x]).getD i 0 = l.getD i 0 := by simp [List.getD, List.getElem?_append_left h]
theorem getD_app2 {l : List Nat} {x : Nat} : (l ++ [x]).getD l.length 0 = x := by simp [List.getD]
theorem add_ev {a b x n : Nat} {l : List Nat} {M : ME} (T : isRK E a) (hb : shp E b = (1, n)) (hn : n < 2 ^ 31) (hab : a ≠ b) (hl : ∀ z, z ∈ l → z < n) (hnd : l.Nodup) (h : RmI a b l M) : EvV E d m5_add [.ref a, .int (nI x), .ref b] M (fun M' => RmI a b (l ++ [x]) M' ∧ Fr (tRk2 a b) M M' ∧ ∀ j, j ∉ l → M'.1 b j = M.1 b j) := by
  have t0 : tRk2 a b a 0 = true := by simp [tRk2]
  have t1 : tRk2 a b a 1 = true := by simp [tRk2]
  obtain ⟨h1, h2, h3⟩ := h
  by_cases q : l = []
  · have e0 := h1 q
    subst q
    refine Ev_of k5_add rfl (Nat.le_of_ble_eq_true rfl) (b5_add_0 T (fun z => absurd e0 z) (fun _ => b5_add_8 T (b5_add_23 T ⟨rfl, ⟨fun z => absurd z (by simp), fun _ => ⟨?_, ?_⟩, fun i hi => absurd hi (by simp)⟩, Fr_sI (Fr_sI (Fr_refl _ _) t0) t1, fun j _ => ?_⟩)))
    · rw [sI_ne (Or.inr (by decide)), sI_eq]; rfl
    · rw [sI_eq]; rfl
    · rw [sI_ne (Or.inl (Ne.symm hab)), sI_ne (Or.inl (Ne.symm hab))]
  · obtain ⟨e0, e1⟩ := h2 q
    have hlen : 0 < l.length := List.length_pos_iff.mpr q
    have hlast : l.getD (l.length - 1) 0 ∈ l := getD_mem (by omega)
    have hl0 := hl _ (getD_mem (show 0 < l.length from hlen))
    refine Ev_of k5_add rfl (Nat.le_of_ble_eq_true rfl) (b5_add_0 T (fun _ => b5_add_16 T hb hn (l.getD (l.length - 1) 0) e1 (hl _ hlast) (b5_add_23 T ⟨rfl, ⟨fun z => absurd z (by simp), fun _ => ⟨?_, ?_⟩, fun i hi => ?_⟩, Fr_sI (Fr_sI (Fr_refl _ _) tRk2_b) t1, fun j hj => ?_⟩)) (fun z => absurd z (by rw [show gI M a 0 = _ from e0]; exact nI_ne1 (by omega))))
    · rw [sI_ne (Or.inr (by decide)), sI_ne (Or.inl hab), getD_app1 hlen]; exact e0
    · rw [sI_eq]
      have : (l ++ [x]).length - 1 = l.length := by simp
      rw [this, getD_app2]
    · have hi' : i < l.length := by simp at hi; omega
      rw [sI_ne (Or.inl (Ne.symm hab)), sI_at, getD_app1 hi']
      by_cases ei : i = l.length - 1
      · rw [if_pos ⟨rfl, by rw [ei]⟩]
        have : i + 1 = l.length := by omega
        rw [this, getD_app2]
      · rw [if_neg (fun z => ei ?_)]
        · rw [getD_app1 (by omega)]; exact h3 i (by omega)
        · have this : l.idxOf (l.getD i 0) = l.idxOf (l.getD (l.length - 1) 0) := by rw [z.2]
          rw [idx_at hnd hi', idx_at hnd (by omega)] at this
          exact this
    · rw [sI_ne (Or.inl (Ne.symm hab)), sI_ne (Or.inr (fun z => hj (by rw [z]; exact hlast)))]
theorem close_ev {a b n : Nat} {l : List Nat} {M : ME} (T : isRK E a) (hb : shp E b = (1, n)) (hn : n < 2 ^ 31) (hl : ∀ z, z ∈ l → z < n) (hnd : l.Nodup) (h : RmI a b l M) : EvV E d m5_close [.ref a, .ref b] M (fun M' => (∀ x, x ∈ l → M'.1 b x = nI (nxL l x)) ∧ Fr (tR1 b) M M' ∧ ∀ j, j ∉ l → M'.1 b j = M.1 b j) := by
  obtain ⟨h1, h2, h3⟩ := h
  by_cases q : l = []
  · have e0 := h1 q
    subst q
    exact Ev_of k5_close rfl (Nat.le_of_ble_eq_true rfl) (b5_close_0 T (fun _ => b5_close_18 ⟨rfl, fun x hx => absurd hx (by simp), Fr_refl _ _, fun _ _ => rfl⟩) (fun z => absurd e0 z))
  · obtain ⟨e0, e1⟩ := h2 q
    have hlen : 0 < l.length := List.length_pos_iff.mpr q
    have hlast : l.getD (l.length - 1) 0 ∈ l := getD_mem (by omega)
    have hl0 := hl _ (getD_mem (show 0 < l.length from hlen))
    refine Ev_of k5_close rfl (Nat.le_of_ble_eq_true rfl) (b5_close_0 T (fun z => absurd z (by rw [show gI M a 0 = _ from e0]; exact nI_ne1 (by omega))) (fun _ => b5_close_8 T hb hn (l.getD (l.length - 1) 0) e1 (hl _ hlast) (b5_close_18 ⟨rfl, fun x hx => ?_, Fr_sI (Fr_refl _ _) (by simp [tR1]), fun j hj => sI_ne (Or.inr (fun z => hj (by rw [z]; exact hlast)))⟩)))
    have hi := List.idxOf_lt_length_of_mem hx
    rw [sI_at]
    by_cases ei : l.idxOf x = l.length - 1
    · have ex : x = l.getD (l.length - 1) 0 := by rw [← ei, at_idx hx]
      rw [if_pos ⟨rfl, ex⟩, show gI M a 0 = _ from e0]
      unfold nxL
      rw [ei, show l.length - 1 + 1 = l.length by omega, Nat.mod_self]
    · rw [if_neg (fun z => ei ?_)]
      · have := h3 (l.idxOf x) (by omega)
        rw [at_idx hx] at this
        rw [this]
        unfold nxL
        rw [Nat.mod_eq_of_lt (by omega)]
      · rw [z.2, idx_at hnd (by omega)]
end RKM
section CTU
variable {L : Nat} {xs : Nat → Int32} {d : Nat} {tab : Nat → Nat → Int64} {M : ME} {st : ST}
theorem bk_lt {t : PTr} (hv : TV t) {c k : Nat} : ∀ z, z ∈ bk t c k → z < 32 := fun z hz => by
  have hC := tC_le hv
  obtain ⟨j, h1, h2, h3, -⟩ := mem_bk.mp hz
  have := bkc_lt t c j
  omega
/-- l and the darts to an heir: apart -/
theorem addDarts_ev {a b c : Nat} {t : PTr} {l : List Nat} (ha : TRs a) (hb : RMs b) (hdr : M.2.2 1 4 = b) (hv : TV t) (hc : cT M a t) (hcc : c < tC t) (hl : ∀ z, z ∈ l → z < 32) (hnd : (l ++ bk t c (tC t - 1)).Nodup) (h : RmI 56 (b + 1) l M) : EvV (E0 L xs) (d + 1) m9_addDartsToHeir [.ref 1, .ref a, .int (nI c)] M (fun M' => RmI 56 (b + 1) (l ++ bk t c (tC t - 1)) M' ∧ Fr (tRk2 56 (b + 1)) M M' ∧ ∀ j, j ∉ l ++ bk t c (tC t - 1) → M'.1 (b + 1) j = M.1 (b + 1) j) := by
  have T := TRs_is (L := L) (xs := xs) ha
  have TB' := RMs_is (L := L) (xs := xs) hb
  have hC := tC_le hv
  have hp := tC_pos t
  have hb0 : b ≠ 0 := by have := RMs_lt hb; omega
  have hba : ∀ k, a ≤ k → k ≤ a + 5 → k ≠ 56 ∧ k ≠ b + 1 := fun k h1 h2 => by
    rcases ha with rfl | rfl | rfl <;> rcases hb with rfl | rfl | rfl | rfl | rfl <;> omega
  have CT : ∀ M1, Fr (tRk2 56 (b + 1)) M M1 → cT M1 a t := fun M1 f => cT_fr hc f (fun k j q1 q2 => tRk2_f (hba k q1 q2).1 (hba k q1 q2).2)
  refine Ev_of k9_addDartsToHeir rfl (Nat.le_of_ble_eq_true rfl) (b9_addDartsToHeir_0 T (ccorners_ev T hv hc.1.1) (fun r M0 hr => ?_))
  obtain ⟨rfl, rfl⟩ := hr
  refine b9_addDartsToHeir_4 ?_
  suffices hloop : ∀ (q k : Nat) (M1 : ME), 1 ≤ k → k + q = tC t → Fr (tRk2 56 (b + 1)) M0 M1 → RmI 56 (b + 1) (l ++ bk t c (k - 1)) M1 → (∀ j, j ∉ l ++ bk t c (k - 1) → M1.1 (b + 1) j = M0.1 (b + 1) j) → Wp (E0 L xs) (d + 1) m9_addDartsToHeir 11 [.ref 1, .ref a, .int (nI c), .int (nI (tC t)), .int (nI (bkc t c (k - 1))), .int (nI k)] [] M1 (fun v M' => v = none ∧ (RmI 56 (b + 1) (l ++ bk t c (tC t - 1)) M' ∧ Fr (tRk2 56 (b + 1)) M0 M' ∧ ∀ j, j ∉ l ++ bk t c (tC t - 1) → M'.1 (b + 1) j = M0.1 (b + 1) j)) by
    have := hloop (tC t - 1) 1 M0 (Nat.le_refl _) (by omega) (Fr_refl _ _) (by simpa [bk] using h) (fun _ _ => rfl)
    rw [show bkc t c (1 - 1) = c by unfold bkc; rw [Nat.sub_self, Nat.sub_zero, Nat.add_mod_right, Nat.mod_eq_of_lt hcc]] at this
    exact this
  intro q
  induction q with
  | zero =>
    intro k M1 hk1 hk f hI hfr
    have : k = tC t := by omega
    subst this
    exact b9_addDartsToHeir_11 (fun _ => b9_addDartsToHeir_71 ⟨rfl, hI, f, hfr⟩) (fun h => absurd (nI_le (Nat.le_refl _) (by omega)) h)
  | succ q ih =>
    intro k M1 hk1 hk f hI hfr
    have hlb := bkc_lt t c (k - 1)
    have hlb2 := bkc_lt t c k
    have hc1 := CT M1 f
    have hbk : bk t c k = bk t c (k - 1) ++ (if hrV t (bkc t c k) = nI c then [2 * bkc t c k + 1] else []) := by
      have : k = (k - 1) + 1 := by omega
      rw [this]; rfl
    have e5 : gI M1 (a + 5) (bkc t c k) = hrV t (bkc t c k) := hc1.2.2 _ hlb2
    have edr : gR M1 1 4 = b := by show M1.2.2 1 4 = b; rw [f.2]; exact hdr
    have hgo : Wp (E0 L xs) (d + 1) m9_addDartsToHeir 32 [.ref 1, .ref a, .int (nI c), .int (nI (tC t)), .int (nI (bkc t c (k - 1))), .int (nI k)] [.int (nI (bkc t c k))] M1 (fun v M' => v = none ∧ (RmI 56 (b + 1) (l ++ bk t c (tC t - 1)) M' ∧ Fr (tRk2 56 (b + 1)) M0 M' ∧ ∀ j, j ∉ l ++ bk t c (tC t - 1) → M'.1 (b + 1) j = M0.1 (b + 1) j)) := by
      refine b9_addDartsToHeir_32 T (bkc t c k) rfl (by omega) (fun h => b9_addDartsToHeir_65 ?_) (fun h => b9_addDartsToHeir_45 (R' := fun M' => RmI 56 (b + 1) (l ++ bk t c (k - 1) ++ [2 * bkc t c k + 1]) M' ∧ Fr (tRk2 56 (b + 1)) M1 M' ∧ ∀ j, j ∉ l ++ bk t c (k - 1) → M'.1 (b + 1) j = M1.1 (b + 1) j) (by rw [edr]; exact hb0) (by rw [edr]; exact TB') ?_ (fun M2 h2 => b9_addDartsToHeir_65 ?_))
      · rw [e5] at h
        rw [if_neg h, List.append_nil] at hbk
        rw [nI_1]
        refine ih (k + 1) M1 (by omega) (by omega) f ?_ ?_
        · rw [show k + 1 - 1 = k by omega, hbk]; exact hI
        · rw [show k + 1 - 1 = k by omega, hbk]; exact hfr
      · have e : 2 * nI (bkc t c k) + 1 = nI (2 * bkc t c k + 1) := by rw [nI_dbl, nI_1]
        rw [edr, e]
        refine add_ev rfl TB'.2.1 (by decide) (by rcases hb with rfl | rfl | rfl | rfl | rfl <;> decide) (fun z hz => ?_) ?_ hI
        · rw [List.mem_append] at hz
          exact hz.elim (hl z) (bk_lt hv z)
        · rw [List.nodup_append] at hnd ⊢
          refine ⟨hnd.1, nodup_bk hcc (by omega), fun x hx y hy => hnd.2.2 x hx y ?_⟩
          obtain ⟨j, a1, a2, a3⟩ := mem_bk.mp hy
          exact mem_bk.mpr ⟨j, a1, by omega, a3⟩
      · rw [e5] at h
        rw [if_pos h] at hbk
        rw [nI_1]
        refine ih (k + 1) M2 (by omega) (by omega) (Fr_trans f h2.2.1) ?_ ?_
        · rw [show k + 1 - 1 = k by omega, hbk, ← List.append_assoc]; exact h2.1
        · rw [show k + 1 - 1 = k by omega, hbk, ← List.append_assoc]
          intro j hj
          rw [List.mem_append, not_or] at hj
          exact (h2.2.2 j hj.1).trans (hfr j hj.1)
    refine b9_addDartsToHeir_11 (fun h => absurd ((nI_leI (by omega) (by omega)).mp h) (by omega)) (fun _ => b9_addDartsToHeir_17 (fun h => b9_addDartsToHeir_28 ?_) (fun h => b9_addDartsToHeir_22 ?_))
    · have h0 : bkc t c (k - 1) ≠ 0 := fun z => h (by rw [z]; rfl)
      have : bkc t c (k - 1) - 1 = bkc t c k := by
        rw [bkc_eq hcc (by omega)] at h0 ⊢
        rw [bkc_eq hcc (by omega)]
        split at h0 <;> (repeat' split) <;> omega
      rw [show nI (bkc t c (k - 1)) - 1 = nI (bkc t c k) by rw [← this]; exact i_sub (b := 1) (by omega)]
      exact hgo
    · have h0 : bkc t c (k - 1) = 0 := (nI_eq (b := 0) (by omega) (by decide)).mp h
      have : tC t - 1 = bkc t c k := by
        rw [bkc_eq hcc (by omega)] at h0 ⊢
        split at h0 <;> split <;> omega
      rw [show nI (tC t) - 1 = nI (bkc t c k) by rw [← this]; exact i_sub (b := 1) (by omega)]
      exact hgo
theorem vl_lt {t : PTr} (hv : TV t) {v n : Nat} (hn : n ≤ tC t) : ∀ z, z ∈ vl t v n → z < 32 := fun z hz => by
  have hC := tC_le hv
  obtain ⟨c, h1, h2, h3 | h3⟩ := mem_vl.mp hz
  · exact bk_lt hv z h3
  · omega
/-- the round of a vertex stands in the draft, other darts are as they were -/
def rdW (b : Nat) (l : List Nat) (M M' : ME) : Prop := (∀ x, x ∈ l → M'.1 (b + 1) x = nI (nxL l x)) ∧ Fr (tRk2 56 (b + 1)) M M' ∧ ∀ j, j ∉ l → M'.1 (b + 1) j = M.1 (b + 1) j
theorem makeVertex_ev {a b v : Nat} {t : PTr} (ha : TRs a) (hb : RMs b) (hdr : M.2.2 1 4 = b) (hv : TV t) (hc : cT M a t) (hvv : v ≤ tn t) : EvV (E0 L xs) (d + 2) m9_makeRoundOfVertex [.ref 1, .ref a, .int (nI v)] M (rdW b (vl t v (tC t)) M) := by
  have T := TRs_is (L := L) (xs := xs) ha
  have TB' := RMs_is (L := L) (xs := xs) hb
  have hC := tC_le hv
  have hp := tC_pos t
  have hn8 : tn t ≤ 8 := hv.1
  have hb0 : b ≠ 0 := by have := RMs_lt hb; omega
  have hb56 : 56 ≠ b + 1 := by rcases hb with rfl | rfl | rfl | rfl | rfl <;> decide
  have hba : ∀ k, a ≤ k → k ≤ a + 5 → k ≠ 56 ∧ k ≠ b + 1 := fun k h1 h2 => by
    rcases ha with rfl | rfl | rfl <;> rcases hb with rfl | rfl | rfl | rfl | rfl <;> omega
  have CT : ∀ M1, Fr (tRk2 56 (b + 1)) M M1 → cT M1 a t := fun M1 f => cT_fr hc f (fun k j q1 q2 => tRk2_f (hba k q1 q2).1 (hba k q1 q2).2)
  have f0 : Fr (tRk2 56 (b + 1)) M (sI (sI M 56 0 (-1)) 56 1 (-1)) := Fr_sI (Fr_sI (Fr_refl _ _) (by simp [tRk2])) (by simp [tRk2])
  refine Ev_of k9_makeRoundOfVertex rfl (Nat.le_of_ble_eq_true rfl) (b9_makeRoundOfVertex_0 ?_)
  suffices hloop : ∀ (q c : Nat) (M1 : ME), c + q = tC t → Fr (tRk2 56 (b + 1)) M M1 → RmI 56 (b + 1) (vl t v c) M1 → (∀ j, j ∉ vl t v c → M1.1 (b + 1) j = M.1 (b + 1) j) → Wp (E0 L xs) (d + 2) m9_makeRoundOfVertex 9 [.ref 1, .ref a, .int (nI v), .int (nI c)] [] M1 (fun v' M' => v' = none ∧ rdW b (vl t v (tC t)) M M') by
    refine hloop (tC t) 0 _ (by omega) f0 ⟨fun _ => ?_, fun z => absurd rfl z, fun i hi => absurd hi (by simp [vl])⟩ (fun j _ => by rw [sI_ne (Or.inl (Ne.symm hb56)), sI_ne (Or.inl (Ne.symm hb56))])
    rw [sI_ne (Or.inr (by decide)), sI_eq]
  intro q
  induction q with
  | zero =>
    intro c M1 hc' f hI hfr
    have : c = tC t := by omega
    subst this
    have edr : gR M1 1 4 = b := by show M1.2.2 1 4 = b; rw [f.2]; exact hdr
    refine b9_makeRoundOfVertex_9 T (ccorners_ev T hv (CT M1 f).1.1) (fun r M2 hr => ?_)
    obtain ⟨rfl, rfl⟩ := hr
    refine b9_makeRoundOfVertex_14 (fun _ => b9_makeRoundOfVertex_56 (R' := fun M' => (∀ x, x ∈ vl t v (tC t) → M'.1 (b + 1) x = nI (nxL (vl t v (tC t)) x)) ∧ Fr (tR1 (b + 1)) M2 M' ∧ ∀ j, j ∉ vl t v (tC t) → M'.1 (b + 1) j = M2.1 (b + 1) j) (by rw [edr]; exact hb0) (by rw [edr]; exact TB') (by rw [edr]; exact close_ev rfl TB'.2.1 (by decide) (vl_lt hv (Nat.le_refl _)) (nodup_vl hv (Nat.le_refl _)) hI) (fun M3 h3 => b9_makeRoundOfVertex_70 ⟨rfl, h3.1, ?_, fun j hj => (h3.2.2 j hj).trans (hfr j hj)⟩)) (fun h => absurd (nI_le (Nat.le_refl _) (by omega)) h)
    exact Fr_trans f (Fr_mono h3.2.1 (fun k j q => tR1_f (fun z => by rw [z, tRk2_b] at q; cases q)))
  | succ q ih =>
    intro c M1 hc' f hI hfr
    have hcc : c < tC t := by omega
    have edr : gR M1 1 4 = b := by show M1.2.2 1 4 = b; rw [f.2]; exact hdr
    have hA := tA_le hv hcc
    have e4 : gI M1 (a + 4) c = nI (tA t c) := (CT M1 f).2.1.2.2 c hcc
    refine b9_makeRoundOfVertex_9 T (ccorners_ev T hv (CT M1 f).1.1) (fun r M2 hr => ?_)
    obtain ⟨rfl, rfl⟩ := hr
    have evl : vl t v (c + 1) = vl t v c ++ (if tA t c = v then bk t c (tC t - 1) ++ [2 * c] else []) := rfl
    have hnd := nodup_vl hv (v := v) (show c + 1 ≤ tC t by omega)
    refine b9_makeRoundOfVertex_14 (fun h => absurd ((nI_leI (by omega) (by omega)).mp h) (by omega)) (fun _ => b9_makeRoundOfVertex_17 T c rfl (by omega) (fun h => b9_makeRoundOfVertex_50 ?_) (fun h => ?_))
    · rw [e4] at h
      rw [if_neg (fun z => h (by rw [z])), List.append_nil] at evl
      rw [nI_1]
      exact ih (c + 1) M2 (by omega) f (by rw [evl]; exact hI) (by rw [evl]; exact hfr)
    · rw [e4] at h
      have hAv : tA t c = v := (nI_eq (by omega) (by omega)).mp h
      rw [if_pos hAv, ← List.append_assoc] at evl
      rw [evl] at hnd
      have hnd1 : (vl t v c ++ bk t c (tC t - 1)).Nodup := by rw [List.nodup_append] at hnd; exact hnd.1
      have hlt1 : ∀ z, z ∈ vl t v c ++ bk t c (tC t - 1) → z < 32 := fun z hz => by
        rw [List.mem_append] at hz
        exact hz.elim (vl_lt hv (by omega) z) (bk_lt hv z)
      refine b9_makeRoundOfVertex_27 (addDarts_ev (d := d) ha hb (by rw [f.2]; exact hdr) hv (CT M2 f) hcc (vl_lt hv (by omega)) hnd1 hI) (fun M3 h3 => ?_)
      have f3 := Fr_trans f h3.2.1
      have edr3 : gR M3 1 4 = b := by show M3.2.2 1 4 = b; rw [f3.2]; exact hdr
      refine b9_makeRoundOfVertex_33 (R' := fun M' => RmI 56 (b + 1) (vl t v c ++ bk t c (tC t - 1) ++ [2 * c]) M' ∧ Fr (tRk2 56 (b + 1)) M3 M' ∧ ∀ j, j ∉ vl t v c ++ bk t c (tC t - 1) → M'.1 (b + 1) j = M3.1 (b + 1) j) (by rw [edr3]; exact hb0) (by rw [edr3]; exact TB') (by rw [edr3, nI_dbl]; exact add_ev rfl TB'.2.1 (by decide) hb56 hlt1 hnd1 h3.1) (fun M4 h4 => b9_makeRoundOfVertex_50 ?_)
      rw [nI_1]
      refine ih (c + 1) M4 (by omega) (Fr_trans f3 h4.2.1) (by rw [evl]; exact h4.1) (fun j hj => ?_)
      rw [evl, List.mem_append, not_or] at hj
      refine (h4.2.2 j hj.1).trans ((h3.2.2 j hj.1).trans (hfr j (fun z => hj.1 ?_)))
      rw [List.mem_append]; exact Or.inl z
/-- the point's dart: the last of its round -/
def ptD (t : PTr) : Nat → Nat
  | 0 => 1
  | k + 1 => if hrV t (tC t - 1 - k) = -1 then 2 * (tC t - 1 - k) + 1 else ptD t k
theorem ptD_s {t : PTr} {k : Nat} : ptD t (k + 1) = if hrV t (tC t - 1 - k) = -1 then 2 * (tC t - 1 - k) + 1 else ptD t k := rfl
theorem ptD_lt {t : PTr} (hv : TV t) : ∀ k, ptD t k < 2 * tC t
  | 0 => by have := tC_pos t; show 1 < _; omega
  | k + 1 => by
    have := ptD_lt hv k
    have hp := tC_pos t
    rw [ptD_s]
    split <;> omega
theorem pl_lt {t : PTr} (hv : TV t) {n : Nat} : ∀ z, z ∈ pl t n → z < 32 := fun z hz => by
  have hC := tC_le hv
  have hp := tC_pos t
  obtain ⟨c, h1, h2, h3⟩ := mem_pl.mp hz
  omega
theorem makePoint_ev {a b : Nat} {t : PTr} (ha : TRs a) (hb : RMs b) (hdr : M.2.2 1 4 = b) (hv : TV t) (hc : cT M a t) : EvI (E0 L xs) (d + 1) m9_makeRoundOfPoint [.ref 1, .ref a] M (fun r M' => r = nI (ptD t (tC t)) ∧ rdW b (pl t (tC t)) M M') := by
  have T := TRs_is (L := L) (xs := xs) ha
  have TB' := RMs_is (L := L) (xs := xs) hb
  have hC := tC_le hv
  have hp := tC_pos t
  have hb0 : b ≠ 0 := by have := RMs_lt hb; omega
  have hb56 : 56 ≠ b + 1 := by rcases hb with rfl | rfl | rfl | rfl | rfl <;> decide
  have hba : ∀ k, a ≤ k → k ≤ a + 5 → k ≠ 56 ∧ k ≠ b + 1 := fun k h1 h2 => by
    rcases ha with rfl | rfl | rfl <;> rcases hb with rfl | rfl | rfl | rfl | rfl <;> omega
  have CT : ∀ M1, Fr (tRk2 56 (b + 1)) M M1 → cT M1 a t := fun M1 f => cT_fr hc f (fun k j q1 q2 => tRk2_f (hba k q1 q2).1 (hba k q1 q2).2)
  have f0 : Fr (tRk2 56 (b + 1)) M (sI (sI M 56 0 (-1)) 56 1 (-1)) := Fr_sI (Fr_sI (Fr_refl _ _) (by simp [tRk2])) (by simp [tRk2])
  refine Ev_of k9_makeRoundOfPoint rfl (Nat.le_of_ble_eq_true rfl) (b9_makeRoundOfPoint_0 T (ccorners_ev T hv (CT _ f0).1.1) (fun r M0 hr => ?_))
  obtain ⟨rfl, rfl⟩ := hr
  refine b9_makeRoundOfPoint_13 ?_
  have m1 : ∀ k, k ≤ tC t → nI (tC t) - 1 - nI k = nI (tC t) - nI k - 1 := fun k _ => by
    rw [Int32.sub_eq_add_neg, Int32.sub_eq_add_neg, Int32.sub_eq_add_neg, Int32.sub_eq_add_neg, Int32.add_assoc, Int32.add_assoc, Int32.add_comm (-1)]
  suffices hloop : ∀ (q k : Nat) (M1 : ME), k + q = tC t → Fr (tRk2 56 (b + 1)) M M1 → RmI 56 (b + 1) (pl t k) M1 → (∀ j, j ∉ pl t k → M1.1 (b + 1) j = M.1 (b + 1) j) → Wp (E0 L xs) (d + 1) m9_makeRoundOfPoint 16 [.ref 1, .ref a, .int (nI (ptD t k)), .int (nI (tC t - k) - 1)] [] M1 (fun v' M' => ∃ r, v' = some (.int r) ∧ (r = nI (ptD t (tC t)) ∧ rdW b (pl t (tC t)) M M')) by
    refine hloop (tC t) 0 _ (by omega) f0 ⟨fun _ => ?_, fun z => absurd rfl z, fun i hi => absurd hi (by simp [pl])⟩ (fun j _ => by rw [sI_ne (Or.inl (Ne.symm hb56)), sI_ne (Or.inl (Ne.symm hb56))])
    rw [sI_ne (Or.inr (by decide)), sI_eq]
  intro q
  induction q with
  | zero =>
    intro k M1 hk f hI hfr
    have : k = tC t := by omega
    subst this
    have edr : gR M1 1 4 = b := by show M1.2.2 1 4 = b; rw [f.2]; exact hdr
    rw [Nat.sub_self]
    refine b9_makeRoundOfPoint_16 (fun _ => b9_makeRoundOfPoint_57 (R' := fun M' => (∀ x, x ∈ pl t (tC t) → M'.1 (b + 1) x = nI (nxL (pl t (tC t)) x)) ∧ Fr (tR1 (b + 1)) M1 M' ∧ ∀ j, j ∉ pl t (tC t) → M'.1 (b + 1) j = M1.1 (b + 1) j) (by rw [edr]; exact hb0) (by rw [edr]; exact TB') (by rw [edr]; exact close_ev rfl TB'.2.1 (by decide) (pl_lt hv) (nodup_pl (Nat.le_refl _)) hI) (fun M3 h3 => b9_makeRoundOfPoint_71 ⟨_, rfl, rfl, h3.1, ?_, fun j hj => (h3.2.2 j hj).trans (hfr j hj)⟩)) (fun h => absurd (by decide) h)
    exact Fr_trans f (Fr_mono h3.2.1 (fun k j q => tR1_f (fun z => by rw [z, tRk2_b] at q; cases q)))
  | succ q ih =>
    intro k M1 hk f hI hfr
    have hkc : k < tC t := by omega
    have edr : gR M1 1 4 = b := by show M1.2.2 1 4 = b; rw [f.2]; exact hdr
    have ek : nI (tC t - k) - 1 = nI (tC t - 1 - k) := by
      rw [show tC t - 1 - k = tC t - k - 1 by omega]; exact i_sub (b := 1) (by omega)
    have ek2 : nI (tC t - 1 - k) + -1 = nI (tC t - (k + 1)) - 1 := by
      rw [show tC t - (k + 1) = tC t - 1 - k by omega, Int32.sub_eq_add_neg]
    have e5 : gI M1 (a + 5) (tC t - 1 - k) = hrV t (tC t - 1 - k) := (CT M1 f).2.2 _ (by omega)
    have epl : pl t (k + 1) = pl t k ++ (if hrV t (tC t - 1 - k) = -1 then [2 * (tC t - 1 - k) + 1] else []) := rfl
    have ept := ptD_s (t := t) (k := k)
    rw [ek]
    refine b9_makeRoundOfPoint_16 (fun h => ?_) (fun _ => b9_makeRoundOfPoint_20 T (tC t - 1 - k) rfl (by omega) (fun h => b9_makeRoundOfPoint_51 ?_) (fun h => b9_makeRoundOfPoint_30 (R' := fun M' => RmI 56 (b + 1) (pl t k ++ [2 * (tC t - 1 - k) + 1]) M' ∧ Fr (tRk2 56 (b + 1)) M1 M' ∧ ∀ j, j ∉ pl t k → M'.1 (b + 1) j = M1.1 (b + 1) j) (by rw [edr]; exact hb0) (by rw [edr]; exact TB') ?_ (fun M2 h2 => b9_makeRoundOfPoint_51 ?_)))
    · exact absurd h (i_nlt.mpr (nI_le (a := 0) (Nat.zero_le _) (by omega)))
    · rw [e5] at h
      rw [if_neg h, List.append_nil] at epl
      rw [if_neg h] at ept
      have := ih (k + 1) M1 (by omega) f (by rw [epl]; exact hI) (by rw [epl]; exact hfr)
      rw [ept] at this
      rw [ek2]; exact this
    · rw [edr, nI_dbl, nI_1]
      exact add_ev rfl TB'.2.1 (by decide) hb56 (pl_lt hv) (nodup_pl (by omega)) hI
    · rw [e5] at h
      rw [if_pos h] at epl ept
      have := ih (k + 1) M2 (by omega) (Fr_trans f h2.2.1) (by rw [epl]; exact h2.1) (fun j hj => by
        rw [epl, List.mem_append, not_or] at hj
        exact (h2.2.2 j hj.1).trans (hfr j hj.1))
      rw [ept] at this
      rw [ek2, nI_dbl, nI_1]; exact this
noncomputable def oTurn (st : ST) (x y w : Int32) : Int32 × ST := cIf (vp_in x 3 ∧ vp_in y 4 ∧ vp_in w 2) (nI (pVo (trM (sT st x.toNatClampNeg) w.toNatClampNeg) (ptD (sT st x.toNatClampNeg) (tC (sT st x.toNatClampNeg)))), setM st y.toNatClampNeg (trM (sT st x.toNatClampNeg) w.toNatClampNeg)) (-1, st)
theorem c_turn (hS : ClsS tab M st) (hok : StOK st) {x y w : Int32} : EvI (E0 L xs) (d + 4) m9_turn [.ref 1, .int x, .int y, .int w] M (Co tab M (oTurn st x y w)) := by
  have no : ¬ (vp_in x 3 ∧ vp_in y 4 ∧ vp_in w 2) → Wp (E0 L xs) (d + 4) m9_turn 23 [.ref 1, .int x, .int y, .int w, .null, .null] [] M (fun v' M' => ∃ r, v' = some (.int r) ∧ Co tab M (oTurn st x y w) r M') := fun h => b9_turn_23 ⟨_, rfl, by rw [show oTurn st x y w = (-1, st) from cIf_neg h _ _]; exact ⟨rfl, hS, FrC_refl M⟩⟩
  refine Ev_of k9_turn rfl (Nat.le_of_ble_eq_true rfl) (b9_turn_0 (fun h => no (fun q => h q.1)) (fun h1 => b9_turn_7 (fun h => no (fun q => h q.2.1)) (fun h2 => b9_turn_14 (fun h => no (fun q => (in_lt (by decide) q.2.2).1 h)) (fun h3 => b9_turn_18 (fun h4 => ?_) (fun h => no (fun q => h ?_))))))
  rotate_left
  · have := (in_lt (by decide) q.2.2).2
    rw [Int32.lt_iff_toInt_lt] at this
    rw [Int32.le_iff_toInt_le]
    have e1 : (nI 2).toInt = 2 := rfl
    have e2 : (1 : Int32).toInt = 1 := rfl
    omega
  have hw : vp_in w 2 := by
    rw [Int32.le_iff_toInt_le] at h4
    rw [Int32.lt_iff_toInt_lt] at h3
    have e1 : (0 : Int32).toInt = 0 := rfl
    have e2 : (1 : Int32).toInt = 1 := rfl
    exact vp_in_iff.mpr ⟨by omega, by omega⟩
  rw [show oTurn st x y w = _ from cIf_pos ⟨h1, h2, hw⟩ _ _]
  obtain ⟨j, hj, rfl, ej, er, hn0, hT, hc, hv⟩ := cl_tree0 hS hok h1
  obtain ⟨i, hi, rfl, ei⟩ := in_j h2 (by decide)
  obtain ⟨s, hs, rfl, es⟩ := in_j hw (by decide)
  rw [ej, ei, es]
  have er' : gR M 3 j = 64 + 6 * j := er
  have hba : ∀ b, RMs b → ∀ k, 64 + 6 * j ≤ k → k ≤ 64 + 6 * j + 5 → k < b ∨ b + 6 < k := fun b hb k a1 a2 => by
    have : j = 0 ∨ j = 1 ∨ j = 2 := by omega
    rcases this with rfl | rfl | rfl <;> rcases hb with rfl | rfl | rfl | rfl | rfl <;> omega
  generalize hta : 64 + 6 * j = a at *
  generalize htt : sT st j = t at *
  have T := TRs_is (L := L) (xs := xs) hT
  obtain ⟨d1, d2, d3⟩ := cl_dr hS
  have TD := RMs_is (L := L) (xs := xs) d1
  generalize hbb : M.2.2 1 4 = b at *
  have hbb' : gR M 1 4 = b := hbb
  have hC := tC_le hv
  have hn8 : tn t ≤ 8 := hv.1
  have hb56 : 56 ≠ b + 1 := by rcases d1 with rfl | rfl | rfl | rfl | rfl <;> decide
  have fmono : ∀ {M1 M2 : ME}, Fr (tRk2 56 (b + 1)) M1 M2 → Fr (tCl b) M1 M2 := fun f => Fr_mono f (fun k j' q => by
    have q2 : (tSc k j' || tRM b k j') = false := q
    rw [Bool.or_eq_false_iff] at q2
    refine tRk2_f (fun z => ?_) (fun z => ?_)
    · rw [z] at q2; cases q2.1
    · rw [z, tRM_t (by omega) (by omega)] at q2; cases q2.2)
  have CT : ∀ M1, Fr (tCl b) M M1 → cT M1 a t := fun M1 f => cT_fr hc f (fun k j' q1 q2 => tCl_f (by rcases hT with rfl | rfl | rfl <;> omega) (hba b d1 k q1 q2))
  refine b9_turn_25 j rfl hj hn0 (by rw [hbb']; exact d3) (by rw [er']; exact T) (by rw [er']; exact ccorners_ev T hv hc.1.1) (fun r M0 hr => ?_)
  obtain ⟨rfl, rfl⟩ := hr
  rw [er', hbb']
  refine b9_turn_42 TD (by rw [hbb']; exact d3) (by rw [hbb']; exact TD) ?_
  rw [hbb']
  have f0 : Fr (tCl b) M0 (sI (sI M0 b 0 (nI (tC t))) b 1 (nI s)) := tCl_rm (Fr_sI (Fr_sI (Fr_refl _ _) (tRM_t (by omega) (by omega))) (tRM_t (by omega) (by omega)))
  -- the darts of rounds that are made
  have key : ∀ (q v : Nat) (M1 : ME), v + q = tn t + 1 → Fr (tCl b) M0 M1 → M1.1 b 0 = nI (tC t) → M1.1 b 1 = nI s → (∀ x, x < 2 * tC t → rid t x < v → M1.1 (b + 1) x = nI (trX t x)) → Wp (E0 L xs) (d + 4) m9_turn 56 [.ref 1, .int (nI j), .int (nI i), .int (nI s), .ref a, .int (nI v)] [] M1 (fun v' M' => ∃ r, v' = some (.int r) ∧ Co tab M0 (nI (pVo (trM t s) (ptD t (tC t))), setM st i (trM t s)) r M') := by
    intro q
    induction q with
    | zero =>
      intro v M1 hv1 f g0 g1 g2
      have : v = tn t + 1 := by omega
      subst this
      have e0 : gI M1 a 0 = nI (tn t) := (CT M1 f).1.1
      refine b9_turn_56 T (fun _ => b9_turn_80 (makePoint_ev (d := d + 2) hT d1 (by rw [f.2]; exact hbb) hv (CT M1 f)) (fun r M2 hr => ?_)) (fun h => absurd (by rw [e0]; exact nI_lt (by omega) (by omega)) h)
      obtain ⟨rfl, h5⟩ := hr
      have f2 : Fr (tCl b) M0 M2 := Fr_trans f (fmono h5.2.1)
      have hS2 := ClsS_cl d1 d2 hS f2
      have hdr2 : M2.2.2 1 4 = b := by rw [f2.2]; exact hbb
      have hcm : cM0 M2 (M2.2.2 1 4) (trM t s) := by
        rw [hdr2]
        refine ⟨?_, ?_, fun x hx => ?_⟩
        · exact (h5.2.1.1 b 0 (tRk2_f (by rcases d1 with rfl | rfl | rfl | rfl | rfl <;> decide) (by omega))).trans g0
        · exact (h5.2.1.1 b 1 (tRk2_f (by rcases d1 with rfl | rfl | rfl | rfl | rfl <;> decide) (by omega))).trans g1
        · have hx' : x < 2 * tC t := hx
          have hr1 := rid_le hv hx'
          have hplr : rlt t (tn t + 1) = pl t (tC t) := if_neg (by omega)
          show _ = nI (trX t x)
          by_cases qr : rid t x < tn t + 1
          · rw [h5.2.2 x (fun z => ?_)]
            · exact g2 x hx' qr
            · rw [← hplr, rlt_in hv (Nat.le_refl _)] at z
              omega
          · have er1 : rid t x = tn t + 1 := by omega
            rw [h5.1 x (by rw [← hplr, rlt_in hv (Nat.le_refl _)]; exact ⟨hx', er1⟩)]
            unfold trX
            rw [er1, hplr]
      refine b9_turn_86 (finishDraft_ev (d := d) hS2 hi (trM_PV hv hs) hcm) (fun r M3 hr => ?_)
      obtain ⟨-, hS3, hf3⟩ := hr
      have hR3 := hS3.2.2.2.2.1.1.1 i hi
      have hc3 : cM M3 (M3.2.2 4 i) (trM t s) := by
        have := hS3.2.2.2.2.1.2 i hi
        have e : sM (keep st i (trM t s)).2 i = trM t s := if_pos rfl
        rw [e] at this
        exact this
      have hl := ptD_lt hv (tC t)
      refine b9_turn_93 i rfl hi (by have := RMs_lt hR3; show M3.2.2 4 i ≠ 0; omega) (RMs_is hR3) (ptD t (tC t)) rfl (by omega) ⟨_, rfl, ?_, hS3, ?_⟩
      · exact hc3.2.2.2.2.2.2.1 _ hl
      · exact FrC_trans (tCl_C d1 f2) hf3
    | succ q ih =>
      intro v M1 hv1 f g0 g1 g2
      have e0 : gI M1 a 0 = nI (tn t) := (CT M1 f).1.1
      refine b9_turn_56 T (fun h => ?_) (fun _ => b9_turn_66 (makeVertex_ev (d := d + 1) hT d1 (by rw [f.2]; exact hbb) hv (CT M1 f) (show v ≤ tn t by omega)) (fun M2 h5 => b9_turn_74 ?_))
      · rw [e0] at h
        have := (nI_ltI (a := tn t) (b := v) (by omega) (by omega)).mp h
        omega
      · rw [nI_1]
        have hvr : rlt t v = vl t v (tC t) := if_pos (by omega)
        refine ih (v + 1) M2 (by omega) (Fr_trans f (fmono h5.2.1)) ?_ ?_ (fun x hx hr => ?_)
        · exact (h5.2.1.1 b 0 (tRk2_f (by rcases d1 with rfl | rfl | rfl | rfl | rfl <;> decide) (by omega))).trans g0
        · exact (h5.2.1.1 b 1 (tRk2_f (by rcases d1 with rfl | rfl | rfl | rfl | rfl <;> decide) (by omega))).trans g1
        · by_cases qr : rid t x = v
          · rw [h5.1 x (by rw [← hvr, rlt_in hv (by omega)]; exact ⟨hx, qr⟩)]
            unfold trX
            rw [qr, hvr]
          · rw [h5.2.2 x (fun z => ?_)]
            · exact g2 x hx (by omega)
            · rw [← hvr, rlt_in hv (by omega)] at z
              exact qr z.2
  refine key (tn t + 1) 0 _ (by omega) f0 ?_ ?_ (fun x hx hr => absurd hr (Nat.not_lt_zero _))
  · rw [sI_ne (Or.inr (by decide)), sI_eq]
  · rw [sI_eq]
end CTU
