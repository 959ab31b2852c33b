/-! the reference: a tree turned into a map -/
/-- labels are small -/
theorem tl_small {t : PTr} (hv : TV t) (hl : TL t) : ∀ v, v ≤ tn t → -(v : Int) ≤ (tl t v).toInt ∧ (tl t v).toInt ≤ v := by
  have hn8 : tn t ≤ 8 := hv.1
  intro v
  induction v using Nat.strongRecOn with
  | ind v ih =>
    intro hvn
    by_cases h0 : v = 0
    · rw [h0, hv.2.2]; exact ⟨by decide, by decide⟩
    · have hp := tP_lt hv (show 1 ≤ v by omega) hvn
      have h1 := ih _ hp (by omega)
      have e1 : (1 : Int32).toInt = 1 := rfl
      have sub1 : ∀ a : Int32, -8 ≤ a.toInt → a.toInt ≤ 8 → (a - 1).toInt = a.toInt - 1 := fun a h1 h2 => by
        rw [Int32.toInt_sub, e1, Int.bmod_eq_of_le] <;> omega
      have add1 : ∀ a : Int32, -8 ≤ a.toInt → a.toInt ≤ 8 → (a + 1).toInt = a.toInt + 1 := fun a h1 h2 => by
        rw [Int32.toInt_add, e1, Int.bmod_eq_of_le] <;> omega
      rcases hl v (by omega) hvn with q | q | q
      · rw [q, sub1 _ (by omega) (by omega)]; omega
      · rw [q]; omega
      · rw [q, add1 _ (by omega) (by omega)]; omega
/-- the least of finitely many -/
theorem least_c {f : Nat → Int} : ∀ {n : Nat}, 0 < n → ∃ c, c < n ∧ ∀ k, k < n → f c ≤ f k
  | 1, _ => ⟨0, by decide, fun k hk => by rw [show k = 0 by omega]; exact Int.le_refl _⟩
  | n + 2, _ => by
    obtain ⟨c, h1, h2⟩ := least_c (f := f) (n := n + 1) (by omega)
    by_cases q : f c ≤ f (n + 1)
    · refine ⟨c, by omega, fun k hk => ?_⟩
      by_cases e : k = n + 1
      · rw [e]; exact q
      · exact h2 k (by omega)
    · refine ⟨n + 1, by omega, fun k hk => ?_⟩
      by_cases e : k = n + 1
      · rw [e]; exact Int.le_refl _
      · have := h2 k (by omega); omega
theorem hr_ex {t : PTr} (hv : TV t) (hok : TL t) (hall : ∀ c, c < tC t → hrV t c ≠ -1) : False := by
  obtain ⟨c, hc, hmin⟩ := least_c (f := fun c => (tl t (tA t c)).toInt) (tC_pos t)
  rcases hrV_spec t c with h | ⟨k, h1, h2, h3, h4, -⟩
  · exact hall c hc h.1
  · have hm := Nat.mod_lt (c + k) (tC_pos t)
    have := hmin _ hm
    have hs := tl_small hv hok (tA t c) (tA_le hv hc)
    have hA := tA_le hv hc
    have hn8 : tn t ≤ 8 := hv.1
    have e1 : (1 : Int32).toInt = 1 := rfl
    have e2 : (tl t (tA t c) - 1).toInt = (tl t (tA t c)).toInt - 1 := by
      rw [Int32.toInt_sub, e1, Int.bmod_eq_of_le] <;> omega
    have this' : (tl t (tA t c)).toInt ≤ (tl t (tA t ((c + k) % tC t))).toInt := this
    rw [h4, e2] at this'
    omega
section RFT
variable {L : Nat} {xs : Nat → Int32} {d : Nat} {M : ME} {st : ST}
/-- the round that is being told -/
def RlI (l : List Nat) (M : ME) : Prop := M.1 110 17 = nI l.length ∧ ∀ i, i < l.length → M.1 124 i = nI (l.getD i 0)
def tTu (y : Nat) (k j : Nat) : Bool := tMp y k j || (k == 110 && j == 17)
theorem tTu_m {y : Nat} {M' : ME} (f : Fr (tMp y) M M') : Fr (tTu y) M M' := Fr_mono f (fun k j q => by
  have q2 : (tMp y k j || (k == 110 && j == 17)) = false := q
  rw [Bool.or_eq_false_iff] at q2; exact q2.1)
theorem tTu_e {y : Nat} {M' : ME} (f : Fr (tTu y) M M') (h : M'.1 110 17 = M.1 110 17) : Fr (tMp y) M M' := ⟨fun k j q => by
  by_cases e : k = 110 ∧ j = 17
  · rw [e.1, e.2]; exact h
  · refine f.1 k j ?_
    show (tMp y k j || (k == 110 && j == 17)) = false
    rw [q, Bool.false_or]
    by_cases e1 : k = 110
    · have e2 : j ≠ 17 := fun z => e ⟨e1, z⟩
      simp [e2]
    · simp [e1], f.2⟩
theorem tTu_f {y k j : Nat} (h : tMp y k j = false) (h2 : k ≠ 110) : tTu y k j = false := by
  show (tMp y k j || (k == 110 && j == 17)) = false
  rw [h]; simp [h2]
theorem Rl_add {l : List Nat} {x : Nat} (h : RlI l M) : RlI (l ++ [x]) (sI (sI M 124 l.length (nI x)) 110 17 (gI M 110 17 + 1)) := by
  obtain ⟨h1, h2⟩ := h
  refine ⟨?_, fun i hi => ?_⟩
  · rw [sI_eq, show gI M 110 17 = _ from h1, nI_1]; simp
  · rw [sI_ne (Or.inl (by decide)), sI_at]
    simp at hi
    by_cases e : i = l.length
    · rw [if_pos ⟨rfl, e⟩, e, getD_app2]
    · rw [if_neg (fun z => e z.2), getD_app1 (by omega)]; exact h2 i (by omega)
theorem Rl_Fr {y l' : Nat} {v w : Int32} : Fr (tTu y) M (sI (sI M 124 l' v) 110 17 w) := Fr_sI (Fr_sI (Fr_refl _ _) (by show (tMp y 124 l' || _) = true; rfl)) (by show (tMp y 110 17 || _) = true; simp)
theorem closes_ev {y : Nat} {l : List Nat} (hy : y < 4) (hl : ∀ z, z ∈ l → z < 32) (hnd : l.Nodup) (hlen : l.length ≤ 32) (h : RlI l M) : EvV (E0 L xs) (d + 1) m10_closes [.ref 110, .int (nI y)] M (fun M' => (∀ x, x ∈ l → M'.1 111 (32 * y + x) = nI (nxL l x)) ∧ (∀ j, j < 32 → j ∉ l → M'.1 111 (32 * y + j) = M.1 111 (32 * y + j)) ∧ M'.1 110 17 = 0 ∧ Fr (tTu y) M M' ∧ (∀ k j, k ≠ 111 → k ≠ 110 → M'.1 k j = M.1 k j) ∧ ∀ j, j ≠ 17 → M'.1 110 j = M.1 110 j) := by
  obtain ⟨h1, h2⟩ := h
  refine Ev_of k10_closes rfl (Nat.le_of_ble_eq_true rfl) (b10_closes_0 ?_)
  suffices hloop : ∀ (q k : Nat) (M1 : ME), k + q = l.length → (∀ i, i < k → M1.1 111 (32 * y + l.getD i 0) = nI (nxL l (l.getD i 0))) → (∀ j, j < 32 → j ∉ l → M1.1 111 (32 * y + j) = M.1 111 (32 * y + j)) → Fr (tTu y) M M1 → (∀ k j, k ≠ 111 → M1.1 k j = M.1 k j) → Wp (E0 L xs) (d + 1) m10_closes 2 [.ref 110, .int (nI y), .int (nI k)] [] M1 (fun v' M' => v' = none ∧ ((∀ x, x ∈ l → M'.1 111 (32 * y + x) = nI (nxL l x)) ∧ (∀ j, j < 32 → j ∉ l → M'.1 111 (32 * y + j) = M.1 111 (32 * y + j)) ∧ M'.1 110 17 = 0 ∧ Fr (tTu y) M M' ∧ (∀ k j, k ≠ 111 → k ≠ 110 → M'.1 k j = M.1 k j) ∧ ∀ j, j ≠ 17 → M'.1 110 j = M.1 110 j)) by
    exact hloop l.length 0 M (by omega) (fun i hi => absurd hi (Nat.not_lt_zero _)) (fun _ _ _ => rfl) (Fr_refl _ _) (fun _ _ _ => rfl)
  intro q
  induction q with
  | zero =>
    intro k M1 hk a1 a2 a3 a4
    have : k = l.length := by omega
    subst this
    have e17 : gI M1 110 17 = nI l.length := (a4 110 17 (by decide)).trans h1
    refine b10_closes_2 (fun _ => b10_closes_40 ⟨rfl, fun x hx => ?_, fun j hj hjl => ?_, sI_eq _ _ _ _, Fr_sI a3 (by show (tMp y 110 17 || _) = true; simp), fun k j hk hk2 => ?_, fun j hj => ?_⟩) (fun h => absurd (by rw [e17]; exact nI_le (Nat.le_refl _) (by omega)) h)
    · rw [sI_ne (Or.inl (by decide))]
      have := a1 (l.idxOf x) (List.idxOf_lt_length_of_mem hx)
      rw [at_idx hx] at this
      exact this
    · rw [sI_ne (Or.inl (by decide))]; exact a2 j hj hjl
    · rw [sI_ne (Or.inl hk2)]; exact a4 k j hk
    · rw [sI_ne (Or.inr hj)]; exact a4 110 j (by decide)
  | succ q ih =>
    intro k M1 hk a1 a2 a3 a4
    have hk' : k < l.length := by omega
    have hlk := hl _ (getD_mem hk')
    have e17 : gI M1 110 17 = nI l.length := (a4 110 17 (by decide)).trans h1
    have hmod := Nat.mod_lt (k + 1) (show 0 < l.length by omega)
    have hlm := hl _ (getD_mem hmod)
    have e1 : gI M1 124 k = nI (l.getD k 0) := (a4 124 k (by decide)).trans (h2 k hk')
    have e2 : gI M1 124 ((k + 1) % l.length) = nI (l.getD ((k + 1) % l.length) 0) := (a4 124 _ (by decide)).trans (h2 _ hmod)
    have erem : nI k + 1 - (nI k + 1) / gI M1 110 17 * gI M1 110 17 = nI ((k + 1) % l.length) := by
      rw [e17, nI_1]; exact pk_rem (by omega) (by omega) (by omega)
    have enx : nxL l (l.getD k 0) = l.getD ((k + 1) % l.length) 0 := by unfold nxL; rw [idx_at hnd hk']
    refine b10_closes_2 (fun h => absurd ((nI_leI (a := l.length) (b := k) (by omega) (by omega)).mp (by rw [← e17]; exact h)) (by omega)) (fun _ => b10_closes_10 k rfl (by omega) (by rw [e17]; exact fun z => absurd ((nI_eq (b := 0) (by omega) (by decide)).mp z) (by omega)) ((k + 1) % l.length) erem (by omega) (32 * y + l.getD k 0) (by rw [e1]; exact i32m y _) (by omega) ?_)
    rw [nI_1, e2]
    refine ih (k + 1) _ (by omega) (fun i hi => ?_) (fun j hj hjl => ?_) (Fr_sI a3 ?_) (fun k2 j2 hk2 => (sI_ne (Or.inl hk2)).trans (a4 k2 j2 hk2))
    · rw [sI_at]
      by_cases e : i = k
      · rw [e, if_pos ⟨rfl, rfl⟩, enx]
      · rw [if_neg (fun z => e ?_)]
        · exact a1 i (by omega)
        · have e3 : l.getD i 0 = l.getD k 0 := by have := z.2; omega
          have this : l.idxOf (l.getD i 0) = l.idxOf (l.getD k 0) := by rw [e3]
          rw [idx_at hnd (by omega), idx_at hnd hk'] at this
          exact this
    · rw [sI_ne (Or.inr (fun z => hjl ?_))]
      · exact a2 j hj hjl
      · have : j = l.getD k 0 := by omega
        rw [this]; exact getD_mem hk'
    · show (tMp y 111 _ || _) = true
      have : tMp y 111 (32 * y + l.getD k 0) = true := by
        show (tSr 111 _ || tCp y 111 _) = true
        rw [tCp_1 (by omega) (by omega), Bool.or_true]
      rw [this]; rfl
theorem i_bk {c k n : Nat} (hk : k ≤ c + n) : nI c - nI k + nI n = nI (c + n - k) := by
  rw [← i_sub hk, ← nI_add, Int32.sub_eq_add_neg, Int32.sub_eq_add_neg, Int32.add_assoc, Int32.add_comm (-nI k), ← Int32.add_assoc]
theorem nd_len {l : List Nat} (hnd : l.Nodup) (hl : ∀ z, z ∈ l → z < 32) : l.length ≤ 32 := nd_le hnd hl
theorem nd_len1 {l : List Nat} {x : Nat} (hnd : (l ++ [x]).Nodup) (hl : ∀ z, z ∈ l ++ [x] → z < 32) : l.length < 32 := by
  have := nd_le hnd hl
  simp at this; omega
theorem r_turn (hS : RefS M st) (hok : StOK st) {x y w : Int32} : EvI (E0 L xs) (d + 3) m10_turn [.ref 110, .int x, .int y, .int w] M (Ro M (oTurn st x y w)) := by
  have hiw : (0 ≤ w.toInt64 ∧ w.toInt64 ≤ 1) ↔ vp_in w 2 := in_iff rfl
  have no : ¬ (vp_in x 3 ∧ vp_in y 4 ∧ vp_in w 2) → Wp (E0 L xs) (d + 3) m10_turn 32 [.ref 110, .int x, .int y, .int w, .null, .null, .null, .null] [] (sI M 110 0 0) (fun v' M' => ∃ r, v' = some (.int r) ∧ Ro M (oTurn st x y w) r M') := fun h => b10_turn_32 ⟨_, rfl, by rw [show oTurn st x y w = (-1, st) from cIf_neg h _ _]; exact Ro_sc hok hS (tld M)⟩
  refine Ev_of k10_turn rfl (Nat.le_of_ble_eq_true rfl) (b10_turn_0 (fun h1 => b10_turn_13 (fun h2 => b10_turn_21 (fun h3 => ?_) (fun h => no (fun q => h (hiw.mpr q.2.2)))) (fun h => no (fun q => h q.2.1))) (fun h => no (fun q => h q.1)))
  have hw := hiw.mp h3
  rw [show oTurn st x y w = _ from cIf_pos ⟨h1, h2, hw⟩ _ _]
  obtain ⟨j, hj, rfl, ej⟩ := in_j h1 (by decide)
  obtain ⟨i, hi, rfl, ei⟩ := in_j h2 (by decide)
  obtain ⟨s, hs, rfl, es⟩ := in_j hw (by decide)
  rw [ej, ei, es]
  have hi5 : i < 5 := by omega
  have hS1 := tld_S hok hS
  have hv := (hok.2.1 j hj).1
  have hTL := (hok.2.1 j hj).2
  have hr1 : rT (sI M 110 0 0) j (sT st j) := hS1.2.2.2.1 j hj
  generalize sT st j = t at *
  have hC := tC_le hv
  have hp := tC_pos t
  have hn8 : tn t ≤ 8 := hv.1
  refine b10_turn_34 (laysTree_ev hj ⟨hv.1, hv.2.1, trivial⟩ hr1) (fun M2 h4 => ?_)
  have f2 : Fr tSr M M2 := Fr_trans (tld M) (Fr_mono h4.1 (fun k j q => by
    unfold tTr
    split
    · cases q
    · cases q
    · rfl))
  have hr2 : rT M2 j t := rT_fr hr1 h4.1 rfl (fun _ _ => rfl) (fun _ _ => rfl)
  have hc2 := h4.2
  have h17 : M2.1 110 17 = 0 := (f2.1 110 17 rfl).trans hS.2.2.1.2.2.2
  refine b10_turn_39 (corners_ev (d := d + 2) hj hv hr2) (fun r M3 hr => ?_)
  obtain ⟨rfl, rfl⟩ := hr
  refine b10_turn_44 i rfl hi5 i rfl hi5 ?_
  have f3 : Fr (tTu i) M (sI (sI M3 112 i (nI (tC t))) 113 i (nI s)) := tTu_m (Fr_trans (tMp_s f2) (tMp_c (Fr_sI (Fr_sI (Fr_refl _ _) tCp_p.1) tCp_p.2)))
  -- the tree's rows stay
  have RT : ∀ M4, Fr (tTu i) M M4 → (∀ k j', (k = 122 ∨ k = 123) → M4.1 k j' = M3.1 k j') → rT M4 j t ∧ rTc M4 t := fun M4 f g => by
    have hr0 : rT M j t := by
      obtain ⟨a, b, c⟩ := hr2
      exact ⟨(f2.1 119 j rfl).symm.trans a, fun i hi => (f2.1 120 _ rfl).symm.trans (b i hi), fun v hv => (f2.1 121 _ rfl).symm.trans (c v hv)⟩
    refine ⟨rT_fr hr0 f rfl (fun _ _ => rfl) (fun _ _ => rfl), ?_⟩
    obtain ⟨a, b, c⟩ := hc2
    exact ⟨(g 122 0 (Or.inl rfl)).trans a, fun v h1 h2 => (g 122 v (Or.inl rfl)).trans (b v h1 h2), fun c' hc' => (g 123 c' (Or.inr rfl)).trans (c c' hc')⟩
  -- what holds between the rounds
  let Inv : Nat → ME → Prop := fun v M4 => Fr (tTu i) M M4 ∧ (∀ k j', (k = 122 ∨ k = 123) → M4.1 k j' = M3.1 k j') ∧ M4.1 112 i = nI (tC t) ∧ M4.1 113 i = nI s ∧ ∀ x, x < 2 * tC t → rid t x < v → M4.1 111 (32 * i + x) = nI (trX t x)
  -- what holds within one: what is told so far, the rest as it was at its beginning
  let Mid : Nat → List Nat → ME → Prop := fun v l M4 => Inv v M4 ∧ RlI l M4
  have mid_add : ∀ {v : Nat} {l : List Nat} {x : Nat} {M4 : ME}, Mid v l M4 → Mid v (l ++ [x]) (sI (sI M4 124 l.length (nI x)) 110 17 (gI M4 110 17 + 1)) := by
    intro v l x M4 ⟨⟨a1, a2, a3, a4, a5⟩, a6⟩
    refine ⟨⟨Fr_trans a1 Rl_Fr, fun k j' hk => ?_, ?_, ?_, fun z hz hzr => ?_⟩, Rl_add a6⟩
    · rw [sI_ne (Or.inl (by rcases hk with rfl | rfl <;> decide)), sI_ne (Or.inl (by rcases hk with rfl | rfl <;> decide))]; exact a2 k j' hk
    · rw [sI_ne (Or.inl (by decide)), sI_ne (Or.inl (by decide))]; exact a3
    · rw [sI_ne (Or.inl (by decide)), sI_ne (Or.inl (by decide))]; exact a4
    · rw [sI_ne (Or.inl (by decide)), sI_ne (Or.inl (by decide))]; exact a5 z hz hzr
  have close : ∀ {v : Nat} {M4 M5 : ME}, v ≤ tn t + 1 → Inv v M4 → ((∀ x, x ∈ rlt t v → M5.1 111 (32 * i + x) = nI (nxL (rlt t v) x)) ∧ (∀ j, j < 32 → j ∉ rlt t v → M5.1 111 (32 * i + j) = M4.1 111 (32 * i + j)) ∧ M5.1 110 17 = 0 ∧ Fr (tTu i) M4 M5 ∧ (∀ k j, k ≠ 111 → k ≠ 110 → M5.1 k j = M4.1 k j) ∧ ∀ j, j ≠ 17 → M5.1 110 j = M4.1 110 j) → Mid (v + 1) [] M5 := by
    intro v M4 M5 hvv ⟨a1, a2, a3, a4, a5⟩ ⟨b1, b2, b3, b4, b5, b6⟩
    refine ⟨⟨Fr_trans a1 b4, fun k j' hk => ?_, ?_, ?_, fun z hz hzr => ?_⟩, b3, fun i hi => absurd hi (Nat.not_lt_zero _)⟩
    · rw [b5 k j' (by rcases hk with rfl | rfl <;> decide) (by rcases hk with rfl | rfl <;> decide)]; exact a2 k j' hk
    · rw [b5 112 i (by decide) (by decide)]; exact a3
    · rw [b5 113 i (by decide) (by decide)]; exact a4
    · by_cases q : rid t z = v
      · rw [b1 z (by rw [rlt_in hv hvv]; exact ⟨hz, q⟩)]
        unfold trX
        rw [q]
      · rw [b2 z (by omega) (fun h => q ((rlt_in hv hvv).mp h).2)]
        exact a5 z hz (by omega)
  -- the vertices
  suffices hout : ∀ (q v : Nat) (M4 : ME), v + q = tn t + 1 → Mid v [] M4 → Wp (E0 L xs) (d + 3) m10_turn 64 [.ref 110, .int (nI j), .int (nI i), .int (nI s), .int (nI (tC t)), .int (nI v), .null, .null] [] M4 (fun v' M' => ∃ r, v' = some (.int r) ∧ Ro M (nI (pVo (trM t s) (ptD t (tC t))), setM st i (trM t s)) r M') by
    refine hout (tn t + 1) 0 _ (by omega) ⟨⟨f3, fun k j' hk => ?_, ?_, ?_, fun x hx hr => absurd hr (Nat.not_lt_zero _)⟩, ?_, fun i hi => absurd hi (Nat.not_lt_zero _)⟩
    · rw [sI_ne (Or.inl (by rcases hk with rfl | rfl <;> decide)), sI_ne (Or.inl (by rcases hk with rfl | rfl <;> decide))]
    · rw [sI_ne (Or.inl (by decide)), sI_eq]
    · rw [sI_eq]
    · rw [sI_ne (Or.inl (by decide)), sI_ne (Or.inl (by decide))]; exact h17
  intro q
  induction q with
  | zero =>
    intro v M4 hv1 hM4
    have : v = tn t + 1 := by omega
    subst this
    obtain ⟨r4, c4⟩ := RT M4 hM4.1.1 hM4.1.2.1
    have e119 : gI M4 119 j = nI (tn t) := r4.1
    refine b10_turn_64 j rfl hj (fun _ => b10_turn_181 ?_) (fun h => absurd (by rw [e119]; exact nI_lt (by omega) (by omega)) h)
    -- the point
    have hplr : rlt t (tn t + 1) = pl t (tC t) := if_neg (by omega)
    have e0 : nI (tC t) - 1 = nI (tC t - 0) - 1 := rfl
    suffices hpt : ∀ (q k : Nat) (M5 : ME) (px : Int32), k + q = tC t → Mid (tn t + 1) (pl t k) M5 → (px = if pl t k = [] then -1 else nI (ptD t k)) → Wp (E0 L xs) (d + 3) m10_turn 190 [.ref 110, .int (nI j), .int (nI i), .int (nI s), .int (nI (tC t)), .int px, .int (nI (tC t - k) - 1), .null] [] M5 (fun v' M' => ∃ r, v' = some (.int r) ∧ Ro M (nI (pVo (trM t s) (ptD t (tC t))), setM st i (trM t s)) r M') by
      exact hpt (tC t) 0 M4 (-1) (by omega) hM4 rfl
    intro q
    induction q with
    | zero =>
      intro k M5 px hk hM5 hpx
      have : k = tC t := by omega
      subst this
      rw [Nat.sub_self]
      refine b10_turn_190 (fun _ => b10_turn_233 (closes_ev (d := d + 1) hi (pl_lt hv) (nodup_pl (Nat.le_refl _)) (nd_len (nodup_pl (Nat.le_refl _)) (pl_lt hv)) hM5.2) (fun M6 h6 => ?_)) (fun h => absurd (by decide) h)
      rw [← hplr] at h6
      obtain ⟨⟨g1, g2, g3, g4, g5⟩, g6, -⟩ := close (Nat.le_refl _) hM5.1 h6
      have hrm : rM M6 i (trM t s) := ⟨g3, g4, fun u hu => g5 u hu (by have := rid_le hv (show u < 2 * tC t from hu); omega)⟩
      have f6 : Fr (tMp i) M M6 := tTu_e g1 (by rw [show M6.1 110 17 = 0 from g6]; exact hS.2.2.1.2.2.2.symm)
      have hlp := ptD_lt hv (tC t)
      refine b10_turn_238 (lays_ev (d := d) hi5 (trM_PV hv hs) hrm) (fun M7 h7 => ?_)
      have f7 : Fr (tMp i) M M7 := Fr_trans f6 (tMp_s (tL_sr h7.1))
      -- there is a dart of the point
      have hne : pl t (tC t) ≠ [] := by
        intro hnil
        have hall : ∀ c, c < tC t → hrV t c ≠ -1 := fun c hc hz => by
          have : 2 * c + 1 ∈ pl t (tC t) := mem_plC.mpr ⟨by omega, by omega, by rw [show (2 * c + 1) / 2 = c by omega]; exact hz⟩
          rw [hnil] at this; cases this
        exact hr_ex hv hTL hall
      rw [if_neg hne] at hpx
      subst hpx
      exact b10_turn_243 (ptD t (tC t)) rfl (by omega) ⟨_, rfl, h7.2.2.2.1 _ hlp, RefS_mp hi hok hS f7 (rM_fr hrm h7.1 rfl rfl (fun _ _ => rfl)), tMp_R f7⟩
    | succ q ih2 =>
      intro k M5 px hk hM5 hpx
      obtain ⟨r5, c5⟩ := RT M5 hM5.1.1 hM5.1.2.1
      have ek : nI (tC t - k) - 1 = nI (tC t - 1 - k) := by
        rw [show tC t - 1 - k = tC t - k - 1 by omega]; exact i_sub (b := 1) (by omega)
      have ek2 : nI (tC t - 1 - k) + -1 = nI (tC t - (k + 1)) - 1 := by
        rw [show tC t - (k + 1) = tC t - 1 - k by omega, Int32.sub_eq_add_neg]
      have epl : pl t (k + 1) = pl t k ++ (if hrV t (tC t - 1 - k) = -1 then [2 * (tC t - 1 - k) + 1] else []) := rfl
      have ept := ptD_s (t := t) (k := k)
      rw [ek]
      refine b10_turn_190 (fun h => absurd h (i_nlt.mpr (nI_le (a := 0) (Nat.zero_le _) (by omega)))) (fun _ => b10_turn_195 (heir_ev (d := d + 1) hj hv r5 c5 (show tC t - 1 - k < tC t by omega)) (fun r M6 hr => ?_))
      obtain ⟨rfl, rfl⟩ := hr
      refine b10_turn_202 (fun h => ?_) (fun h => b10_turn_206 (b10_turn_227 ?_))
      · rw [if_pos h] at epl ept
        have hndl := nodup_pl (t := t) (show k + 1 ≤ tC t by omega)
        have hltl := pl_lt hv (n := k + 1)
        rw [epl] at hndl hltl
        have hl32 := nd_len1 hndl hltl
        refine b10_turn_209 (pl t k).length hM5.2.1 hl32 (b10_turn_227 ?_)
        have := ih2 (k + 1) _ (nI (ptD t (k + 1))) (by omega) (by rw [epl]; exact mid_add hM5) (by rw [epl, if_neg (by simp)])
        rw [ept] at this
        rw [ek2, nI_dbl, nI_1]; exact this
      · rw [if_neg h, List.append_nil] at epl
        rw [if_neg h] at ept
        have := ih2 (k + 1) M6 px (by omega) (by rw [epl]; exact hM5) (by rw [epl, ept]; exact hpx)
        rw [ek2]; exact this
  | succ q ih =>
    intro v M4 hv1 hM4
    obtain ⟨r4, c4⟩ := RT M4 hM4.1.1 hM4.1.2.1
    have e119 : gI M4 119 j = nI (tn t) := r4.1
    have hvr : rlt t v = vl t v (tC t) := if_pos (by omega)
    refine b10_turn_64 j rfl hj (fun h => ?_) (fun _ => b10_turn_75 ?_)
    · rw [e119] at h
      have := (nI_ltI (a := tn t) (b := v) (by omega) (by omega)).mp h
      omega
    suffices hcor : ∀ (q2 c : Nat) (M5 : ME), c + q2 = tC t → Mid v (vl t v c) M5 → Wp (E0 L xs) (d + 3) m10_turn 78 [.ref 110, .int (nI j), .int (nI i), .int (nI s), .int (nI (tC t)), .int (nI v), .int (nI c), .null] [] M5 (fun v' M' => ∃ r, v' = some (.int r) ∧ Ro M (nI (pVo (trM t s) (ptD t (tC t))), setM st i (trM t s)) r M') by
      exact hcor (tC t) 0 M4 (by omega) hM4
    intro q2
    induction q2 with
    | zero =>
      intro c M5 hc' hM5
      have : c = tC t := by omega
      subst this
      refine b10_turn_78 (fun _ => b10_turn_170 (closes_ev (d := d + 1) hi (vl_lt hv (Nat.le_refl _)) (nodup_vl hv (Nat.le_refl _)) (nd_len (nodup_vl hv (Nat.le_refl _)) (vl_lt hv (Nat.le_refl _))) hM5.2) (fun M6 h6 => b10_turn_175 ?_)) (fun h => absurd (nI_le (Nat.le_refl _) (by omega)) h)
      rw [← hvr] at h6
      rw [nI_1]
      exact ih (v + 1) M6 (by omega) (close (by omega) hM5.1 h6)
    | succ q2 ih2 =>
      intro c M5 hc' hM5
      have hcc : c < tC t := by omega
      obtain ⟨r5, c5⟩ := RT M5 hM5.1.1 hM5.1.2.1
      have hA := tA_le hv hcc
      have e123 : gI M5 123 c = nI (tA t c) := c5.2.2 c hcc
      have evl : vl t v (c + 1) = vl t v c ++ (if tA t c = v then bk t c (tC t - 1) ++ [2 * c] else []) := rfl
      have hnd := nodup_vl hv (v := v) (show c + 1 ≤ tC t by omega)
      have hlt := vl_lt hv (v := v) (show c + 1 ≤ tC t by omega)
      refine b10_turn_78 (fun h => absurd ((nI_leI (by omega) (by omega)).mp h) (by omega)) (fun _ => b10_turn_85 c rfl (by omega) (fun h => b10_turn_100 ?_) (fun h => b10_turn_97 (b10_turn_164 ?_)))
      rotate_left
      · rw [e123] at h
        rw [if_neg (fun z => h (by rw [z])), List.append_nil] at evl
        rw [nI_1]
        exact ih2 (c + 1) M5 (by omega) (by rw [evl]; exact hM5)
      rw [e123] at h
      have hAv : tA t c = v := (nI_eq (by omega) (by omega)).mp h
      rw [if_pos hAv, ← List.append_assoc] at evl
      rw [evl] at hnd hlt
      have hndp : ∀ k, k ≤ tC t - 1 → (vl t v c ++ bk t c k).Nodup ∧ ∀ z, z ∈ vl t v c ++ bk t c k → z < 32 := by
        intro k hk
        have h0 : (vl t v c ++ bk t c (tC t - 1)).Nodup := by rw [List.nodup_append] at hnd; exact hnd.1
        rw [List.nodup_append] at h0
        refine ⟨?_, fun z hz => ?_⟩
        · rw [List.nodup_append]
          refine ⟨h0.1, nodup_bk hcc (by omega), fun a ha b hb => h0.2.2 a ha b ?_⟩
          obtain ⟨j', a1, a2, a3⟩ := mem_bk.mp hb
          exact mem_bk.mpr ⟨j', a1, by omega, a3⟩
        · rw [List.mem_append] at hz
          exact hz.elim (vl_lt hv (by omega) z) (bk_lt hv z)
      suffices hbk : ∀ (q3 k : Nat) (M6 : ME), 1 ≤ k → k + q3 = tC t → Mid v (vl t v c ++ bk t c (k - 1)) M6 → Wp (E0 L xs) (d + 3) m10_turn 103 [.ref 110, .int (nI j), .int (nI i), .int (nI s), .int (nI (tC t)), .int (nI v), .int (nI c), .int (nI k)] [] M6 (fun v' M' => ∃ r, v' = some (.int r) ∧ Ro M (nI (pVo (trM t s) (ptD t (tC t))), setM st i (trM t s)) r M') by
        exact hbk (tC t - 1) 1 M5 (Nat.le_refl _) (by omega) (by rw [show bk t c (1 - 1) = [] from rfl, List.append_nil]; exact hM5)
      intro q3
      induction q3 with
      | zero =>
        intro k M6 hk1 hk hM6
        have : k = tC t := by omega
        subst this
        have hl32 := nd_len1 hnd hlt
        refine b10_turn_103 (fun _ => b10_turn_156 (vl t v c ++ bk t c (tC t - 1)).length hM6.2.1 hl32 (b10_turn_164 ?_)) (fun h => absurd (nI_le (Nat.le_refl _) (by omega)) h)
        rw [nI_1, nI_dbl]
        exact ih2 (c + 1) _ (by omega) (by rw [evl]; exact mid_add hM6)
      | succ q3 ih3 =>
        intro k M6 hk1 hk hM6
        obtain ⟨r6, c6⟩ := RT M6 hM6.1.1 hM6.1.2.1
        have ebk : nI c - nI k + nI (tC t) - (nI c - nI k + nI (tC t)) / nI (tC t) * nI (tC t) = nI (bkc t c k) := by
          rw [i_bk (by omega)]; exact pk_rem (by omega) (by omega) (by omega)
        have hbk : bk t c k = bk t c (k - 1) ++ (if hrV t (bkc t c k) = nI c then [2 * bkc t c k + 1] else []) := by
          have : k = (k - 1) + 1 := by omega
          rw [this]; rfl
        have hzne : ¬ nI (tC t) = 0 := fun z => by have := (nI_eq (b := 0) (by omega) (by decide)).mp z; omega
        refine b10_turn_103 (fun h => absurd ((nI_leI (by omega) (by omega)).mp h) (by omega)) (fun _ => b10_turn_110 (R' := fun r M' => r = hrV t (bkc t c k) ∧ M' = M6) hzne (by rw [ebk]; exact heir_ev (d := d + 1) hj hv r6 c6 (bkc_lt t c k)) (fun r M7 hr => ?_))
        obtain ⟨rfl, rfl⟩ := hr
        refine b10_turn_126 (fun h => b10_turn_150 ?_) (fun h => ?_)
        · rw [if_neg h, List.append_nil] at hbk
          rw [nI_1]
          exact ih3 (k + 1) M7 (by omega) (by omega) (by rw [show k + 1 - 1 = k by omega, hbk]; exact hM6)
        · rw [if_pos h] at hbk
          have hn1 := hndp k (by omega)
          rw [hbk, ← List.append_assoc] at hn1
          have hl32 := nd_len1 hn1.1 hn1.2
          refine b10_turn_131 hzne (vl t v c ++ bk t c (k - 1)).length hM6.2.1 hl32 (b10_turn_150 ?_)
          rw [nI_1, ebk, nI_dbl, nI_1]
          exact ih3 (k + 1) _ (by omega) (by omega) (by rw [show k + 1 - 1 = k by omega, hbk, ← List.append_assoc]; exact mid_add hM6)
end RFT
