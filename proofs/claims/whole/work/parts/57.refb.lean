/-! the reference: trees -/
section RFB
variable {L : Nat} {xs : Nat → Int32} {d : Nat} {M : ME} {st : ST}
theorem hiN : ∀ {v : Nat}, v < 301 → ((nI v).toInt64 - 1).toInt = (v : Int) - 1 := by
  have : ∀ v, v < 301 → ((nI v).toInt64 - 1).toInt = (v : Int) - 1 := by decide +kernel
  exact fun {v} h => this v h
theorem hi2N : ∀ {v : Nat}, v < 33 → (2 * (nI v).toInt64 - 1).toInt = ((2 * v : Nat) : Int) - 1 := by
  have : ∀ v, v < 33 → (2 * (nI v).toInt64 - 1).toInt = ((2 * v : Nat) : Int) - 1 := by decide +kernel
  exact fun {v} h => this v h
theorem hi0N : ∀ {v : Nat}, v < 33 → ((nI v).toInt64).toInt = ((v + 1 : Nat) : Int) - 1 := by
  have : ∀ v, v < 33 → ((nI v).toInt64).toInt = ((v + 1 : Nat) : Int) - 1 := by decide +kernel
  exact fun {v} h => this v h
theorem in_iff2 {x : Int32} {n : Nat} {hi t2 t1 : Int64} (h2 : t2 = 0) (h1 : t1 = x.toInt64) (hh : hi.toInt = (n : Int) - 1) : (t2 ≤ t1 ∧ t1 ≤ hi) ↔ vp_in x n := by
  rw [h2, h1]; exact in_iff hh
theorem lle_lt {k : Int64} {t : Nat} (ht : t < 2 ^ 31) : (0 ≤ k ∧ k ≤ lN t - 1) ↔ (¬ k < 0 ∧ k < lN t) := by
  have e0 : (0 : Int64).toInt = 0 := rfl
  have e1 : (lN t - 1).toInt = (t : Int) - 1 := by
    by_cases q : t = 0
    · subst q; rfl
    · rw [show (1 : Int64) = lN 1 from rfl, lN_sub (by omega), lN_toInt (by omega)]; omega
  rw [Int64.le_iff_toInt_le, Int64.le_iff_toInt_le, Int64.lt_iff_toInt_lt, Int64.lt_iff_toInt_lt, e0, e1, lN_toInt ht]
  omega
theorem r_tree (hS : RefS M st) (hok : StOK st) {x n : Int32} {k : Int64} : EvI (E0 L xs) (d + 22) m10_tree [.ref 110, .int x, .int n, .long k] M (Ro M (oTree st x n k)) := by
  have hi : (0 ≤ n.toInt64 ∧ n.toInt64 ≤ 8) ↔ vp_in n 9 := in_iff rfl
  have no : ∀ {M1 : ME}, M1 = sI M 110 0 0 → ¬ (vp_in x 3 ∧ vp_in n 9 ∧ ¬ k < 0 ∧ k < lN (ttN n.toNatClampNeg)) → Wp (E0 L xs) (d + 22) m10_tree 42 [.ref 110, .int x, .int n, .long k, .null, .null, .null, .null, .null, .null, .null, .null, .null, .null] [] M1 (fun v' M' => ∃ r, v' = some (.int r) ∧ Ro M (oTree st x n k) r M') := fun e h => b10_tree_42 ⟨_, rfl, by rw [e, show oTree st x n k = (0, st) from cIf_neg h _ _]; exact Ro_sc hok hS (tld M)⟩
  refine Ev_of k10_tree rfl (Nat.le_of_ble_eq_true rfl) (b10_tree_0 (fun h1 => b10_tree_13 (fun h2 => ?_) (fun h => no rfl (fun q => h (hi.mpr q.2.1)))) (fun h => no rfl (fun q => h q.1)))
  have hn := hi.mp h2
  obtain ⟨n', hn', rfl, en⟩ := in_j hn (by decide)
  have h1' := h1
  obtain ⟨j, hj, rfl, ej⟩ := in_j h1 (by decide)
  rw [en] at no
  refine b10_tree_26 (allTrees_ev (d := d) (show n' ≤ 8 by omega)) (fun r M1 hr => ?_)
  obtain ⟨rfl, rfl⟩ := hr
  refine b10_tree_34 (fun h3 => ?_) (fun h => no rfl (fun q => h ((lle_lt (ttN_lt (show n' ≤ 8 by omega))).mpr q.2.2)))
  obtain ⟨h4, h5⟩ := (lle_lt (ttN_lt (show n' ≤ 8 by omega))).mp h3
  obtain ⟨l1, l2⟩ := l_of (ttN_lt (show n' ≤ 8 by omega)) h4 h5
  have eo : oTree st (nI j) (nI n') k = (1, setT st j (trN n' k.toInt.toNat)) := by
    unfold oTree
    rw [en, ej]
    exact cIf_pos ⟨h1', hn, h4, h5⟩ _ _
  rw [eo]
  have f0 : Fr (tTo j) M (sI M 110 0 0) := Fr_sI (Fr_refl _ _) rfl
  have key := rtree_wp (L := L) (xs := xs) (d := d) (s := j) (n := n') (num := k.toInt.toNat) (M0 := sI M 110 0 0) (R := fun v' M' => ∃ r, v' = some (.int r) ∧ Ro M (1, setT st j (trN n' k.toInt.toNat)) r M') hj (by omega) l1 (fun M2 f hr => ⟨_, rfl, rfl, RefS_tr hj hok hS (Fr_trans f0 f) hr, FrR_of (Fr_trans f0 f) (fun k' j' hk => by
    unfold tTo
    split
    all_goals first | omega | rfl)⟩)
  rw [← l2] at key
  exact key
theorem r_rank (hS : RefS M st) (hok : StOK st) {x : Int32} : EvL (E0 L xs) (d + 22) m10_rank [.ref 110, .int x] M (Rl M st (aRank st x)) := by
  refine Ev_of k10_rank rfl (Nat.le_of_ble_eq_true rfl) (b10_rank_0 (fun h => ?_) (fun h => b10_rank_13 ⟨_, rfl, ?_⟩))
  · rw [show aRank st x = _ from cIf_pos h _ _]
    obtain ⟨j, hj, rfl, ej⟩ := in_j h (by decide)
    rw [ej]
    have hS1 := tld_S hok hS
    refine rrank_wp (d := d) hj (hok.2.1 j hj).1 (hS1.2.2.2.1 j hj) (fun M2 f => ⟨_, rfl, ?_⟩)
    have f2 : Fr tSr M M2 := Fr_trans (tld M) (Fr_mono f (fun k j q => by
      unfold tRk
      split
      · cases q
      · cases q
      · by_cases e : j = 0
        · subst e; cases q
        · simp [e]
      · rfl))
    exact Rl_sc hok hS f2
  · rw [show aRank st x = _ from cIf_neg h _ _]
    exact Rl_sc hok hS (tld M)
theorem r_shape (hS : RefS M st) (hok : StOK st) {x w i : Int32} : EvI (E0 L xs) (d + 2) m10_shape [.ref 110, .int x, .int w, .int i] M (Rq M st (aShape st x w i)) := by
  refine Ev_of k10_shape rfl (Nat.le_of_ble_eq_true rfl) (b10_shape_0 (fun h => ?_) (fun h => b10_shape_13 ⟨_, rfl, ?_⟩))
  rotate_left
  · rw [show aShape st x w i = _ from cIf_neg h _ _]
    exact Rq_sc hok hS (tld M)
  rw [show aShape st x w i = _ from cIf_pos h _ _]
  obtain ⟨j, hj, rfl, ej⟩ := in_j h (by decide)
  rw [ej]
  have hS1 := tld_S hok hS
  have hv := (hok.2.1 j hj).1
  generalize htt : sT st j = t at *
  have hn8 : tn t ≤ 8 := hv.1
  have hC := tC_le hv
  have hr1 : rT (sI M 110 0 0) j t := by have := hS1.2.2.2.1 j hj; rw [htt] at this; exact this
  refine b10_shape_16 (laysTree_ev hj ⟨hv.1, hv.2.1, trivial⟩ hr1) (fun M2 h2 => ?_)
  have f2 : Fr tSr M M2 := Fr_trans (tld M) (Fr_mono h2.1 (fun k j q => by
    unfold tTr
    split
    · cases q
    · cases q
    · rfl))
  have hr2 : rT M2 j t := rT_fr hr1 h2.1 rfl (fun _ _ => rfl) (fun _ _ => rfl)
  have hc2 := h2.2
  have e0 : gI M2 119 j = nI (tn t) := hr2.1
  have fin : ∀ {r : Int32} {M3 : ME}, M3 = M2 → r = shpV t w i → ∃ r', some (Value.int r) = some (.int r') ∧ Rq M st (shpV t w i) r' M3 := fun {r M3} e h => ⟨_, rfl, by rw [e, h]; exact Rq_sc hok hS f2⟩
  refine b10_shape_21 j rfl hj (fun h => ?_) (fun h => ?_) (fun h => ?_) (fun h => ?_) (fun h => ?_) (fun h => ?_)
  · rw [e0]
    refine b10_shape_64 (fin rfl ?_)
    subst h; rfl
  · rw [e0]
    have hi : (0 ≤ i.toInt64 ∧ i.toInt64 ≤ 2 * (nI (tn t)).toInt64 - 1) ↔ vp_in i (2 * tn t) := in_iff (hi2N (by omega))
    refine b10_shape_67 (fun h3 => ?_) (fun h3 => b10_shape_100 (b10_shape_102 (fin rfl ?_)))
    · have h4 := hi.mp h3
      obtain ⟨k, hk, rfl, ek⟩ := in_j h4 (by omega)
      refine b10_shape_86 (16 * j + k) (i16m j k) (by omega) (b10_shape_102 (fin rfl ?_))
      subst h
      show _ = entV (fun j => nI (ts t j)) (nI k) (2 * tn t)
      rw [show entV (fun j => nI (ts t j)) (nI k) (2 * tn t) = _ from cIf_pos h4 _ _, ek]
      exact hr2.2.1 k hk
    · subst h
      exact (cIf_neg (fun z => h3 (hi.mpr z)) _ _).symm
  · rw [e0]
    have hi : (0 ≤ i.toInt64 ∧ i.toInt64 ≤ (nI (tn t)).toInt64) ↔ vp_in i (tn t + 1) := in_iff (hi0N (by omega))
    refine b10_shape_103 (fun h3 => ?_) (fun h3 => b10_shape_130 (b10_shape_132 (fin rfl ?_)))
    · have h4 := hi.mp h3
      obtain ⟨k, hk, rfl, ek⟩ := in_j h4 (by omega)
      refine b10_shape_116 (9 * j + k) (i9m j k) (by omega) (b10_shape_132 (fin rfl ?_))
      subst h
      show _ = entV _ _ _
      rw [show entV (tl t) (nI k) (tn t + 1) = _ from cIf_pos h4 _ _, ek]
      exact hr2.2.2 k (by omega)
    · subst h
      exact (cIf_neg (fun z => h3 (hi.mpr z)) _ _).symm
  · rw [e0]
    have hi : (0 ≤ i.toInt64 ∧ i.toInt64 ≤ (nI (tn t)).toInt64) ↔ vp_in i (tn t + 1) := in_iff (hi0N (by omega))
    refine b10_shape_133 (fun h3 => ?_) (fun h3 => b10_shape_155 (b10_shape_157 (fin rfl ?_)))
    · have h4 := hi.mp h3
      obtain ⟨k, hk, rfl, ek⟩ := in_j h4 (by omega)
      refine b10_shape_146 k rfl (by omega) (b10_shape_157 (fin rfl ?_))
      subst h
      show _ = entV _ _ _
      rw [show entV (parV t) (nI k) (tn t + 1) = _ from cIf_pos h4 _ _, ek]
      unfold parV
      by_cases q : k = 0
      · rw [if_pos q, q]; exact hc2.1
      · rw [if_neg q]; exact hc2.2.1 k (by omega) (by omega)
    · subst h
      exact (cIf_neg (fun z => h3 (hi.mpr z)) _ _).symm
  · rw [e0]
    refine b10_shape_158 (corners_ev (d := d + 1) hj hv hr2) (fun r M3 hr => ?_)
    obtain ⟨rfl, rfl⟩ := hr
    have hi : ((0 : Int64) ≤ i.toInt64 ∧ i.toInt64 ≤ (nI (tC t)).toInt64 - 1) ↔ vp_in i (tC t) := in_iff (hiN (by omega))
    refine b10_shape_167 (fun h3 => ?_) (fun h3 => b10_shape_185 (b10_shape_187 (fin rfl ?_)))
    · have h4 := hi.mp h3
      obtain ⟨k, hk, rfl, ek⟩ := in_j h4 (by omega)
      refine b10_shape_176 (heir_ev (d := d) hj hv hr2 hc2 hk) (fun r M4 hr => ?_)
      obtain ⟨rfl, rfl⟩ := hr
      refine b10_shape_182 (b10_shape_187 (fin rfl ?_))
      subst h
      show _ = entV _ _ _
      rw [show entV (hrV t) (nI k) (tC t) = _ from cIf_pos h4 _ _, ek]
    · subst h
      exact (cIf_neg (fun z => h3 (hi.mpr z)) _ _).symm
  · rw [e0]
    refine b10_shape_188 (fun h5 => b10_shape_220 (b10_shape_222 (fin rfl ?_))) (fun h5 => b10_shape_193 (corners_ev (d := d + 1) hj hv hr2) (fun r M3 hr => ?_))
    · unfold shpV
      rw [if_neg (sw_ne h 0 rfl (by decide) (by decide)), if_neg (sw_ne h 1 rfl (by decide) (by decide)), if_neg (sw_ne h 2 rfl (by decide) (by decide)), if_neg (sw_ne h 3 rfl (by decide) (by decide)), if_neg (sw_ne h 4 rfl (by decide) (by decide)), if_neg h5]
    · obtain ⟨rfl, rfl⟩ := hr
      have hi : ((0 : Int64) ≤ i.toInt64 ∧ i.toInt64 ≤ (nI (tC t)).toInt64 - 1) ↔ vp_in i (tC t) := in_iff (hiN (by omega))
      refine b10_shape_202 (fun h3 => ?_) (fun h3 => b10_shape_220 (b10_shape_222 (fin rfl ?_)))
      · have h4 := hi.mp h3
        obtain ⟨k, hk, rfl, ek⟩ := in_j h4 (by omega)
        refine b10_shape_211 k rfl (by omega) (b10_shape_222 (fin rfl ?_))
        subst h5
        show _ = entV (fun c => nI (tA t c)) (nI k) (tC t)
        rw [show entV (fun c => nI (tA t c)) (nI k) (tC t) = _ from cIf_pos h4 _ _, ek]
        exact hc2.2.2 k hk
      · subst h5
        exact (cIf_neg (fun z => h3 (hi.mpr z)) _ _).symm
end RFB
