/-! the number of a tree -/
def shS (t : PTr) : Nat → Int64
  | 0 => 0
  | c + 1 => if ts t c = 1 then shS t c + lN (wz (2 * tn t - 1 - c) (hgt (ts t) c).toNat) else shS t c
def rkS (t : PTr) : Nat → Int64
  | 0 => shS t (2 * tn t)
  | v + 1 => 3 * rkS t v + (tl t (v + 1)).toInt64 - (tl t (tP t (v + 1))).toInt64 + 1
def rkV (t : PTr) : Int64 := rkS t (tn t)
theorem hgt_lt {t : PTr} (h : TV t) {c : Nat} (hc : c ≤ 2 * tn t) : (hgt (ts t) c).toNat ≤ c ∧ 0 ≤ hgt (ts t) c := by
  have h1 := h.2.1.2.1 c hc
  have h2 := hgt_ups (ts t) c
  have h3 : ups (ts t) c ≤ c := cnB_le _ _
  exact ⟨by omega, h1⟩
theorem hgt_up {t : PTr} (h : TV t) {c : Nat} (hc : c < 2 * tn t) (hs : ts t c = 1) : nI (hgt (ts t) c).toNat + 1 = nI (hgt (ts t) (c + 1)).toNat := by
  have h1 := (hgt_lt h (show c ≤ 2 * tn t by omega)).2
  have e : hgt (ts t) (c + 1) = hgt (ts t) c + 1 := if_pos hs
  rw [e, nI_1]; congr 1; omega
theorem hgt_dn {t : PTr} (h : TV t) {c : Nat} (hc : c < 2 * tn t) (hs : ¬ ts t c = 1) : nI (hgt (ts t) c).toNat - 1 = nI (hgt (ts t) (c + 1)).toNat ∧ nI (hgt (ts t) c).toNat + -1 = nI (hgt (ts t) (c + 1)).toNat := by
  have h1 := (hgt_lt h (show c + 1 ≤ 2 * tn t by omega)).2
  have e : hgt (ts t) (c + 1) = hgt (ts t) c - 1 := if_neg hs
  rw [e] at h1 ⊢
  have e2 : (hgt (ts t) c).toNat = (hgt (ts t) c - 1).toNat + 1 := by omega
  rw [e2]
  exact ⟨nI_pred _, pk_m1 _⟩
section RK
variable {L : Nat} {xs : Nat → Int32} {d : Nat} {R : Option Value → ME → Prop}
def tRk (k j : Nat) : Bool := match k with
  | 122 => true
  | 123 => true
  | 110 => j == 0
  | _ => false
/-- the reference: rank -/
theorem rrank_wp {s : Nat} {t : PTr} {M0 : ME} (hs : s < 3) (hv : TV t) (hr : rT M0 s t) (hR : ∀ M, Fr tRk M0 M → R (some (.long (rkV t))) M) : Wp (E0 L xs) (d + 22) m10_rank 17 [.ref 110, .int (nI s), .null, .null, .null, .null, .null, .null] [] M0 R := by
  have hn : t.1 ≤ 8 := hv.1
  refine b10_rank_17 (laysTree_ev hs ⟨hv.1, hv.2.1, trivial⟩ hr) (fun M h1 => ?_)
  have hF : Fr tRk M0 M := Fr_mono h1.1 (fun k j q => by
    unfold tTr
    split
    · cases q
    · cases q
    · rfl)
  have hM : rT M s t := rT_fr hr h1.1 rfl (fun _ _ => rfl) (fun _ _ => rfl)
  have hc := h1.2
  refine b10_rank_22 s rfl hs ?_
  rw [show gI M 119 s = _ from hM.1]
  have e2n : (2 : Int32) * nI t.1 = nI (2 * t.1) := pk_mul 2 _
  suffices hloop : ∀ (k c : Nat), c + k = 2 * t.1 → Wp (E0 L xs) (d + 22) m10_rank 37 [.ref 110, .int (nI s), .int (nI t.1), .long (shS t c), .null, .int (nI (hgt (ts t) c).toNat), .int (nI c), .null] [] M R by
    exact hloop (2 * t.1) 0 (by omega)
  intro k
  induction k with
  | zero =>
    intro c hc0
    have hcn : c = 2 * t.1 := by omega
    subst hcn
    refine b10_rank_37 (fun _ => b10_rank_116 ?_) (fun h => absurd (by rw [e2n]; exact nI_le (Nat.le_refl _) (by omega)) h)
    suffices hl2 : ∀ (k v : Nat), v + k = t.1 → Wp (E0 L xs) (d + 22) m10_rank 119 [.ref 110, .int (nI s), .int (nI t.1), .long (rkS t v), .null, .int (nI (hgt (ts t) (2 * t.1)).toNat), .int (nI (v + 1)), .null] [] M R by
      exact hl2 t.1 0 (by omega)
    intro k
    induction k with
    | zero =>
      intro v hv0
      have hvn : v = t.1 := by omega
      subst hvn
      exact b10_rank_119 (fun _ => b10_rank_172 (hR M hF)) (fun h => absurd (nI_lt (by omega) (by omega)) h)
    | succ k ih =>
      intro v hv0
      have hpl : tP t (v + 1) < v + 1 := tP_lt hv (by omega) (show v + 1 ≤ t.1 by omega)
      refine b10_rank_119 (fun h => absurd ((nI_ltI (by omega) (by omega)).mp h) (by omega)) (fun _ => b10_rank_125 (9 * s + (v + 1)) (i9m _ _) (by omega) (v + 1) rfl (by omega) (9 * s + tP t (v + 1)) (by rw [show gI M 122 (v + 1) = _ from hc.2.1 (v + 1) (by omega) (show v + 1 ≤ t.1 by omega)]; exact i9m _ _) (by omega) ?_)
      rw [nI_1, show gI M 121 (9 * s + (v + 1)) = _ from hM.2.2 _ (show v + 1 ≤ t.1 by omega), show gI M 121 (9 * s + tP t (v + 1)) = _ from hM.2.2 _ (show tP t (v + 1) ≤ t.1 by omega)]
      exact ih (v + 1) (by omega)
  | succ k ih =>
    intro c hc0
    have hcl : c < 2 * tn t := show c < 2 * t.1 by omega
    have es : gI M 120 (16 * s + c) = nI (ts t c) := hM.2.1 c hcl
    have hst := hv.2.1.1 c hcl
    have hh := hgt_lt hv (show c ≤ 2 * tn t by omega)
    refine b10_rank_37 (fun h => ?_) (fun _ => b10_rank_45 (16 * s + c) (i16m _ _) (by omega) (fun h => ?_) (fun h => ?_))
    · rw [e2n] at h
      exact absurd ((nI_leI (by omega) (by omega)).mp h) (by omega)
    · have hs1 : ¬ ts t c = 1 := fun q => h (by rw [es, q]; rfl)
      refine b10_rank_65 (b10_rank_66 (fun _ => b10_rank_92 (fun _ => b10_rank_104 (b10_rank_108 ?_)) (fun q => absurd rfl q)) (fun q => absurd rfl q))
      rw [(hgt_dn hv hcl hs1).1, nI_1]
      have := ih (c + 1) (by omega)
      rw [show shS t (c + 1) = shS t c from if_neg hs1] at this
      exact this
    · have hs1 : ts t c = 1 := by
        rw [es] at h
        rcases hst with q | q
        · rw [q] at h; exact absurd h (by decide)
        · exact q
      refine b10_rank_61 (b10_rank_66 (fun q => absurd q (by decide)) (fun _ => b10_rank_73 (R' := fun r M' => r = lN (wz (2 * t.1 - 1 - c) (hgt (ts t) c).toNat) ∧ M' = M) ?_ (fun r M' hr => ?_)))
      · rw [e2n, show nI (2 * t.1) - 1 = nI (2 * t.1 - 1) from i_sub (b := 1) (by omega), i_sub (show c ≤ 2 * t.1 - 1 by omega)]
        have := ways_ev (L := L) (xs := xs) (d := d + 21 - (2 * t.1 - 1 - c)) (M := M) (2 * t.1 - 1 - c) (hgt (ts t) c).toNat (by omega) (by omega)
        rw [show d + 21 - (2 * t.1 - 1 - c) + (2 * t.1 - 1 - c) = d + 21 by omega] at this
        exact this
      · obtain ⟨rfl, rfl⟩ := hr
        refine b10_rank_90 (b10_rank_92 (fun q => absurd q (by decide)) (fun _ => b10_rank_97 (b10_rank_108 ?_)))
        rw [hgt_up hv hcl hs1, nI_1]
        have := ih (c + 1) (by omega)
        rw [show shS t (c + 1) = shS t c + lN (wz (2 * t.1 - 1 - c) (hgt (ts t) c).toNat) from if_pos hs1] at this
        exact this
/-- the class: the number of a shape, of a tree -/
theorem snumber_ev {b : Nat} {t : PTr} {M : ME} (hb : shp (E0 L xs) b = (1, 16)) (hW : cW M) (hv : TV t) (hst : ∀ i, i < 2 * tn t → M.1 b i = nI (ts t i)) : EvL (E0 L xs) (d + 1) m6_number [.ref 35, .ref b, .int (nI (tn t))] M (fun r M' => r = shS t (2 * tn t) ∧ M' = M) := by
  have hn : t.1 ≤ 8 := hv.1
  have e2n : (2 : Int32) * nI t.1 = nI (2 * t.1) := pk_mul 2 _
  refine Ev_of k6_number rfl (Nat.le_of_ble_eq_true rfl) (b6_number_0 ?_)
  suffices hloop : ∀ (k c : Nat), c + k = 2 * t.1 → Wp (E0 L xs) (d + 1) m6_number 8 [.ref 35, .ref b, .int (nI t.1), .long (shS t c), .null, .int (nI (hgt (ts t) c).toNat), .int (nI c)] [] M (fun v M' => ∃ r, v = some (.long r) ∧ (r = shS t (2 * t.1) ∧ M' = M)) by
    exact hloop (2 * t.1) 0 (by omega)
  intro k
  induction k with
  | zero =>
    intro c hc0
    have hcn : c = 2 * t.1 := by omega
    subst hcn
    exact b6_number_8 (fun _ => b6_number_57 ⟨_, rfl, rfl, rfl⟩) (fun h => absurd (by rw [e2n]; exact nI_le (Nat.le_refl _) (by omega)) h)
  | succ k ih =>
    intro c hc0
    have hcl : c < 2 * tn t := show c < 2 * t.1 by omega
    have es : gI M b c = nI (ts t c) := hst c hcl
    have hst2 := hv.2.1.1 c hcl
    have hh := hgt_lt hv (show c ≤ 2 * tn t by omega)
    refine b6_number_8 (fun h => ?_) (fun _ => b6_number_16 hb (by decide) c rfl (by omega) (fun h => ?_) (fun h => ?_))
    · rw [e2n] at h
      exact absurd ((nI_leI (by omega) (by omega)).mp h) (by omega)
    · have hs1 : ¬ ts t c = 1 := fun q => h (by rw [es, q]; rfl)
      refine b6_number_48 (b6_number_51 ?_)
      rw [(hgt_dn hv hcl hs1).2, nI_1]
      have := ih (c + 1) (by omega)
      rw [show shS t (c + 1) = shS t c from if_neg hs1] at this
      exact this
    · have hs1 : ts t c = 1 := by
        rw [es] at h
        rcases hst2 with q | q
        · rw [q] at h; exact absurd h (by decide)
        · exact q
      have hw := wz_lt ((hgt (ts t) c).toNat) (show 2 * t.1 - 1 - c ≤ 16 by omega)
      refine b6_number_24 (R' := fun r M' => r = nI (wz (2 * t.1 - 1 - c) (hgt (ts t) c).toNat) ∧ M' = M) ?_ (fun r M' hr => ?_)
      · rw [e2n, i_sub (show c ≤ 2 * t.1 by omega), show nI (2 * t.1 - c) - 1 = nI (2 * t.1 - c - 1) from i_sub (b := 1) (by omega), show 2 * t.1 - c - 1 = 2 * t.1 - 1 - c by omega]
        exact waysDown_ev hW (by omega) (by omega)
      · obtain ⟨rfl, rfl⟩ := hr
        refine b6_number_39 (b6_number_51 ?_)
        rw [nI_l2 (by omega), hgt_up hv hcl hs1, nI_1]
        have := ih (c + 1) (by omega)
        rw [show shS t (c + 1) = shS t c + lN (wz (2 * t.1 - 1 - c) (hgt (ts t) c).toNat) from if_pos hs1] at this
        exact this
theorem tnumber_ev {a : Nat} {t : PTr} {M : ME} (ha : TRs a) (hW : cW M) (hv : TV t) (hc : cT M a t) : EvL (E0 L xs) (d + 2) m8_number [.ref a, .ref 35] M (fun r M' => r = rkV t ∧ M' = M) := by
  have hn : t.1 ≤ 8 := hv.1
  have T := TRs_is (L := L) (xs := xs) ha
  refine Ev_of k8_number rfl (Nat.le_of_ble_eq_true rfl) (b8_number_0 T (R' := fun r M' => r = shS t (2 * tn t) ∧ M' = M) ?_ (fun r M' hr => ?_))
  · rw [show gI M a 0 = _ from hc.1.1]
    exact snumber_ev T.2.1 hW hv hc.1.2.1
  · obtain ⟨rfl, rfl⟩ := hr
    refine b8_number_12 ?_
    suffices hl2 : ∀ (k v : Nat), v + k = t.1 → Wp (E0 L xs) (d + 2) m8_number 16 [.ref a, .ref 35, .long (rkS t v), .null, .int (nI (v + 1))] [] M' (fun v M'' => ∃ r, v = some (.long r) ∧ (r = rkV t ∧ M'' = M')) by
      exact hl2 t.1 0 (by omega)
    intro k
    induction k with
    | zero =>
      intro v hv0
      have hvn : v = t.1 := by omega
      subst hvn
      exact b8_number_16 T (fun _ => b8_number_62 ⟨_, rfl, rfl, rfl⟩) (fun h => absurd (by rw [show gI M' a 0 = _ from hc.1.1]; exact nI_lt (show t.1 < _ by omega) (by omega)) h)
    | succ k ih =>
      intro v hv0
      have hpl : tP t (v + 1) < v + 1 := tP_lt hv (by omega) (show v + 1 ≤ t.1 by omega)
      refine b8_number_16 T (fun h => ?_) (fun _ => b8_number_25 T (v + 1) rfl (by omega) (v + 1) rfl (by omega) (tP t (v + 1)) (hc.2.1.2.1 (v + 1) (by omega) (show v + 1 ≤ t.1 by omega)) (by omega) ?_)
      · rw [show gI M' a 0 = _ from hc.1.1] at h
        exact absurd ((nI_ltI (show t.1 < _ by omega) (by omega)).mp h) (show ¬ t.1 < v + 1 by omega)
      · rw [nI_1, show gI M' (a + 2) (v + 1) = _ from hc.1.2.2 _ (show v + 1 ≤ t.1 by omega), show gI M' (a + 2) (tP t (v + 1)) = _ from hc.1.2.2 _ (show tP t (v + 1) ≤ t.1 by omega)]
        exact ih (v + 1) (by omega)
end RK
