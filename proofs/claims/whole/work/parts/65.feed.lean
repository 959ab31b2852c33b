/-! feed of both -/
theorem sh_eq (x : Int32) (n : Nat) (hn : n ≤ 24) (a : Int32) (b : UInt32) (ha : a.toBitVec.smod 32 = BitVec.ofNat 32 n) (hb : b.toBitVec % 32 = BitVec.ofNat 32 n) : (x >>> a) &&& 255 = (x.toUInt32 >>> b).toInt32 &&& 255 := by
  apply Int32.toBitVec_inj.mp
  show (x.toBitVec.sshiftRight' (a.toBitVec.smod 32)) &&& 255#32 = (x.toBitVec >>> (b.toBitVec % 32)) &&& 255#32
  rw [ha, hb]
  have en : (BitVec.ofNat 32 n).toNat = n := by
    rw [BitVec.toNat_ofNat]; exact Nat.mod_eq_of_lt (by omega)
  show (x.toBitVec.sshiftRight (BitVec.ofNat 32 n).toNat) &&& 255#32 = (x.toBitVec >>> (BitVec.ofNat 32 n).toNat) &&& 255#32
  rw [en]
  apply BitVec.eq_of_getLsbD_eq
  intro i hi
  rw [BitVec.getLsbD_and, BitVec.getLsbD_and, BitVec.getLsbD_sshiftRight, BitVec.getLsbD_ushiftRight]
  by_cases q : i < 8
  · have : n + i < 32 := by omega
    have h2 : decide (32 ≤ i) = false := decide_eq_false (by omega)
    rw [if_pos this, h2]
    rfl
  · have : (255#32).getLsbD i = false := by
      have : ∀ i, i < 32 → ¬ i < 8 → (255#32).getLsbD i = false := by decide +kernel
      exact this i hi q
    rw [this, Bool.and_false, Bool.and_false]
/-- a number's byte -/
def fbV (x : Int32) (k : Nat) : Int32 := ((x.toUInt32 >>> ((24 - 8 * nI k).toUInt32 &&& Int32.toUInt32 31)).toInt32) &&& 255
theorem fb_r (x : Int32) {k : Nat} (hk : k < 20) : (x >>> ((24 - (8 * (nI k - nI k / 4 * 4))) &&& 31)) &&& 255 = fbV x (k % 4) := by
  have e1 : nI k - nI k / 4 * 4 = nI (k % 4) := pk_rem (d := 4) (by omega) (by decide) (by decide)
  rw [e1]
  have h4 : k % 4 = 0 ∨ k % 4 = 1 ∨ k % 4 = 2 ∨ k % 4 = 3 := by omega
  rcases h4 with h | h | h | h
  · rw [h]; exact sh_eq x 24 (by decide) _ _ (by decide) (by decide)
  · rw [h]; exact sh_eq x 16 (by decide) _ _ (by decide) (by decide)
  · rw [h]; exact sh_eq x 8 (by decide) _ _ (by decide) (by decide)
  · rw [h]; exact sh_eq x 0 (by decide) _ _ (by decide) (by decide)
def wd5 (a b c d e : Int32) (k : Nat) : Int32 := if k < 4 then a else if k < 8 then b else if k < 12 then c else if k < 16 then d else e
/-- the tape, k bytes more of it -/
def tpB (st : ST) (a b c d e : Int32) (i : Nat) : Int32 := if i < sTl st then sTb st i else fbV (wd5 a b c d e (i - sTl st)) ((i - sTl st) % 4)
def oFeed (st : ST) (a b c d e : Int32) : Int32 × ST := if sTl st ≤ 280 then (nI (sTl st + 20), ((sTl st + 20, tpB st a b c d e), st.2)) else (-1, st)
section FDC
variable {L : Nat} {xs : Nat → Int32} {d : Nat} {tab : Nat → Nat → Int64} {M : ME} {st : ST}
/-- the tape's length and bytes may change -/
def tTp (k j : Nat) : Bool := match k with
  | 1 => j == 1
  | 2 => true
  | _ => false
theorem tTp_f {k j : Nat} (h : k ≠ 1) (h2 : k ≠ 2) : tTp k j = false := by
  unfold tTp
  split
  all_goals first | omega | rfl
theorem ClsS_tp {n : Nat} {b : Nat → Int32} {M' : ME} (h : ClsS tab M st) (f : Fr tTp M M') (h1 : M'.1 1 1 = nI n) (h2 : ∀ i, i < n → M'.1 2 i = b i) : ClsS tab M' ((n, b), st.2) := by
  have e : ∀ k, k ≠ 1 → k ≠ 2 → M'.1 k = M.1 k := fun k hk hk2 => funext fun j => f.1 k j (tTp_f hk hk2)
  have er : M'.2 = M.2 := f.2
  obtain ⟨-, -, h3, h4, ⟨⟨g1, g2, g3, g4⟩, g5⟩, h6, c, c1, c2, c3, c4, c5⟩ := h
  refine ⟨h1, h2, by rw [e 12 (by decide) (by decide)]; exact h3, fun s hs => ⟨by rw [er]; exact (h4 s hs).1, cT_eq (h4 s hs).2 (fun k hk1 hk => e k (by omega) (by omega))⟩, ⟨⟨by rw [er]; exact g1, by rw [er]; exact g2, by rw [er]; exact g3, by rw [er]; exact g4⟩, fun s hs => ?_⟩, fun l hl => by rw [e (36 + 1 + l) (by omega) (by omega)]; exact h6 l hl, c, c1, c2, by rw [e 18 (by decide) (by decide)]; exact c3, fun n hn => by rw [er]; exact c4 n hn, fun n hn hn2 => by rw [er]; exact c5 n hn hn2⟩
  rw [er]
  refine cM_eq (g5 s hs) (fun k hk1 hk => ?_)
  have q := RMs_sc (g1 s hs) hk1 hk
  exact e k (by omega) (by omega)
theorem tTp_C {M' : ME} (f : Fr tTp M M') : FrC M M' := FrC_of f (fun k j hk => tTp_f (by omega) (by omega))
theorem putNumber_ev {x : Int32} {n : Nat} {b : Nat → Int32} (hn : n + 4 ≤ 300) (h1 : M.1 1 1 = nI n) (h2 : ∀ i, i < n → M.1 2 i = b i) : EvV (E0 L xs) d m9_putNumberOnTape [.ref 1, .int x] M (fun M' => Fr tTp M M' ∧ M'.1 1 1 = nI (n + 4) ∧ ∀ i, i < n + 4 → M'.1 2 i = if i < n then b i else fbV x (i - n)) := by
  refine Ev_of k9_putNumberOnTape rfl (Nat.le_of_ble_eq_true rfl) (b9_putNumberOnTape_0 ?_)
  suffices hloop : ∀ (q k : Nat) (M1 : ME), k + q = 4 → Fr tTp M M1 → M1.1 1 1 = nI (n + k) → (∀ i, i < n + k → M1.1 2 i = if i < n then b i else fbV x (i - n)) → Wp (E0 L xs) d m9_putNumberOnTape 3 [.ref 1, .int x, .int (24 - 8 * nI k)] [] M1 (fun v' M' => v' = none ∧ (Fr tTp M M' ∧ M'.1 1 1 = nI (n + 4) ∧ ∀ i, i < n + 4 → M'.1 2 i = if i < n then b i else fbV x (i - n))) by
    exact hloop 4 0 M (by omega) (Fr_refl _ _) h1 (fun i hi => by rw [if_pos (by omega)]; exact h2 i (by omega))
  intro q
  induction q with
  | zero =>
    intro k M1 hk f a1 a2
    have : k = 4 := by omega
    subst this
    exact b9_putNumberOnTape_3 (fun _ => b9_putNumberOnTape_49 ⟨rfl, f, a1, a2⟩) (fun h => absurd (by decide) h)
  | succ q ih =>
    intro k M1 hk f a1 a2
    have hk4 : k < 4 := by omega
    have e1 : gI M1 1 1 = nI (n + k) := a1
    have hneg : ∀ k, k < 4 → ¬ (24 - 8 * nI k : Int32) < 0 := by decide +kernel
    have hst : ∀ k, k < 4 → (24 - 8 * nI k : Int32) + -8 = 24 - 8 * nI (k + 1) := by decide +kernel
    refine b9_putNumberOnTape_3 (fun h => absurd h (hneg k hk4)) (fun _ => b9_putNumberOnTape_7 (fun h => ?_) (fun _ => b9_putNumberOnTape_17 (n + k) a1 (by omega) (b9_putNumberOnTape_43 ?_)))
    · rw [e1] at h
      have := (nI_leI (a := 300) (b := n + k) (by decide) (by omega)).mp h
      omega
    · rw [hst k hk4, e1, nI_1]
      refine ih (k + 1) _ (by omega) (Fr_sI (Fr_sI f rfl) rfl) (by rw [sI_eq, Nat.add_assoc]) (fun i hi => ?_)
      rw [sI_ne (Or.inl (by decide)), sI_at]
      by_cases e : i = n + k
      · rw [if_pos ⟨rfl, e⟩, if_neg (by omega), e, show n + k - n = k by omega]; rfl
      · rw [if_neg (fun z => e z.2)]; exact a2 i (by omega)
theorem c_feed (hS : ClsS tab M st) (hok : StOK st) {a b c e g : Int32} : EvI (E0 L xs) (d + 1) m9_feed [.ref 1, .int a, .int b, .int c, .int e, .int g] M (Co tab M (oFeed st a b c e g)) := by
  have hl : sTl st ≤ 300 := hok.1
  have e1 : gI M 1 1 = nI (sTl st) := hS.1
  refine Ev_of k9_feed rfl (Nat.le_of_ble_eq_true rfl) (b9_feed_0 (fun h => ?_) (fun h => b9_feed_13 ⟨_, rfl, ?_⟩))
  · rw [e1, show nI (sTl st) + 20 = nI (sTl st + 20) from nI_add _ 20] at h
    have h20 := (nI_leI (b := 300) (by omega) (by decide)).mp h
    unfold oFeed
    rw [if_pos (by omega)]
    generalize hn : sTl st = n at *
    refine b9_feed_15 (putNumber_ev (b := sTb st) (n := n) (by omega) e1 (fun i hi => hS.2.1 i (by omega))) (fun M1 h1 => b9_feed_20 (putNumber_ev (n := n + 4) (by omega) h1.2.1 h1.2.2) (fun M2 h2 => b9_feed_25 (putNumber_ev (n := n + 4 + 4) (by omega) h2.2.1 h2.2.2) (fun M3 h3 => b9_feed_30 (putNumber_ev (n := n + 4 + 4 + 4) (by omega) h3.2.1 h3.2.2) (fun M4 h4 => b9_feed_36 (putNumber_ev (n := n + 4 + 4 + 4 + 4) (by omega) h4.2.1 h4.2.2) (fun M5 h5 => b9_feed_42 ⟨_, rfl, h5.2.1, ?_, ?_⟩)))))
    · have f := Fr_trans h1.1 (Fr_trans h2.1 (Fr_trans h3.1 (Fr_trans h4.1 h5.1)))
      refine ClsS_tp hS f h5.2.1 (fun i hi => ?_)
      rw [h5.2.2 i (by omega)]
      unfold tpB wd5
      rw [hn]
      by_cases q0 : i < n
      · rw [if_pos (show i < n + 4 + 4 + 4 + 4 by omega), if_pos (show i < n + 4 + 4 + 4 by omega), if_pos (show i < n + 4 + 4 by omega), if_pos (show i < n + 4 by omega), if_pos (show i < n by omega), if_pos (show i < n by omega)]
      · by_cases q1 : i < n + 4
        · rw [if_pos (show i < n + 4 + 4 + 4 + 4 by omega), if_pos (show i < n + 4 + 4 + 4 by omega), if_pos (show i < n + 4 + 4 by omega), if_pos (show i < n + 4 by omega), if_neg (show ¬ i < n by omega), if_neg (show ¬ i < n by omega), if_pos (show i - n < 4 by omega), show (i - n) % 4 = i - n by omega]
        · by_cases q2 : i < n + 4 + 4
          · rw [if_pos (show i < n + 4 + 4 + 4 + 4 by omega), if_pos (show i < n + 4 + 4 + 4 by omega), if_pos (show i < n + 4 + 4 by omega), if_neg (show ¬ i < n + 4 by omega), if_neg (show ¬ i < n by omega), if_neg (show ¬ i - n < 4 by omega), if_pos (show i - n < 8 by omega), show (i - n) % 4 = i - (n + 4) by omega]
          · by_cases q3 : i < n + 4 + 4 + 4
            · rw [if_pos (show i < n + 4 + 4 + 4 + 4 by omega), if_pos (show i < n + 4 + 4 + 4 by omega), if_neg (show ¬ i < n + 4 + 4 by omega), if_neg (show ¬ i < n by omega), if_neg (show ¬ i - n < 4 by omega), if_neg (show ¬ i - n < 8 by omega), if_pos (show i - n < 12 by omega), show (i - n) % 4 = i - (n + 4 + 4) by omega]
            · by_cases q4 : i < n + 4 + 4 + 4 + 4
              · rw [if_pos (show i < n + 4 + 4 + 4 + 4 by omega), if_neg (show ¬ i < n + 4 + 4 + 4 by omega), if_neg (show ¬ i < n by omega), if_neg (show ¬ i - n < 4 by omega), if_neg (show ¬ i - n < 8 by omega), if_neg (show ¬ i - n < 12 by omega), if_pos (show i - n < 16 by omega), show (i - n) % 4 = i - (n + 4 + 4 + 4) by omega]
              · rw [if_neg (show ¬ i < n + 4 + 4 + 4 + 4 by omega), if_neg (show ¬ i < n by omega), if_neg (show ¬ i - n < 4 by omega), if_neg (show ¬ i - n < 8 by omega), if_neg (show ¬ i - n < 12 by omega), if_neg (show ¬ i - n < 16 by omega), show (i - n) % 4 = i - (n + 4 + 4 + 4 + 4) by omega]
    · exact tTp_C (Fr_trans h1.1 (Fr_trans h2.1 (Fr_trans h3.1 (Fr_trans h4.1 h5.1))))
  · rw [e1, show nI (sTl st) + 20 = nI (sTl st + 20) from nI_add _ 20] at h
    have h20 := mt (nI_leI (a := sTl st + 20) (b := 300) (by omega) (by decide)).mpr h
    unfold oFeed
    rw [if_neg (by omega)]
    exact ⟨rfl, hS, FrC_refl M⟩
end FDC
section FDR
variable {L : Nat} {xs : Nat → Int32} {d : Nat} {M : ME} {st : ST}
def tTq (k j : Nat) : Bool := match k with
  | 110 => j == 0 || j == 22
  | 125 => true
  | _ => false
theorem tTq_R {M' : ME} (f : Fr tTq M M') : FrR M M' := FrR_of f (fun k j hk => by
  unfold tTq
  split
  all_goals first | omega | rfl)
theorem RefS_tp {n : Nat} {b : Nat → Int32} {M' : ME} (h : RefS M st) (f : Fr tTq M M') (h1 : M'.1 110 22 = nI n) (h2 : ∀ i, i < n → M'.1 125 i = b i) : RefS M' ((n, b), st.2) := by
  obtain ⟨-, -, ⟨h3, h4, h5⟩, h6, h7⟩ := h
  refine ⟨h1, h2, ⟨(f.1 _ _ rfl).trans h3, (f.1 _ _ rfl).trans h4, ?_⟩, fun s hs => rT_fr (h6 s hs) f rfl (fun _ _ => rfl) (fun _ _ => rfl), fun s hs => rM_fr (h7 s hs) f rfl rfl (fun _ _ => rfl)⟩
  rw [f.1 110 30 rfl, f.1 110 27 rfl, f.1 110 28 rfl, f.1 110 29 rfl, f.1 110 17 rfl]; exact h5
theorem r_feed (hS : RefS M st) (hok : StOK st) {a b c e g : Int32} : EvI (E0 L xs) d m10_feed [.ref 110, .int a, .int b, .int c, .int e, .int g] M (Ro M (oFeed st a b c e g)) := by
  have hl : sTl st ≤ 300 := hok.1
  have e1 : gI M 110 22 = nI (sTl st) := hS.1
  refine Ev_of k10_feed rfl (Nat.le_of_ble_eq_true rfl) (b10_feed_0 (fun h => b10_feed_20 ?_) (fun h => b10_feed_18 ⟨_, rfl, ?_⟩))
  · rw [e1, show nI (sTl st) + 20 = nI (sTl st + 20) from nI_add _ 20] at h
    have h20 := (nI_leI (b := 300) (by omega) (by decide)).mp h
    unfold oFeed
    rw [if_pos (by omega)]
    have f0 : Fr tTq M (sI M 110 0 0) := Fr_sI (Fr_refl _ _) rfl
    suffices hloop : ∀ (q k : Nat) (M1 : ME), k + q = 20 → Fr tTq M M1 → M1.1 110 22 = nI (sTl st + k) → (∀ i, i < sTl st + k → M1.1 125 i = tpB st a b c e g i) → Wp (E0 L xs) d m10_feed 23 [.ref 110, .int a, .int b, .int c, .int e, .int g, .int (nI k), .null] [] M1 (fun v' M' => ∃ r, v' = some (.int r) ∧ Ro M (nI (sTl st + 20), ((sTl st + 20, tpB st a b c e g), st.2)) r M') by
      refine hloop 20 0 _ (by omega) f0 ?_ (fun i hi => ?_)
      · rw [sI_ne (Or.inr (by decide))]; exact hS.1
      · rw [sI_ne (Or.inl (by decide))]
        unfold tpB; rw [if_pos (by omega)]; exact hS.2.1 i (by omega)
    intro q
    induction q with
    | zero =>
      intro k M1 hk f a1 a2
      have : k = 20 := by omega
      subst this
      exact b10_feed_23 (fun _ => b10_feed_120 ⟨_, rfl, a1, RefS_tp hS f a1 a2, tTq_R f⟩) (fun h => absurd (by decide) h)
    | succ q ih =>
      intro k M1 hk f a1 a2
      have hk20 : k < 20 := by omega
      have fin : ∀ w, w = wd5 a b c e g k → Wp (E0 L xs) d m10_feed 76 [.ref 110, .int a, .int b, .int c, .int e, .int g, .int (nI k), .null] [.int w] M1 (fun v' M' => ∃ r, v' = some (.int r) ∧ Ro M (nI (sTl st + 20), ((sTl st + 20, tpB st a b c e g), st.2)) r M') := by
        intro w hw
        refine b10_feed_76 (sTl st + k) a1 (by omega) ?_
        rw [fb_r w hk20, nI_1, show gI M1 110 22 = _ from a1, nI_1]
        refine ih (k + 1) _ (by omega) (Fr_sI (Fr_sI f rfl) rfl) (by rw [sI_eq, Nat.add_assoc]) (fun i hi => ?_)
        rw [sI_ne (Or.inl (by decide)), sI_at]
        by_cases q2 : i = sTl st + k
        · rw [if_pos ⟨rfl, q2⟩]
          unfold tpB
          rw [if_neg (by omega), show i - sTl st = k by omega, hw]
        · rw [if_neg (fun z => q2 z.2)]; exact a2 i (by omega)
      have le : ∀ n : Nat, n < 2 ^ 31 → (nI n ≤ nI k ↔ n ≤ k) := fun n hn => nI_leI hn (by omega)
      refine b10_feed_23 (fun h => absurd ((le 20 (by decide)).mp h) (by omega)) (fun _ => b10_feed_30 (fun h4 => b10_feed_40 (fun h8 => b10_feed_51 (fun h12 => b10_feed_62 (fun h16 => b10_feed_74 (fin _ ?_)) (fun h16 => b10_feed_69 (fin _ ?_))) (fun h12 => b10_feed_58 (fin _ ?_))) (fun h8 => b10_feed_47 (fin _ ?_))) (fun h4 => b10_feed_36 (fin _ ?_)))
      · have q4 := (le 4 (by decide)).mp h4
        have q8 := (le 8 (by decide)).mp h8
        have q12 := (le 12 (by decide)).mp h12
        have q16 := (le 16 (by decide)).mp h16
        unfold wd5; rw [if_neg (by omega), if_neg (by omega), if_neg (by omega), if_neg (by omega)]
      · have q12 := (le 12 (by decide)).mp h12
        have q16 := mt (le 16 (by decide)).mpr h16
        unfold wd5; rw [if_neg (by omega), if_neg (by omega), if_neg (by omega), if_pos (by omega)]
      · have q8 := (le 8 (by decide)).mp h8
        have q12 := mt (le 12 (by decide)).mpr h12
        unfold wd5; rw [if_neg (by omega), if_neg (by omega), if_pos (by omega)]
      · have q4 := (le 4 (by decide)).mp h4
        have q8 := mt (le 8 (by decide)).mpr h8
        unfold wd5; rw [if_neg (by omega), if_pos (by omega)]
      · have q4 := mt (le 4 (by decide)).mpr h4
        unfold wd5; rw [if_pos (by omega)]
  · rw [e1, show nI (sTl st) + 20 = nI (sTl st + 20) from nI_add _ 20] at h
    have h20 := mt (nI_leI (a := sTl st + 20) (b := 300) (by omega) (by decide)).mpr h
    unfold oFeed
    rw [if_neg (by omega)]
    exact Ro_sc hok hS (tld M)
end FDR
