/-! tree, rank: the reference and the class -/
theorem lN_div {a b : Nat} (ha : a < 2 ^ 31) (h0 : 0 < b) (hb : b < 2 ^ 31) : lN a / lN b = lN (a / b) := pk_lDiv (by omega) h0 (by omega)
theorem lN_rem {a b : Nat} (ha : a < 2 ^ 31) (h0 : 0 < b) (hb : b < 2 ^ 31) : lN a - lN a / lN b * lN b = lN (a % b) := pk_lRem (by omega) h0 (by omega)
theorem lN_ne0 {a : Nat} (h0 : 0 < a) (ha : a < 2 ^ 31) : ¬ lN a = 0 := fun e => by
  have := (lN_eq (b := 0) ha (by decide)).mp e
  omega
theorem lgc_ltN {a b : Nat} (ha : a < 2 ^ 31) (hb : b < 2 ^ 31) : lg_cmp (lN a) (lN b) < 0 ↔ a < b := by rw [lgc_lt, lN_lt ha hb]
theorem lN_subN {a b : Nat} (h : b ≤ a) : lN a - lN b = lN (a - b) := lN_sub h
theorem nI_l2 {n : Nat} (h : n < 2 ^ 31) : (nI n).toInt64 = lN n := nI_l h
theorem i_sub {a b : Nat} (h : b ≤ a) : nI a - nI b = nI (a - b) := pk_sub h
def tTo (s : Nat) (k j : Nat) : Bool := match k with
  | 119 => j == s
  | 120 => Nat.ble (16 * s) j && Nat.ble j (16 * s + 15)
  | 121 => Nat.ble (9 * s) j && Nat.ble j (9 * s + 8)
  | 122 => true
  | 123 => true
  | 110 => j == 0
  | _ => false
theorem bleb {a b j : Nat} (h1 : a ≤ j) (h2 : j ≤ b) : (Nat.ble a j && Nat.ble j b) = true := by
  rw [Nat.ble_eq_true_of_le h1, Nat.ble_eq_true_of_le h2]; rfl
section TO
variable {L : Nat} {xs : Nat → Int32} {d : Nat} {R : Option Value → ME → Prop}
/-- the reference: tree, once its arguments are good -/
theorem rtree_wp {s n num : Nat} {M0 : ME} (hs : s < 3) (hn : n ≤ 8) (hnum : num < ttN n) (hR : ∀ M, Fr (tTo s) M0 M → rT M s (trN n num) → R (some (.int 1)) M) : Wp (E0 L xs) (d + 22) m10_tree 44 [.ref 110, .int (nI s), .int (nI n), .long (lN num), .null, .null, .null, .null, .null, .null, .null, .null, .null, .null] [] M0 R := by
  have hq := trN_q hnum
  have htt := ttN_lt hn
  have h3p := p3_pos n
  have h3l := p3_le hn
  have e2n : (2 : Int32) * nI n = nI (2 * n) := pk_mul 2 n
  refine b10_tree_44 s rfl hs (thirds_ev hn) (fun r M1 h1 => ?_)
  obtain ⟨rfl, rfl⟩ := h1
  refine b10_tree_57 (lN_ne0 h3p (by omega)) (thirds_ev hn) (fun r M1 h1 => ?_)
  obtain ⟨rfl, rfl⟩ := h1
  refine b10_tree_66 (lN_ne0 h3p (by omega)) ?_
  rw [lN_rem (by omega) h3p (by omega), lN_div (by omega) h3p (by omega)]
  have hF1 : Fr (tTo s) M0 (sI M0 119 s (nI n)) := Fr_sI (Fr_refl _ _) (by show (s == s) = true; simp)
  have hdiv : num / 3 ^ n ≤ num := Nat.div_le_self _ _
  -- the steps
  suffices hloop : ∀ (k c : Nat) (M : ME), c + k = 2 * n → Fr (tTo s) M0 M → M.1 119 s = nI n → (∀ i, i < c → M.1 120 (16 * s + i) = nI (spB n (num / 3 ^ n) i)) → Wp (E0 L xs) (d + 22) m10_tree 75 [.ref 110, .int (nI s), .int (nI n), .long (lN num), .null, .long (lN (spW n (num / 3 ^ n) c).1), .null, .long (lN (num % 3 ^ n)), .null, .int (nI (spW n (num / 3 ^ n) c).2), .int (nI c), .null, .null, .null] [] M R by
    exact hloop (2 * n) 0 _ (by omega) hF1 (sI_eq _ _ _ _) (fun i hi => absurd hi (Nat.not_lt_zero _))
  intro k
  induction k with
  | zero =>
    intro c M hc hF hsz hst
    have hcn : c = 2 * n := by omega
    subst hcn
    refine b10_tree_75 (fun _ => ?_) (fun h => absurd (by rw [e2n]; exact nI_le (Nat.le_refl _) (by omega)) h)
    -- parents, then labels
    have hTV := trN_TV hn hnum
    -- laysTree looks at steps alone
    refine b10_tree_179 (R' := fun M' => Fr tTr M M' ∧ rTc M' (trN n num)) ?_ (fun M2 h2 => ?_)
    · have := laysTree_ev0 (L := L) (xs := xs) (d := d + 21) (s := s) (n := n) (st := spB n (num / 3 ^ n)) (lb := tl (trN n num)) (M0 := M) hs hn hTV.2.1 hsz hst
      exact EvV_post this (fun M' h => ⟨h.1, h.2⟩)
    · have hF2 : Fr (tTo s) M0 M2 := Fr_trans hF (Fr_mono h2.1 (fun k j q => by
        unfold tTr
        split
        · cases q
        · cases q
        · rfl))
      refine b10_tree_184 (9 * s) (pk_mul 9 s) (by omega) ?_
      suffices hlab : ∀ (k v : Nat) (M : ME), v + k = n → Fr (tTo s) M0 M → rTc M (trN n num) → M.1 119 s = nI n → (∀ i, i < 2 * n → M.1 120 (16 * s + i) = nI (spB n (num / 3 ^ n) i)) → (∀ u, u ≤ v → M.1 121 (9 * s + u) = tl (trN n num) u) → Wp (E0 L xs) (d + 22) m10_tree 197 [.ref 110, .int (nI s), .int (nI n), .long (lN num), .null, .long (lN (spW n (num / 3 ^ n) (2 * n)).1), .null, .long (lN (num % 3 ^ (n - v))), .null, .int (nI (spW n (num / 3 ^ n) (2 * n)).2), .int (nI (v + 1)), .null, .null, .null] [] M R by
        refine hlab n 0 _ (by omega) (Fr_sI hF2 (bleb (by omega) (by omega))) ?_ ?_ (fun i hi => ?_) (fun u hu => ?_)
        · exact ⟨h2.2.1, h2.2.2.1, h2.2.2.2⟩
        · exact (h2.1.1 119 s rfl).trans hsz
        · exact (h2.1.1 120 _ rfl).trans (hst i hi)
        · have : u = 0 := by omega
          subst this
          rw [Nat.add_zero, sI_eq]
          exact hTV.2.2.symm
      intro k
      induction k with
      | zero =>
        intro v M hv hF hrc hsz hst hlb
        have hvn : v = n := by omega
        subst hvn
        refine b10_tree_197 (fun _ => b10_tree_264 (hR M hF ⟨hsz, hst, hlb⟩)) (fun h => absurd (nI_lt (by omega) (by omega)) h)
      | succ k ih =>
        intro v M hv hF hrc hsz hst hlb
        have hp3 := p3_pos (n - (v + 1))
        have hp3l := p3_le (show n - (v + 1) ≤ 8 by omega)
        refine b10_tree_197 (fun h => absurd ((nI_ltI (by omega) (by omega)).mp h) (by omega)) (fun _ => b10_tree_203 (R' := fun r M' => r = lN (3 ^ (n - (v + 1))) ∧ M' = M) ?_ (fun r M' hr => ?_))
        · rw [i_sub (show v + 1 ≤ n by omega)]; exact thirds_ev (by omega)
        · obtain ⟨rfl, rfl⟩ := hr
          have hpl : tP (trN n num) (v + 1) < v + 1 := tP_lt hTV (by omega) (show v + 1 ≤ n by omega)
          have e122 : gI M' 122 (v + 1) = nI (tP (trN n num) (v + 1)) := hrc.2.1 (v + 1) (by omega) (show v + 1 ≤ n by omega)
          have hmodl : num % 3 ^ (n - v) < 3 ^ (n - v) := Nat.mod_lt _ (p3_pos _)
          have hp3v := p3_le (show n - v ≤ 8 by omega)
          have hpw : 3 ^ (n - v) = 3 * 3 ^ (n - (v + 1)) := by
            rw [show n - v = (n - (v + 1)) + 1 by omega, Nat.pow_succ, Nat.mul_comm]
          have edig : num % 3 ^ (n - v) / 3 ^ (n - (v + 1)) = dgN n num (v + 1) := by
            unfold dgN
            rw [hpw, Nat.mul_comm, Nat.mod_mul_right_div_self]
          have hdl : dgN n num (v + 1) < 3 := Nat.mod_lt _ (by decide)
          refine b10_tree_211 (v + 1) rfl (by omega) (9 * s + tP (trN n num) (v + 1)) (by rw [e122]; exact i9m _ _) (by omega) (lN_ne0 hp3 (by omega)) (9 * s + (v + 1)) (i9m _ _) (by omega) (lN_ne0 hp3 (by omega)) ?_
          rw [nI_1, lN_rem (by omega) hp3 (by omega), lN_div (by omega) hp3 (by omega), edig, lN_i]
          rw [show num % 3 ^ (n - v) % 3 ^ (n - (v + 1)) = num % 3 ^ (n - (v + 1)) from Nat.mod_mod_of_dvd _ ⟨3, by rw [hpw, Nat.mul_comm]⟩]
          rw [show gI M' 121 (9 * s + tP (trN n num) (v + 1)) = _ from hlb _ (by omega)]
          refine ih (v + 1) _ (by omega) (Fr_sI hF (bleb (by omega) (by omega))) ⟨hrc.1, hrc.2.1, hrc.2.2⟩ hsz hst (fun u hu => ?_)
          rw [sI_at]
          by_cases e : u = v + 1
          · rw [if_pos ⟨rfl, by rw [e]⟩, e]
            exact (trN_lab hn hnum (show v + 1 ≤ n by omega)).symm
          · rw [if_neg (fun q => e (by omega))]; exact hlb u (by omega)
  | succ k ih =>
    intro c M hc hF hsz hst
    obtain ⟨g1, g2, g3⟩ := spW_inv hq c (by omega)
    have hw1 := wz_lt ((spW n (num / 3 ^ n) c).2) (show 2 * n - 1 - c ≤ 16 by omega)
    have hw2 := wz_lt ((spW n (num / 3 ^ n) c).2 + 1) (show 2 * n - c ≤ 16 by omega)
    have hstep : ∀ (M : ME) (b : Nat), spB n (num / 3 ^ n) c = b → Fr (tTo s) M0 M → M.1 119 s = nI n → (∀ i, i < c → M.1 120 (16 * s + i) = nI (spB n (num / 3 ^ n) i)) → ∀ (z w : Int64) (x : Int32), z = lN (spW n (num / 3 ^ n) (c + 1)).1 → Wp (E0 L xs) (d + 22) m10_tree 172 [.ref 110, .int (nI s), .int (nI n), .long (lN num), .null, .long z, .null, .long (lN (num % 3 ^ n)), .null, .int (nI (spW n (num / 3 ^ n) (c + 1)).2), .int (nI c), .long w, .null, .int x] [.int (nI b), .int (16 * nI s + nI c), .ref 120] M R := by
      intro M b hb hF hsz hst z w x hz
      subst hz
      refine b10_tree_172 (n1 := 48) rfl (by decide) (16 * s + c) (i16m _ _) (by omega) ?_
      rw [nI_1]
      refine ih (c + 1) _ (by omega) (Fr_sI hF (bleb (by omega) (by omega))) hsz (fun i hi => ?_)
      rw [sI_at]
      by_cases e : i = c
      · rw [if_pos ⟨rfl, by rw [e]⟩, e, hb]
      · rw [if_neg (fun q => e (by omega))]; exact hst i (by omega)
    refine b10_tree_75 (fun h => ?_) (fun _ => b10_tree_83 (R' := fun r M' => r = lN (wz (2 * n - 1 - c) (spW n (num / 3 ^ n) c).2) ∧ M' = M) ?_ (fun r M' hr => ?_))
    · rw [e2n] at h
      exact absurd ((nI_leI (by omega) (by omega)).mp h) (by omega)
    · rw [e2n, show nI (2 * n) - 1 = nI (2 * n - 1) from i_sub (b := 1) (by omega), i_sub (show c ≤ 2 * n - 1 by omega)]
      have := ways_ev (L := L) (xs := xs) (d := d + 21 - (2 * n - 1 - c)) (M := M) (2 * n - 1 - c) (spW n (num / 3 ^ n) c).2 (by omega) (by omega)
      rw [show d + 21 - (2 * n - 1 - c) + (2 * n - 1 - c) = d + 21 by omega] at this
      exact this
    · obtain ⟨rfl, rfl⟩ := hr
      refine b10_tree_99 (fun h => ?_) (fun h => ?_)
      · have hlt := (lgc_ltN (by omega) (by omega)).mp h
        have e3 : spW n (num / 3 ^ n) (c + 1) = ((spW n (num / 3 ^ n) c).1, (spW n (num / 3 ^ n) c).2 - 1) := if_pos hlt
        have e4 : spB n (num / 3 ^ n) c = 0 := if_pos hlt
        have hp : 0 < (spW n (num / 3 ^ n) c).2 := by
          rcases Nat.eq_zero_or_pos (spW n (num / 3 ^ n) c).2 with z | z
          · rw [z, wz_0] at hlt; exact absurd hlt (Nat.not_lt_zero _)
          · exact z
        have := hstep M' 0 e4 hF hsz hst (lN (spW n (num / 3 ^ n) c).1) (lN (wz (2 * n - 1 - c) (spW n (num / 3 ^ n) c).2)) 0 (by rw [e3])
        rw [e3] at this
        refine b10_tree_113 (b10_tree_114 (fun _ => b10_tree_129 (b10_tree_131 (fun _ => b10_tree_145 (b10_tree_149 (fun _ => b10_tree_171 ?_) (fun q => absurd rfl q))) (fun q => absurd rfl q))) (fun q => absurd rfl q))
        rw [show nI (spW n (num / 3 ^ n) c).2 - 1 = nI ((spW n (num / 3 ^ n) c).2 - 1) from i_sub (b := 1) hp]
        exact this
      · have hge : ¬ (spW n (num / 3 ^ n) c).1 < wz (2 * n - 1 - c) (spW n (num / 3 ^ n) c).2 := fun q => h ((lgc_ltN (by omega) (by omega)).mpr q)
        have e3 : spW n (num / 3 ^ n) (c + 1) = ((spW n (num / 3 ^ n) c).1 - wz (2 * n - 1 - c) (spW n (num / 3 ^ n) c).2, (spW n (num / 3 ^ n) c).2 + 1) := if_neg hge
        have e4 : spB n (num / 3 ^ n) c = 1 := if_neg hge
        have := hstep M' 1 e4 hF hsz hst (lN (spW n (num / 3 ^ n) c).1 - lN (wz (2 * n - 1 - c) (spW n (num / 3 ^ n) c).2)) (lN (wz (2 * n - 1 - c) (spW n (num / 3 ^ n) c).2)) 1 (by rw [e3]; exact lN_subN (by omega))
        rw [e3] at this
        refine b10_tree_109 (b10_tree_114 (fun q => absurd q (by decide)) (fun _ => b10_tree_121 (b10_tree_131 (fun q => absurd q (by decide)) (fun _ => b10_tree_138 (b10_tree_149 (fun q => absurd q (by decide)) (fun _ => b10_tree_167 ?_))))))
        rw [nI_1]
        exact this
/-- the class: steps by number -/
theorem writeSteps_ev {b n num : Nat} {M0 : ME} (hb : shp (E0 L xs) b = (1, 16)) (hbw : ∀ l, l ≤ 16 → b ≠ 36 + 1 + l) (hW : cW M0) (hn : n ≤ 8) (hq : num < wz (2 * n) 1) : EvV (E0 L xs) (d + 1) m6_writeSteps [.ref 35, .long (lN num), .int (nI n), .ref b] M0 (fun M => Fr (tR1 b) M0 M ∧ ∀ i, i < 2 * n → M.1 b i = nI (spB n num i)) := by
  have e2n : (2 : Int32) * nI n = nI (2 * n) := pk_mul 2 n
  refine Ev_of k6_writeSteps rfl (Nat.le_of_ble_eq_true rfl) (b6_writeSteps_0 ?_)
  suffices hloop : ∀ (k c : Nat) (M : ME), c + k = 2 * n → Fr (tR1 b) M0 M → (∀ i, i < c → M.1 b i = nI (spB n num i)) → Wp (E0 L xs) (d + 1) m6_writeSteps 9 [.ref 35, .long (lN num), .null, .int (nI n), .ref b, .long (lN (spW n num c).1), .null, .int (nI (spW n num c).2), .int (nI c), .null] [] M (fun v M' => v = none ∧ (Fr (tR1 b) M0 M' ∧ ∀ i, i < 2 * n → M'.1 b i = nI (spB n num i))) by
    exact hloop (2 * n) 0 M0 (by omega) (Fr_refl _ _) (fun i hi => absurd hi (Nat.not_lt_zero _))
  intro k
  induction k with
  | zero =>
    intro c M hc hF hst
    have hcn : c = 2 * n := by omega
    subst hcn
    exact b6_writeSteps_9 (fun _ => b6_writeSteps_77 ⟨rfl, hF, hst⟩) (fun h => absurd (by rw [e2n]; exact nI_le (Nat.le_refl _) (by omega)) h)
  | succ k ih =>
    intro c M hc hF hst
    obtain ⟨g1, g2, g3⟩ := spW_inv hq c (by omega)
    have hw1 := wz_lt ((spW n num c).2) (show 2 * n - 1 - c ≤ 16 by omega)
    have hw2 := wz_lt ((spW n num c).2 + 1) (show 2 * n - c ≤ 16 by omega)
    have hWM : cW M := fun l hl h hh => (hF.1 _ _ (tR1_f (Ne.symm (hbw l hl)))).trans (hW l hl h hh)
    refine b6_writeSteps_9 (fun h => ?_) (fun _ => b6_writeSteps_17 (R' := fun r M' => r = nI (wz (2 * n - 1 - c) (spW n num c).2) ∧ M' = M) ?_ (fun r M' hr => ?_))
    · rw [e2n] at h
      exact absurd ((nI_leI (by omega) (by omega)).mp h) (by omega)
    · rw [e2n, i_sub (show c ≤ 2 * n by omega), show nI (2 * n - c) - 1 = nI (2 * n - c - 1) from i_sub (b := 1) (by omega), show 2 * n - c - 1 = 2 * n - 1 - c by omega]
      exact waysDown_ev hWM (by omega) (by omega)
    · obtain ⟨rfl, rfl⟩ := hr
      have hnext : ∀ (M : ME) (v : Nat), spB n num c = v → Fr (tR1 b) M0 M → (∀ i, i < c → M.1 b i = nI (spB n num i)) → ∀ x : Int32, Wp (E0 L xs) (d + 1) m6_writeSteps 71 [.ref 35, .long (lN num), .null, .int (nI n), .ref b, .long (lN (spW n num (c + 1)).1), .null, .int (nI (spW n num (c + 1)).2), .int (nI c), .int x] [] (sI M b c (nI v)) (fun v M' => v = none ∧ (Fr (tR1 b) M0 M' ∧ ∀ i, i < 2 * n → M'.1 b i = nI (spB n num i))) := by
        intro M v hv hF hst x
        refine b6_writeSteps_71 ?_
        rw [nI_1]
        refine ih (c + 1) _ (by omega) (Fr_sI hF (by simp [tR1])) (fun i hi => ?_)
        rw [sI_at]
        by_cases e : i = c
        · rw [if_pos ⟨rfl, e⟩, e, hv]
        · rw [if_neg (fun q => e q.2)]; exact hst i (by omega)
      refine b6_writeSteps_31 (fun h => ?_) (fun h => ?_)
      · have hge : ¬ (spW n num c).1 < wz (2 * n - 1 - c) (spW n num c).2 := fun q => by
          rw [nI_l2 (by omega)] at h
          have := (lgc_ltN (by omega) (by omega)).mpr q
          exact absurd (Int32.lt_iff_toInt_lt.mp this) (by have := Int32.le_iff_toInt_le.mp h; omega)
        have e3 : spW n num (c + 1) = ((spW n num c).1 - wz (2 * n - 1 - c) (spW n num c).2, (spW n num c).2 + 1) := if_neg hge
        refine b6_writeSteps_54 hb (by decide) c rfl (by omega) ?_
        rw [nI_l2 (by omega), lN_subN (by omega), nI_1]
        have := hnext M' 1 (if_neg hge) hF hst (nI (wz (2 * n - 1 - c) (spW n num c).2))
        rw [e3] at this
        exact this
      · have hlt : (spW n num c).1 < wz (2 * n - 1 - c) (spW n num c).2 := by
          rw [nI_l2 (by omega)] at h
          refine (lgc_ltN (by omega) (by omega)).mp ?_
          rw [Int32.lt_iff_toInt_lt]
          have h0 : ¬ (0 : Int32).toInt ≤ (lg_cmp (lN (spW n num c).1) (lN (wz (2 * n - 1 - c) (spW n num c).2))).toInt := fun q => h (Int32.le_iff_toInt_le.mpr q)
          omega
        have e3 : spW n num (c + 1) = ((spW n num c).1, (spW n num c).2 - 1) := if_pos hlt
        have hp : 0 < (spW n num c).2 := by
          rcases Nat.eq_zero_or_pos (spW n num c).2 with z | z
          · rw [z, wz_0] at hlt; exact absurd hlt (Nat.not_lt_zero _)
          · exact z
        refine b6_writeSteps_42 hb (by decide) c rfl (by omega) ?_
        have e5 : nI (spW n num c).2 + -1 = nI ((spW n num c).2 - 1) := by
          have := pk_m1 ((spW n num c).2 - 1)
          rw [show (spW n num c).2 - 1 + 1 = (spW n num c).2 by omega] at this
          exact this
        rw [e5]
        have := hnext M' 0 (if_pos hlt) hF hst (nI (wz (2 * n - 1 - c) (spW n num c).2))
        rw [e3] at this
        exact this
def TRs (a : Nat) : Prop := a = 64 ∨ a = 70 ∨ a = 76
theorem TRs_is {a : Nat} (h : TRs a) : isTR (E0 L xs) a := by
  rcases h with rfl | rfl | rfl <;> exact ⟨rfl, rfl, rfl, rfl, rfl, rfl⟩
def tTR (a : Nat) (k _j : Nat) : Bool := Nat.ble a k && Nat.ble k (a + 5)
theorem tTR_t {a k j : Nat} (h : a ≤ k) (h2 : k ≤ a + 5) : tTR a k j = true := bleb h h2
theorem tTR_f {a k j : Nat} (h : k < a ∨ a + 5 < k) : tTR a k j = false := by
  cases q : tTR a k j with
  | false => rfl
  | true =>
    unfold tTR at q
    rw [Bool.and_eq_true] at q
    have h1 := Nat.le_of_ble_eq_true q.1
    have h2 := Nat.le_of_ble_eq_true q.2
    omega
theorem i32_perm (a b : Int32) : b + a - 1 = a - 1 + b := by
  rw [Int32.sub_eq_add_neg, Int32.sub_eq_add_neg, Int32.add_comm b a, Int32.add_assoc, Int32.add_assoc, Int32.add_comm b]
/-- the class: a tree by number -/
theorem becomeNumber_ev {a n num : Nat} {M0 : ME} (ha : TRs a) (hn : n ≤ 8) (hnum : num < ttN n) (hW : cW M0) (h0 : M0.1 (a + 2) 0 = 0) : EvV (E0 L xs) (d + 4) m8_becomeNumber [.ref a, .int (nI n), .long (lN num), .ref 35] M0 (fun M => Fr (tTR a) M0 M ∧ cT M a (trN n num)) := by
  have T := TRs_is (L := L) (xs := xs) ha
  have hq := trN_q hnum
  have htt := ttN_lt hn
  have hTV := trN_TV hn hnum
  have hdv : ∀ k, num / 3 ^ k ≤ num := fun k => Nat.div_le_self _ _
  refine Ev_of k8_becomeNumber rfl (Nat.le_of_ble_eq_true rfl) (b8_becomeNumber_0 T ?_)
  -- digits, the last first
  suffices hdig : ∀ (v : Nat) (M : ME), v ≤ n → Fr (tTR a) M0 M → M.1 a 0 = nI n → M.1 (a + 2) 0 = 0 → (∀ u, v < u → u ≤ n → M.1 (a + 2) u = nI (dgN n num u) - 1) → Wp (E0 L xs) (d + 4) m8_becomeNumber 11 [.ref a, .int (nI n), .long (lN num), .null, .ref 35, .long (lN (num / 3 ^ (n - v))), .null, .int (nI v)] [] M (fun v M' => v = none ∧ (Fr (tTR a) M0 M' ∧ cT M' a (trN n num))) by
    have := hdig n (sI M0 a 0 (nI n)) (Nat.le_refl _) (Fr_sI (Fr_refl _ _) (tTR_t (by omega) (by omega))) (sI_eq _ _ _ _) (by rw [sI_ne (Or.inl (by omega))]; exact h0) (fun u h1 h2 => by omega)
    rw [Nat.sub_self, Nat.pow_zero, Nat.div_one] at this
    exact this
  intro v
  induction v with
  | zero =>
    intro M _ hF hsz h20 hd0
    refine b8_becomeNumber_11 (fun _ => ?_) (fun h => absurd (by decide) h)
    have hbw : ∀ l, l ≤ 16 → a + 1 ≠ 36 + 1 + l := fun l hl => by rcases ha with rfl | rfl | rfl <;> omega
    have hWM : cW M := fun l hl h hh => (hF.1 _ _ (tTR_f (by rcases ha with rfl | rfl | rfl <;> omega))).trans (hW l hl h hh)
    rw [Nat.sub_zero]
    refine b8_becomeNumber_46 T (writeSteps_ev T.2.1 hbw hWM hn hq) (fun M1 h1 => ?_)
    have hF1 : Fr (tTR a) M0 M1 := Fr_trans hF (Fr_mono h1.1 (fun k j q => tR1_f (fun z => by subst z; rw [tTR_t (by omega) (by omega)] at q; cases q)))
    have k1 : ∀ o j, o ≠ 1 → M1.1 (a + o) j = M.1 (a + o) j := fun o j ho => h1.1.1 _ _ (tR1_f (by omega))
    have hTV1 : TV (n, spB n (num / 3 ^ n), fun v => M1.1 (a + 2) v) := ⟨hn, spB_dyck hq, (k1 2 0 (by decide)).trans h20⟩
    have hc0 : cT0 M1 a (n, spB n (num / 3 ^ n), fun v => M1.1 (a + 2) v) := ⟨(k1 0 0 (by decide)).trans hsz, h1.2, fun _ _ => rfl⟩
    refine b8_becomeNumber_58 T (placeCorners_ev T hTV1 hc0) (fun M2 h2 => b8_becomeNumber_62 ?_)
    have hF2 : Fr (tTR a) M0 M2 := Fr_trans hF1 (Fr_mono h2.1 (fun k j q => tR2_f (fun z => by subst z; rw [tTR_t (by omega) (by omega)] at q; cases q) (fun z => by subst z; rw [tTR_t (by omega) (by omega)] at q; cases q)))
    have k2 : ∀ o j, o ≠ 3 → o ≠ 4 → M2.1 (a + o) j = M1.1 (a + o) j := fun o j q1 q2 => h2.1.1 _ _ (tR2_f (by omega) (by omega))
    have hcc : cTc M2 a (trN n num) := h2.2
    -- labels from the digits
    suffices hlab : ∀ (k v : Nat) (M : ME), v + k = n → Fr (tTR a) M0 M → M.1 a 0 = nI n → (∀ i, i < 2 * n → M.1 (a + 1) i = nI (spB n (num / 3 ^ n) i)) → cTc M a (trN n num) → (∀ u, u ≤ v → M.1 (a + 2) u = tl (trN n num) u) → (∀ u, v < u → u ≤ n → M.1 (a + 2) u = nI (dgN n num u) - 1) → Wp (E0 L xs) (d + 4) m8_becomeNumber 65 [.ref a, .int (nI n), .long (lN num), .null, .ref 35, .long (lN (num / 3 ^ n)), .null, .int (nI (v + 1))] [] M (fun v M' => v = none ∧ (Fr (tTR a) M0 M' ∧ cT M' a (trN n num))) by
      refine hlab n 0 M2 (by omega) hF2 ?_ (fun i hi => ?_) hcc (fun u hu => ?_) (fun u u1 u2 => ?_)
      · exact (k2 0 0 (by decide) (by decide)).trans ((k1 0 0 (by decide)).trans hsz)
      · exact (k2 1 i (by decide) (by decide)).trans (h1.2 i hi)
      · have : u = 0 := by omega
        subst this
        exact ((k2 2 0 (by decide) (by decide)).trans ((k1 2 0 (by decide)).trans h20)).trans hTV.2.2.symm
      · exact (k2 2 u (by decide) (by decide)).trans ((k1 2 u (by decide)).trans (hd0 u u1 u2))
    intro k
    induction k with
    | zero =>
      intro v M hv hF hsz hst hc hlb hdd
      have hvn : v = n := by omega
      subst hvn
      refine b8_becomeNumber_65 (fun _ => b8_becomeNumber_99 T (findHeirs_ev T hTV ⟨hsz, hst, hlb⟩ hc) (fun M3 h3 => b8_becomeNumber_103 ⟨rfl, ?_, h3.2⟩)) (fun h => absurd (nI_lt (by omega) (by omega)) h)
      exact Fr_trans hF (Fr_mono h3.1 (fun k j q => tR1_f (fun z => by subst z; rw [tTR_t (by omega) (by omega)] at q; cases q)))
    | succ k ih =>
      intro v M hv hF hsz hst hc hlb hdd
      have hpl : tP (trN n num) (v + 1) < v + 1 := tP_lt hTV (by omega) (show v + 1 ≤ n by omega)
      refine b8_becomeNumber_65 (fun h => absurd ((nI_ltI (by omega) (by omega)).mp h) (by omega)) (fun _ => b8_becomeNumber_71 T (v + 1) rfl (by omega) (v + 1) rfl (by omega) (tP (trN n num) (v + 1)) (hc.2.1 (v + 1) (by omega) (show v + 1 ≤ n by omega)) (by omega) (v + 1) rfl (by omega) ?_)
      rw [nI_1, show gI M (a + 2) (v + 1) = _ from hdd (v + 1) (by omega) (by omega), show gI M (a + 2) (tP (trN n num) (v + 1)) = _ from hlb _ (by omega)]
      have hFx : Fr (tR1 (a + 2)) M (sI M (a + 2) (v + 1) (nI (dgN n num (v + 1)) - 1 + tl (trN n num) (tP (trN n num) (v + 1)))) := Fr_sI (Fr_refl _ _) (by simp [tR1])
      refine ih (v + 1) _ (by omega) (Fr_sI hF (tTR_t (by omega) (by omega))) (by rw [sI_ne (Or.inl (by omega))]; exact hsz) (fun i hi => by rw [sI_ne (Or.inl (by omega))]; exact hst i hi) (cTc_fr hc hFx (fun k j q => tR1_f (by omega))) (fun u hu => ?_) (fun u u1 u2 => ?_)
      · rw [sI_at]
        by_cases e : u = v + 1
        · rw [if_pos ⟨rfl, e⟩, e]
          rw [trN_lab hn hnum (show v + 1 ≤ n by omega)]
          exact (i32_perm _ _).symm
        · rw [if_neg (fun q => e q.2)]; exact hlb u (by omega)
      · rw [sI_ne (Or.inr (by omega))]; exact hdd u (by omega) u2
  | succ v ih =>
    intro M hv hF hsz h20 hd0
    have hp3 := p3_pos (n - (v + 1))
    have hdl : num / 3 ^ (n - (v + 1)) < 2 ^ 31 := by have := hdv (n - (v + 1)); omega
    refine b8_becomeNumber_11 (fun h => absurd ((nI_leI (b := 0) (by omega) (by decide)).mp h) (by omega)) (fun _ => b8_becomeNumber_16 T (v + 1) rfl (by omega) ?_)
    rw [pk_m1, show (3 : Int64) = lN 3 from rfl, lN_rem hdl (by decide) (by decide), lN_div hdl (by decide) (by decide), lN_i]
    rw [show num / 3 ^ (n - (v + 1)) / 3 = num / 3 ^ (n - v) from by rw [Nat.div_div_eq_div_mul, show 3 ^ (n - (v + 1)) * 3 = 3 ^ (n - v) from by rw [← Nat.pow_succ]; congr 1; omega]]
    refine ih _ (by omega) (Fr_sI hF (tTR_t (by omega) (by omega))) (by rw [sI_ne (Or.inl (by omega))]; exact hsz) (by rw [sI_ne (Or.inr (by omega))]; exact h20) (fun u u1 u2 => ?_)
    rw [sI_at]
    by_cases e : u = v + 1
    · rw [if_pos ⟨rfl, e⟩, e]; rfl
    · rw [if_neg (fun q => e q.2)]; exact hd0 u (by omega) u2
end TO
