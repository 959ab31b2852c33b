/-! ways down, trees by number -/
/-- in how many ways l steps lead down from height h - 1 -/
def wz : Nat → Nat → Nat
  | 0, h => if h = 1 then 1 else 0
  | _ + 1, 0 => 0
  | l + 1, h + 1 => wz l h + wz l (h + 2)
theorem wz_0 (l : Nat) : wz l 0 = 0 := by cases l <;> rfl
theorem wz_big : ∀ (l h : Nat), l + 1 < h → wz l h = 0
  | 0, h, hh => if_neg (by omega)
  | l + 1, 0, hh => rfl
  | l + 1, h + 1, hh => by
    show wz l h + wz l (h + 2) = 0
    rw [wz_big l h (by omega), wz_big l (h + 2) (by omega)]
theorem wz_le : ∀ (l h : Nat), wz l h ≤ 2 ^ l
  | 0, h => by
    show (if h = 1 then 1 else 0) ≤ 1
    split <;> omega
  | l + 1, 0 => Nat.zero_le _
  | l + 1, h + 1 => by
    have h1 := wz_le l h
    have h2 := wz_le l (h + 2)
    show wz l h + wz l (h + 2) ≤ 2 ^ (l + 1)
    rw [Nat.pow_succ]; omega
theorem wz_lt {l : Nat} (h : Nat) (hl : l ≤ 16) : wz l h < 2 ^ 17 := by
  have h1 := wz_le l h
  have h2 : 2 ^ l ≤ 2 ^ 16 := Nat.pow_le_pow_right (by decide) hl
  have h3 : (2 : Nat) ^ 16 < 2 ^ 17 := by decide
  omega
def ttN (n : Nat) : Nat := wz (2 * n) 1 * 3 ^ n
theorem p3_le {n : Nat} (h : n ≤ 8) : 3 ^ n ≤ 6561 := Nat.le_trans (Nat.pow_le_pow_right (by decide) h) (by decide)
theorem p3_pos (n : Nat) : 0 < 3 ^ n := Nat.pow_pos (by decide)
theorem ttN_lt {n : Nat} (h : n ≤ 8) : ttN n < 2 ^ 31 := by
  have h1 := wz_lt 1 (show 2 * n ≤ 16 by omega)
  have h2 := p3_le h
  have h3 : wz (2 * n) 1 * 3 ^ n ≤ 2 ^ 17 * 6561 := Nat.mul_le_mul (by omega) h2
  have h4 : (2 : Nat) ^ 17 * 6561 < 2 ^ 31 := by decide
  show wz (2 * n) 1 * 3 ^ n < _
  omega
theorem nI_m1 (h : Nat) : nI (h + 1) - 1 = nI h := nI_pred h
section WY
variable {L : Nat} {xs : Nat → Int32} {d : Nat} {M : ME}
theorem ways_ev : ∀ (l h : Nat), l ≤ 20 → h + l ≤ 60 → EvL (E0 L xs) (d + l) m10_ways [.ref 110, .int (nI l), .int (nI h - 1)] M (fun r M' => r = lN (wz l h) ∧ M' = M) := by
  intro l
  induction l with
  | zero =>
    intro h _ hh
    have e1 : (nI h - 1).toInt = (h : Int) - 1 := pk_sub_toInt (b := 1) (by omega) (by decide)
    refine Ev_of k10_ways rfl (Nat.le_of_ble_eq_true rfl) (b10_ways_0 (fun q => b10_ways_9 ⟨_, rfl, ?_, rfl⟩) (fun q => b10_ways_4 (fun q2 => b10_ways_11 (fun q3 => absurd rfl q3) (fun _ => b10_ways_15 ⟨_, rfl, ?_, rfl⟩)) (fun q2 => b10_ways_9 ⟨_, rfl, ?_, rfl⟩)))
    · rw [Int32.lt_iff_toInt_lt, e1] at q
      have : h = 0 := by have : (0 : Int32).toInt = 0 := rfl; omega
      subst this; rfl
    · rw [Int32.lt_iff_toInt_lt, e1] at q
      rw [Int32.le_iff_toInt_le, e1] at q2
      have h0 : (0 : Int32).toInt = 0 := rfl
      have h00 : (nI 0).toInt = 0 := rfl
      have : h = 1 := by omega
      subst this; rfl
    · rw [Int32.lt_iff_toInt_lt, e1] at q
      rw [Int32.le_iff_toInt_le, e1] at q2
      have h00 : (nI 0).toInt = 0 := rfl
      rw [wz_big 0 h (by omega)]; rfl
  | succ l ih =>
    intro h hl hh
    have e1 : (nI h - 1).toInt = (h : Int) - 1 := pk_sub_toInt (b := 1) (by omega) (by decide)
    refine Ev_of k10_ways rfl (Nat.le_of_ble_eq_true rfl) (b10_ways_0 (fun q => b10_ways_9 ⟨_, rfl, ?_, rfl⟩) (fun q => b10_ways_4 (fun q2 => b10_ways_11 (fun _ => ?_) (fun q3 => ?_)) (fun q2 => b10_ways_9 ⟨_, rfl, ?_, rfl⟩)))
    · rw [Int32.lt_iff_toInt_lt, e1] at q
      have : h = 0 := by have : (0 : Int32).toInt = 0 := rfl; omega
      subst this; rw [wz_0]; rfl
    · rw [Int32.lt_iff_toInt_lt, e1] at q
      have h0 : (0 : Int32).toInt = 0 := rfl
      obtain ⟨h', rfl⟩ : ∃ h', h = h' + 1 := ⟨h - 1, by omega⟩
      refine b10_ways_17 (R' := fun r M' => r = lN (wz l h') ∧ M' = M) ?_ (fun r M' hr => ?_)
      · rw [nI_m1, nI_m1]; exact ih h' (by omega) (by omega)
      · obtain ⟨rfl, rfl⟩ := hr
        refine b10_ways_27 (R' := fun r M'' => r = lN (wz l (h' + 2)) ∧ M'' = M') ?_ (fun r M'' hr => ?_)
        · rw [nI_m1, nI_m1, nI_1, ← nI_m1 (h' + 1)]; exact ih (h' + 2) (by omega) (by omega)
        · obtain ⟨rfl, rfl⟩ := hr
          exact b10_ways_37 ⟨_, rfl, lN_add _ _, rfl⟩
    · exact absurd q3 (nI_ne0 (Nat.succ_pos l) (by omega))
    · rw [Int32.lt_iff_toInt_lt, e1] at q
      rw [Int32.le_iff_toInt_le, e1, nI_toInt (by omega)] at q2
      rw [wz_big (l + 1) h (by omega)]; rfl
theorem thirds_ev {n : Nat} (hn : n ≤ 8) : EvL (E0 L xs) d m10_thirds [.ref 110, .int (nI n)] M (fun r M' => r = lN (3 ^ n) ∧ M' = M) := by
  refine Ev_of k10_thirds rfl (Nat.le_of_ble_eq_true rfl) (b10_thirds_0 ?_)
  suffices hloop : ∀ (k i : Nat), i + k = n → Wp (E0 L xs) d m10_thirds 5 [.ref 110, .int (nI n), .long (lN (3 ^ i)), .null, .int (nI i)] [] M (fun v M' => ∃ r, v = some (.long r) ∧ (r = lN (3 ^ n) ∧ M' = M)) by
    exact hloop n 0 (by omega)
  intro k
  induction k with
  | zero =>
    intro i hi
    have : i = n := by omega
    subst this
    exact b10_thirds_5 (fun _ => b10_thirds_23 ⟨_, rfl, rfl, rfl⟩) (fun h => absurd (nI_le (Nat.le_refl _) (by omega)) h)
  | succ k ih =>
    intro i hi
    refine b10_thirds_5 (fun h => absurd ((nI_leI (by omega) (by omega)).mp h) (by omega)) (fun _ => b10_thirds_11 ?_)
    rw [nI_1, show (3 : Int64) * lN (3 ^ i) = lN (3 ^ (i + 1)) from by
      rw [show (3 : Int64) = lN 3 from rfl, lN_mul, Nat.pow_succ, Nat.mul_comm]]
    exact ih (i + 1) (by omega)
theorem allTrees_ev {n : Nat} (hn : n ≤ 8) : EvL (E0 L xs) (d + 21) m10_allTrees [.ref 110, .int (nI n)] M (fun r M' => r = lN (ttN n) ∧ M' = M) := by
  refine Ev_of k10_allTrees rfl (Nat.le_of_ble_eq_true rfl) (b10_allTrees_0 (R' := fun r M' => r = lN (wz (2 * n) 1) ∧ M' = M) ?_ (fun r M' hr => ?_))
  · rw [show (2 : Int32) * nI n = nI (2 * n) from pk_mul 2 n]
    have := ways_ev (L := L) (xs := xs) (d := d + 20 - 2 * n) (M := M) (2 * n) 1 (by omega) (by omega)
    rw [show d + 20 - 2 * n + 2 * n = d + 20 by omega] at this
    exact this
  · obtain ⟨rfl, rfl⟩ := hr
    refine b10_allTrees_8 (thirds_ev hn) (fun r M' hr => ?_)
    obtain ⟨rfl, rfl⟩ := hr
    exact b10_allTrees_13 ⟨_, rfl, lN_mul _ _, rfl⟩
/-- the class's table -/
def cW (M : ME) : Prop := ∀ l, l ≤ 16 → ∀ h, h < 18 → M.1 (36 + 1 + l) h = nI (wz l (h + 1))
theorem waysDown_ev {l h : Nat} (hW : cW M) (hl : l ≤ 16) (hh : h ≤ 18) : EvI (E0 L xs) d m6_waysDown [.ref 35, .int (nI l), .int (nI h)] M (fun r M' => r = nI (wz l h) ∧ M' = M) := by
  refine Ev_of k6_waysDown rfl (Nat.le_of_ble_eq_true rfl) (b6_waysDown_0 (fun q => ?_) (fun q => ?_))
  · have h1 : 0 < h := (nI_ltI (a := 0) (by decide) (by omega)).mp q
    obtain ⟨h', rfl⟩ : ∃ h', h = h' + 1 := ⟨h - 1, by omega⟩
    exact b6_waysDown_8 l rfl (by omega) h' (nI_m1 h') (by omega) (b6_waysDown_18 ⟨_, rfl, hW l hl h' (by omega), rfl⟩)
  · have h1 : h = 0 := by
      rcases Nat.eq_zero_or_pos h with z | z
      · exact z
      · exact absurd (nI_lt (a := 0) z (by omega)) q
    subst h1
    refine b6_waysDown_4 (b6_waysDown_18 ⟨_, rfl, ?_, rfl⟩)
    rw [wz_0]; rfl
end WY
/-! steps by number -/
def spW (n num : Nat) : Nat → Nat × Nat
  | 0 => (num, 0)
  | c + 1 => if (spW n num c).1 < wz (2 * n - 1 - c) (spW n num c).2 then ((spW n num c).1, (spW n num c).2 - 1) else ((spW n num c).1 - wz (2 * n - 1 - c) (spW n num c).2, (spW n num c).2 + 1)
def spB (n num c : Nat) : Nat := if (spW n num c).1 < wz (2 * n - 1 - c) (spW n num c).2 then 0 else 1
theorem spW_inv {n num : Nat} (hn : num < wz (2 * n) 1) : ∀ c, c ≤ 2 * n → (spW n num c).1 < wz (2 * n - c) ((spW n num c).2 + 1) ∧ (spW n num c).2 ≤ c ∧ hgt (spB n num) c = (spW n num c).2
  | 0, _ => ⟨hn, Nat.le_refl _, rfl⟩
  | c + 1, hc => by
    obtain ⟨h1, h2, h3⟩ := spW_inv hn c (by omega)
    have e : 2 * n - c = (2 * n - 1 - c) + 1 := by omega
    have e2 : 2 * n - (c + 1) = 2 * n - 1 - c := by omega
    rw [e] at h1
    have h1' : (spW n num c).1 < wz (2 * n - 1 - c) (spW n num c).2 + wz (2 * n - 1 - c) ((spW n num c).2 + 2) := h1
    rw [e2]
    by_cases q : (spW n num c).1 < wz (2 * n - 1 - c) (spW n num c).2
    · have e3 : spW n num (c + 1) = ((spW n num c).1, (spW n num c).2 - 1) := if_pos q
      have e4 : spB n num c = 0 := if_pos q
      have hp : 0 < (spW n num c).2 := by
        rcases Nat.eq_zero_or_pos (spW n num c).2 with z | z
        · rw [z, wz_0] at q; exact absurd q (Nat.not_lt_zero _)
        · exact z
      rw [e3]
      refine ⟨?_, by show _ - 1 ≤ _; omega, ?_⟩
      · show (spW n num c).1 < wz _ ((spW n num c).2 - 1 + 1)
        rw [show (spW n num c).2 - 1 + 1 = (spW n num c).2 by omega]; exact q
      · show (if spB n num c = 1 then _ else _) = _
        rw [e4, if_neg (by decide), h3]
        show _ = (((spW n num c).2 - 1 : Nat) : Int)
        omega
    · have e3 : spW n num (c + 1) = ((spW n num c).1 - wz (2 * n - 1 - c) (spW n num c).2, (spW n num c).2 + 1) := if_neg q
      have e4 : spB n num c = 1 := if_neg q
      rw [e3]
      refine ⟨?_, by show _ + 1 ≤ _; omega, ?_⟩
      · show (spW n num c).1 - wz (2 * n - 1 - c) (spW n num c).2 < wz _ ((spW n num c).2 + 1 + 1)
        have : (spW n num c).2 + 1 + 1 = (spW n num c).2 + 2 := rfl
        rw [this]; omega
      · show (if spB n num c = 1 then _ else _) = _
        rw [e4, if_pos rfl, h3]
        show _ = (((spW n num c).2 + 1 : Nat) : Int)
        omega
theorem spB_dyck {n num : Nat} (hn : num < wz (2 * n) 1) : Dyck (spB n num) n := by
  refine ⟨fun i _ => ?_, fun i hi => ?_, ?_⟩
  · unfold spB; split
    · exact Or.inl rfl
    · exact Or.inr rfl
  · rw [(spW_inv hn i hi).2.2]; omega
  · obtain ⟨h1, -, h3⟩ := spW_inv hn (2 * n) (Nat.le_refl _)
    rw [h3]
    rw [Nat.sub_self] at h1
    have h4 : (spW n num (2 * n)).1 < if (spW n num (2 * n)).2 + 1 = 1 then 1 else 0 := h1
    by_cases q : (spW n num (2 * n)).2 + 1 = 1
    · omega
    · rw [if_neg q] at h4; omega
/-- labels by number -/
def dgN (n num v : Nat) : Nat := num / 3 ^ (n - v) % 3
def lbF (n num : Nat) (par : Nat → Nat) : Nat → Nat → Int32
  | 0 => fun _ => 0
  | v + 1 => va_up (lbF n num par v) (v + 1) (lbF n num par v (par (v + 1)) + nI (dgN n num (v + 1)) - 1)
theorem lbF_st {n num : Nat} {par : Nat → Nat} {v : Nat} : ∀ {k : Nat}, v ≤ k → lbF n num par k v = lbF n num par v v := by
  intro k
  induction k with
  | zero => intro h; rw [Nat.le_zero.mp h]
  | succ k ih =>
    intro h
    by_cases e : v = k + 1
    · rw [e]
    · exact (if_neg e).trans (ih (by omega))
/-- the tree of n edges with a number -/
def trN (n num : Nat) : PTr := (n, spB n (num / 3 ^ n), lbF n num (fun v => (tw (spB n (num / 3 ^ n)) (2 * n)).2.2 v) n)
theorem trN_q {n num : Nat} (h : num < ttN n) : num / 3 ^ n < wz (2 * n) 1 := (Nat.div_lt_iff_lt_mul (p3_pos n)).mpr h
theorem trN_TV {n num : Nat} (hn : n ≤ 8) (h : num < ttN n) : TV (trN n num) := ⟨hn, spB_dyck (trN_q h), (lbF_st (v := 0) (Nat.zero_le n)).trans rfl⟩
theorem tP_lt {t : PTr} (h : TV t) {v : Nat} (h1 : 1 ≤ v) (h2 : v ≤ tn t) : tP t v < v := by
  obtain ⟨dp, g1, g2, g3, -⟩ := tw_inv h.2.1 (2 * tn t) (Nat.le_refl _)
  exact g3 v h1 (by rw [g1, Dyck_ups h.2.1]; exact h2)
theorem trN_lab {n num v : Nat} (hn : n ≤ 8) (hnum : num < ttN n) (hv : v + 1 ≤ n) : tl (trN n num) (v + 1) = tl (trN n num) (tP (trN n num) (v + 1)) + nI (dgN n num (v + 1)) - 1 := by
  have hTV := trN_TV hn hnum
  have hpl : tP (trN n num) (v + 1) < v + 1 := tP_lt hTV (by omega) hv
  have e5 : tl (trN n num) (v + 1) = lbF n num (fun v => (tw (spB n (num / 3 ^ n)) (2 * n)).2.2 v) (v + 1) (v + 1) := lbF_st hv
  have e6 : tl (trN n num) (tP (trN n num) (v + 1)) = lbF n num (fun v => (tw (spB n (num / 3 ^ n)) (2 * n)).2.2 v) v (tP (trN n num) (v + 1)) := by
    show lbF n num _ n _ = _
    rw [lbF_st (show tP (trN n num) (v + 1) ≤ n by omega), lbF_st (show tP (trN n num) (v + 1) ≤ v by omega)]
  rw [e5, e6]
  exact if_pos rfl
