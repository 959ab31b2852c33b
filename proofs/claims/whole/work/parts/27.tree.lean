/-! trees: edges, steps, labels; the walk round -/
abbrev PTr : Type := Nat × (Nat → Nat) × (Nat → Int32)
abbrev tn (t : PTr) : Nat := t.1
abbrev ts (t : PTr) : Nat → Nat := t.2.1
abbrev tl (t : PTr) : Nat → Int32 := t.2.2
/-- behind i steps: the vertex, the last vertex that was come to, parents -/
def tw (s : Nat → Nat) : Nat → Nat × Nat × (Nat → Nat)
  | 0 => (0, 0, fun _ => 0)
  | i + 1 => if s i = 1 then ((tw s i).2.1 + 1, (tw s i).2.1 + 1, va_up (tw s i).2.2 ((tw s i).2.1 + 1) (tw s i).1) else ((tw s i).2.2 (tw s i).1, (tw s i).2.1, (tw s i).2.2)
def hgt (s : Nat → Nat) : Nat → Int
  | 0 => 0
  | i + 1 => if s i = 1 then hgt s i + 1 else hgt s i - 1
def ups (s : Nat → Nat) (i : Nat) : Nat := cnB (fun j => decide (s j = 1)) i
theorem hgt_ups (s : Nat → Nat) : ∀ i, hgt s i = 2 * (ups s i : Int) - i
  | 0 => rfl
  | i + 1 => by
    have ih := hgt_ups s i
    have e : ups s (i + 1) = ups s i + (if decide (s i = 1) = true then 1 else 0) := rfl
    show (if s i = 1 then hgt s i + 1 else hgt s i - 1) = _
    by_cases h : s i = 1
    · rw [if_pos h, e, if_pos (decide_eq_true h), ih]; push_cast; omega
    · rw [if_neg h, e, if_neg (by simpa using h), ih]; push_cast; omega
/-- steps of a tree of n edges: never below the root, back at it behind all -/
def Dyck (s : Nat → Nat) (n : Nat) : Prop := (∀ i, i < 2 * n → s i = 0 ∨ s i = 1) ∧ (∀ i, i ≤ 2 * n → 0 ≤ hgt s i) ∧ hgt s (2 * n) = 0
theorem ups_mono (s : Nat → Nat) {a b : Nat} (h : a ≤ b) : ups s a ≤ ups s b := by
  induction b with
  | zero => rw [Nat.le_zero.mp h]; exact Nat.le_refl _
  | succ b ih =>
    by_cases e : a = b + 1
    · rw [e]; exact Nat.le_refl _
    · exact Nat.le_trans (ih (by omega)) (Nat.le_add_right _ _)
theorem Dyck_ups {s : Nat → Nat} {n : Nat} (h : Dyck s n) : ups s (2 * n) = n := by
  have h1 := hgt_ups s (2 * n)
  rw [h.2.2] at h1
  omega
theorem Dyck_le {s : Nat → Nat} {n i : Nat} (h : Dyck s n) (hi : i ≤ 2 * n) : ups s i ≤ n := by
  have := ups_mono s hi
  rw [Dyck_ups h] at this
  exact this
theorem Dyck_lt {s : Nat → Nat} {n i : Nat} (h : Dyck s n) (hi : i < 2 * n) (hs : s i = 1) : ups s i < n := by
  have h1 := Dyck_le h (show i + 1 ≤ 2 * n from hi)
  have e : ups s (i + 1) = ups s i + (if decide (s i = 1) = true then 1 else 0) := rfl
  rw [if_pos (decide_eq_true hs)] at e
  omega
/-- what holds on the walk -/
def TwI (s : Nat → Nat) (i : Nat) (dp : Nat → Nat) : Prop := (tw s i).2.1 = ups s i ∧ (tw s i).1 ≤ (tw s i).2.1 ∧ (∀ v, 1 ≤ v → v ≤ (tw s i).2.1 → (tw s i).2.2 v < v) ∧ dp 0 = 0 ∧ (∀ v, 1 ≤ v → v ≤ (tw s i).2.1 → dp v = dp ((tw s i).2.2 v) + 1) ∧ (dp (tw s i).1 : Int) = hgt s i
theorem tw_inv {s : Nat → Nat} {n : Nat} (h : Dyck s n) : ∀ i, i ≤ 2 * n → ∃ dp, TwI s i dp
  | 0, _ => ⟨fun _ => 0, rfl, Nat.le_refl _, fun v h1 h2 => absurd h2 (by show ¬ v ≤ 0; omega), rfl, fun v h1 h2 => absurd h2 (by show ¬ v ≤ 0; omega), rfl⟩
  | i + 1, hi => by
    obtain ⟨dp, h1, h2, h3, h4, h5, h6⟩ := tw_inv h i (by omega)
    have hh := h.2.1 (i + 1) hi
    have e2 : ups s (i + 1) = ups s i + (if decide (s i = 1) = true then 1 else 0) := rfl
    by_cases hs : s i = 1
    · have e : tw s (i + 1) = ((tw s i).2.1 + 1, (tw s i).2.1 + 1, va_up (tw s i).2.2 ((tw s i).2.1 + 1) (tw s i).1) := if_pos hs
      have eh : hgt s (i + 1) = hgt s i + 1 := if_pos hs
      rw [if_pos (decide_eq_true hs)] at e2
      refine ⟨va_up dp ((tw s i).2.1 + 1) (dp (tw s i).1 + 1), ?_⟩
      unfold TwI
      rw [e, eh]
      have u1 : ∀ {α : Type} (f : Nat → α) (x : α) (v : Nat), v ≤ (tw s i).2.1 → va_up f ((tw s i).2.1 + 1) x v = f v := fun f x v hv => if_neg (by omega)
      have u2 : ∀ {α : Type} (f : Nat → α) (x : α), va_up f ((tw s i).2.1 + 1) x ((tw s i).2.1 + 1) = x := fun f x => if_pos rfl
      refine ⟨by show _ + 1 = _; omega, Nat.le_refl _, fun v v1 v2 => ?_, ?_, fun v v1 v2 => ?_, ?_⟩
      · show va_up _ _ _ v < v
        by_cases ev : v = (tw s i).2.1 + 1
        · rw [ev, u2]; omega
        · have v2' : v ≤ (tw s i).2.1 + 1 := v2
          rw [u1 _ _ v (by omega)]; exact h3 v v1 (by omega)
      · rw [u1 _ _ 0 (Nat.zero_le _)]; exact h4
      · show va_up dp _ _ v = va_up dp _ _ (va_up _ _ _ v) + 1
        by_cases ev : v = (tw s i).2.1 + 1
        · rw [ev, u2, u2, u1 _ _ _ h2]
        · have v2' : v ≤ (tw s i).2.1 + 1 := v2
          have hv3 := h3 v v1 (by omega)
          rw [u1 _ _ v (by omega), u1 _ _ v (by omega), u1 _ _ _ (by omega)]; exact h5 v v1 (by omega)
      · show ((va_up dp _ _ _ : Nat) : Int) = _
        rw [u2, ← h6]; push_cast; omega
    · have e : tw s (i + 1) = ((tw s i).2.2 (tw s i).1, (tw s i).2.1, (tw s i).2.2) := if_neg hs
      have eh : hgt s (i + 1) = hgt s i - 1 := if_neg hs
      rw [if_neg (by simpa using hs)] at e2
      have hat : 1 ≤ (tw s i).1 := by
        rcases Nat.eq_zero_or_pos (tw s i).1 with q | q
        · rw [q, h4] at h6; omega
        · exact q
      have g3 := h3 _ hat h2
      have g5 := h5 _ hat h2
      refine ⟨dp, ?_⟩
      unfold TwI
      rw [e, eh]
      refine ⟨by show (tw s i).2.1 = _; omega, by show (tw s i).2.2 _ ≤ (tw s i).2.1; omega, h3, h4, h5, ?_⟩
      show (dp ((tw s i).2.2 (tw s i).1) : Int) = _
      omega
theorem tw_par {s : Nat → Nat} : ∀ {i k v : Nat}, v ≤ (tw s i).2.1 → (tw s (i + k)).2.2 v = (tw s i).2.2 v ∧ (tw s i).2.1 ≤ (tw s (i + k)).2.1
  | i, 0, v, h => ⟨rfl, Nat.le_refl _⟩
  | i, k + 1, v, h => by
    obtain ⟨h1, h2⟩ := tw_par (k := k) h
    by_cases hs : s (i + k) = 1
    · have e : tw s (i + k + 1) = ((tw s (i + k)).2.1 + 1, (tw s (i + k)).2.1 + 1, va_up (tw s (i + k)).2.2 ((tw s (i + k)).2.1 + 1) (tw s (i + k)).1) := if_pos hs
      rw [show i + (k + 1) = i + k + 1 from rfl, e]
      exact ⟨(show va_up _ _ _ v = _ from if_neg (by omega)).trans h1, by show _ ≤ _ + 1; omega⟩
    · have e : tw s (i + k + 1) = ((tw s (i + k)).2.2 (tw s (i + k)).1, (tw s (i + k)).2.1, (tw s (i + k)).2.2) := if_neg hs
      rw [show i + (k + 1) = i + k + 1 from rfl, e]
      exact ⟨h1, h2⟩
/-- vertex at a corner; parents; corners; the heir, searched from k on -/
abbrev tA (t : PTr) (i : Nat) : Nat := (tw (ts t) i).1
abbrev tP (t : PTr) (v : Nat) : Nat := (tw (ts t) (2 * tn t)).2.2 v
def tC (t : PTr) : Nat := if tn t = 0 then 1 else 2 * tn t
def hrK (t : PTr) (c : Nat) : Nat → Nat → Int32
  | _, 0 => -1
  | k, f + 1 => if tl t (tA t ((c + k) % tC t)) = tl t (tA t c) - 1 then nI ((c + k) % tC t) else hrK t c (k + 1) f
def hrV (t : PTr) (c : Nat) : Int32 := hrK t c 1 (tC t - 1)
def TV (t : PTr) : Prop := tn t ≤ 8 ∧ Dyck (ts t) (tn t) ∧ tl t 0 = 0
theorem tC_pos (t : PTr) : 0 < tC t := by unfold tC; split <;> omega
theorem tC_le {t : PTr} (h : TV t) : tC t ≤ 16 := by have h1 : tn t ≤ 8 := h.1; unfold tC; split <;> omega
theorem tA_le {t : PTr} (h : TV t) {c : Nat} (hc : c < tC t) : tA t c ≤ tn t := by
  by_cases h0 : tn t = 0
  · have : c = 0 := by unfold tC at hc; rw [if_pos h0] at hc; omega
    subst this; exact Nat.zero_le _
  · have hc2 : c < 2 * tn t := by unfold tC at hc; rw [if_neg h0] at hc; exact hc
    obtain ⟨dp, h1, h2, -⟩ := tw_inv h.2.1 c (by omega)
    have := Dyck_le h.2.1 (show c ≤ 2 * tn t by omega)
    show (tw (ts t) c).1 ≤ _
    omega
/-- the tree in the reference's slot s -/
def rT (M : ME) (s : Nat) (t : PTr) : Prop := M.1 119 s = nI (tn t) ∧ (∀ i, i < 2 * tn t → M.1 120 (16 * s + i) = nI (ts t i)) ∧ ∀ v, v ≤ tn t → M.1 121 (9 * s + v) = tl t v
def rTc (M : ME) (t : PTr) : Prop := M.1 122 0 = -1 ∧ (∀ v, 1 ≤ v → v ≤ tn t → M.1 122 v = nI (tP t v)) ∧ ∀ c, c < tC t → M.1 123 c = nI (tA t c)
def tTr (k _j : Nat) : Bool := match k with
  | 122 => true
  | 123 => true
  | _ => false
theorem rT_fr {f : Nat → Nat → Bool} {M M' : ME} {s : Nat} {t : PTr} (h : rT M s t) (hF : Fr f M M') (h1 : f 119 s = false) (h2 : ∀ i, i < 2 * tn t → f 120 (16 * s + i) = false) (h3 : ∀ v, v ≤ tn t → f 121 (9 * s + v) = false) : rT M' s t :=
  ⟨(hF.1 _ _ h1).trans h.1, fun i hi => (hF.1 _ _ (h2 i hi)).trans (h.2.1 i hi), fun v hv => (hF.1 _ _ (h3 v hv)).trans (h.2.2 v hv)⟩
theorem i16m (s d : Nat) : 16 * nI s + nI d = nI (16 * s + d) := by
  show nI 16 * nI s + nI d = _
  rw [pk_mul, nI_add]
theorem i9m (s d : Nat) : 9 * nI s + nI d = nI (9 * s + d) := by
  show nI 9 * nI s + nI d = _
  rw [pk_mul, nI_add]
section LT
variable {L : Nat} {xs : Nat → Int32} {d : Nat}
theorem laysTree_ev {s : Nat} {t : PTr} {M0 : ME} (hs : s < 3) (hv : tn t ≤ 8 ∧ Dyck (ts t) (tn t) ∧ True) (hr : rT M0 s t) : EvV (E0 L xs) d m10_laysTree [.ref 110, .int (nI s)] M0 (fun M => Fr tTr M0 M ∧ rTc M t) := by
  have hn : t.1 ≤ 8 := hv.1
  have frM : ∀ M, Fr tTr M0 M → rT M s t := fun M hF => rT_fr hr hF rfl (fun _ _ => rfl) (fun _ _ => rfl)
  refine Ev_of k10_laysTree rfl (Nat.le_of_ble_eq_true rfl) (b10_laysTree_0 0 rfl (by decide) ?_)
  suffices hloop : ∀ (k i : Nat) (M : ME), i + k = 2 * tn t → Fr tTr M0 M → M.1 122 0 = -1 → (∀ v, 1 ≤ v → v ≤ (tw (ts t) i).2.1 → M.1 122 v = nI ((tw (ts t) i).2.2 v)) → (∀ c, c < i → M.1 123 c = nI (tA t c)) → Wp (E0 L xs) d m10_laysTree 14 [.ref 110, .int (nI s), .int (nI (tA t i)), .int (nI ((tw (ts t) i).2.1 + 1)), .int (nI i)] [] M (fun v M' => v = none ∧ (Fr tTr M0 M' ∧ rTc M' t)) by
    exact hloop (2 * tn t) 0 _ (by omega) (Fr_sI (Fr_refl _ _) rfl) (sI_eq _ _ _ _) (fun v h1 h2 => absurd h2 (by show ¬ v ≤ 0; omega)) (fun c hc => absurd hc (Nat.not_lt_zero _))
  intro k
  induction k with
  | zero =>
    intro i M hi hF h0 hp hc
    have hin : i = 2 * t.1 := hi
    have hM := frM M hF
    have e2 : 2 * gI M 119 s = nI (2 * t.1) := by rw [show gI M 119 s = _ from hM.1]; exact pk_mul 2 _
    have hup : (tw (ts t) i).2.1 = tn t := by
      obtain ⟨dp, h1, -⟩ := tw_inv hv.2.1 i (by omega)
      rw [h1, hin]; exact Dyck_ups hv.2.1
    refine b10_laysTree_14 s rfl hs (fun _ => ?_) (fun h => absurd (by rw [e2, hin]; exact nI_le (Nat.le_refl _) (by omega)) h)
    have hp' : ∀ v, 1 ≤ v → v ≤ tn t → M.1 122 v = nI (tP t v) := fun v h1 h2 => by rw [hp v h1 (by omega), hin]
    refine b10_laysTree_80 s rfl hs (fun h => b10_laysTree_96 ⟨rfl, hF, h0, hp', fun c hcc => ?_⟩) (fun h => b10_laysTree_89 0 rfl (by decide) (b10_laysTree_96 ⟨rfl, Fr_sI hF rfl, h0, hp', fun c hcc => ?_⟩))
    · have : tn t ≠ 0 := fun q => h (by rw [show gI M 119 s = _ from hM.1, q]; rfl)
      unfold tC at hcc
      rw [if_neg this] at hcc
      exact hc c (by rw [hin]; exact hcc)
    · have : tn t = 0 := by
        rw [show gI M 119 s = _ from hM.1] at h
        exact (nI_eq (b := 0) (by show t.1 < _; omega) (by decide)).mp h
      unfold tC at hcc
      rw [if_pos this] at hcc
      have hc0 : c = 0 := by omega
      subst hc0
      exact sI_eq _ _ _ _
  | succ k ih =>
    intro i M hi hF h0 hp hc
    have hi2 : i + (k + 1) = 2 * t.1 := hi
    have hM := frM M hF
    have e2 : 2 * gI M 119 s = nI (2 * t.1) := by rw [show gI M 119 s = _ from hM.1]; exact pk_mul 2 _
    obtain ⟨dp, g1, g2, g3, g4, g5, g6⟩ := tw_inv hv.2.1 i (by show i ≤ 2 * t.1; omega)
    have hle := Dyck_le hv.2.1 (show i ≤ 2 * t.1 by omega)
    have hle2 : ups (ts t) i ≤ t.1 := hle
    have es : gI M 120 (16 * s + i) = nI (ts t i) := hM.2.1 i (by show i < 2 * t.1; omega)
    have hst := hv.2.1.1 i (by show i < 2 * t.1; omega)
    refine b10_laysTree_14 s rfl hs (fun h => ?_) (fun _ => b10_laysTree_27 i rfl (by omega) (16 * s + i) (i16m _ _) (by omega) (fun h => ?_) (fun h => ?_))
    · rw [e2] at h
      exact absurd ((nI_leI (by omega) (by omega)).mp h) (by omega)
    · have hs1 : ¬ ts t i = 1 := fun q => h (by rw [es, q]; rfl)
      have e : tw (ts t) (i + 1) = ((tw (ts t) i).2.2 (tw (ts t) i).1, (tw (ts t) i).2.1, (tw (ts t) i).2.2) := if_neg hs1
      have hat : 1 ≤ (tw (ts t) i).1 := by
        rcases Nat.eq_zero_or_pos (tw (ts t) i).1 with q | q
        · exfalso
          have hh := hv.2.1.2.1 (i + 1) (by show i + 1 ≤ 2 * t.1; omega)
          have eh : hgt (ts t) (i + 1) = hgt (ts t) i - 1 := if_neg hs1
          rw [q, g4] at g6
          omega
        · exact q
      refine b10_laysTree_67 (tA t i) rfl (by show (tw (ts t) i).1 < 9; omega) (b10_laysTree_74 ?_)
      have e6 : gI (sI M 123 i (nI (tA t i))) 122 (tA t i) = nI (tA t (i + 1)) := by
        show M.1 122 (tw (ts t) i).1 = nI (tw (ts t) (i + 1)).1
        rw [hp _ hat g2, e]
      rw [e6, nI_1]
      have := ih (i + 1) (sI M 123 i (nI (tA t i))) (by omega) (Fr_sI hF rfl) h0 (by rw [e]; exact hp) (fun c hcc => by
        rw [sI_at]
        by_cases ec : c = i
        · rw [if_pos ⟨rfl, ec⟩, ec]
        · rw [if_neg (fun q => ec q.2)]; exact hc c (by omega))
      rw [show (tw (ts t) (i + 1)).2.1 = (tw (ts t) i).2.1 from by rw [e]] at this
      exact this
    · have hs1 : ts t i = 1 := by
        rw [es] at h
        rcases hst with q | q
        · rw [q] at h; exact absurd h (by decide)
        · exact q
      have e : tw (ts t) (i + 1) = ((tw (ts t) i).2.1 + 1, (tw (ts t) i).2.1 + 1, va_up (tw (ts t) i).2.2 ((tw (ts t) i).2.1 + 1) (tw (ts t) i).1) := if_pos hs1
      have hlt := Dyck_lt hv.2.1 (show i < 2 * t.1 by omega) hs1
      have hlt2 : ups (ts t) i < t.1 := hlt
      refine b10_laysTree_51 ((tw (ts t) i).2.1 + 1) rfl (by omega) (b10_laysTree_74 ?_)
      rw [nI_1, nI_1]
      have := ih (i + 1) (sI (sI M 123 i (nI (tA t i))) 122 ((tw (ts t) i).2.1 + 1) (nI (tA t i))) (by omega) (Fr_sI (Fr_sI hF rfl) rfl) (by rw [sI_ne (Or.inr (by omega))]; exact h0) (by
        rw [e]
        intro v v1 v2
        have v2' : v ≤ (tw (ts t) i).2.1 + 1 := v2
        rw [sI_at]
        show _ = nI (va_up _ _ _ v)
        by_cases ev : v = (tw (ts t) i).2.1 + 1
        · rw [if_pos ⟨rfl, ev⟩, ev, show va_up (tw (ts t) i).2.2 ((tw (ts t) i).2.1 + 1) (tw (ts t) i).1 ((tw (ts t) i).2.1 + 1) = (tw (ts t) i).1 from if_pos rfl]
        · rw [if_neg (fun q => ev q.2), show va_up (tw (ts t) i).2.2 ((tw (ts t) i).2.1 + 1) (tw (ts t) i).1 v = (tw (ts t) i).2.2 v from if_neg ev]
          exact hp v v1 (by omega)) (fun c hcc => by
        rw [sI_ne (Or.inl (by decide)), sI_at]
        by_cases ec : c = i
        · rw [if_pos ⟨rfl, ec⟩, ec]
        · rw [if_neg (fun q => ec q.2)]; exact hc c (by omega))
      rw [show tA t (i + 1) = (tw (ts t) i).2.1 + 1 from by show (tw (ts t) (i + 1)).1 = _; rw [e], show (tw (ts t) (i + 1)).2.1 = (tw (ts t) i).2.1 + 1 from by rw [e]] at this
      exact this
theorem laysTree_ev0 {s n : Nat} {st : Nat → Nat} {lb : Nat → Int32} {M0 : ME} (hs : s < 3) (hn : n ≤ 8) (hd : Dyck st n) (h1 : M0.1 119 s = nI n) (h2 : ∀ i, i < 2 * n → M0.1 120 (16 * s + i) = nI (st i)) : EvV (E0 L xs) d m10_laysTree [.ref 110, .int (nI s)] M0 (fun M => Fr tTr M0 M ∧ rTc M (n, st, lb)) :=
  laysTree_ev (t := (n, st, fun v => M0.1 121 (9 * s + v))) hs ⟨hn, hd, trivial⟩ ⟨h1, h2, fun _ _ => rfl⟩
theorem corners_ev {s : Nat} {t : PTr} {M0 : ME} (hs : s < 3) (hv : TV t) (hr : rT M0 s t) : EvI (E0 L xs) d m10_corners [.ref 110, .int (nI s)] M0 (fun r M => r = nI (tC t) ∧ M = M0) := by
  have hn : t.1 ≤ 8 := hv.1
  refine Ev_of k10_corners rfl (Nat.le_of_ble_eq_true rfl) (b10_corners_0 s rfl hs (fun h => b10_corners_13 s rfl hs (b10_corners_21 ⟨_, rfl, ?_, rfl⟩)) (fun h => b10_corners_9 (b10_corners_21 ⟨_, rfl, ?_, rfl⟩)))
  · rw [show gI M0 119 s = _ from hr.1] at h ⊢
    have : tn t ≠ 0 := fun q => h (by rw [q]; rfl)
    unfold tC; rw [if_neg this]; exact pk_mul 2 _
  · rw [show gI M0 119 s = _ from hr.1] at h
    have : tn t = 0 := (nI_eq (b := 0) (by show t.1 < _; omega) (by decide)).mp h
    unfold tC; rw [if_pos this]; rfl
theorem heir_ev {s c : Nat} {t : PTr} {M0 : ME} (hs : s < 3) (hv : TV t) (hr : rT M0 s t) (hc : rTc M0 t) (hcc : c < tC t) : EvI (E0 L xs) (d + 1) m10_heir [.ref 110, .int (nI s), .int (nI c)] M0 (fun r M => r = hrV t c ∧ M = M0) := by
  have hC := tC_le hv
  have hn : t.1 ≤ 8 := hv.1
  have hA := tA_le hv hcc
  refine Ev_of k10_heir rfl (Nat.le_of_ble_eq_true rfl) (b10_heir_0 (corners_ev hs hv hr) (fun r M1 h1 => ?_))
  obtain ⟨rfl, rfl⟩ := h1
  refine b10_heir_5 ?_
  suffices hloop : ∀ (f k : Nat), k + f = tC t → 1 ≤ k → hrV t c = hrK t c k f → Wp (E0 L xs) (d + 1) m10_heir 9 [.ref 110, .int (nI s), .int (nI c), .int (nI (tC t)), .int (nI k)] [] M1 (fun v M' => ∃ r, v = some (.int r) ∧ (r = hrV t c ∧ M' = M1)) by
    exact hloop (tC t - 1) 1 (by have := tC_pos t; omega) (Nat.le_refl _) rfl
  intro f
  induction f with
  | zero =>
    intro k hk h1 he
    exact b10_heir_9 (fun _ => b10_heir_50 ⟨_, rfl, he.symm, rfl⟩) (fun h => absurd (nI_le (by omega) (by omega)) h)
  | succ f ih =>
    intro k hk h1 he
    have hpos := tC_pos t
    have hmod := Nat.mod_lt (c + k) hpos
    have em : (nI c + nI k) - (nI c + nI k) / nI (tC t) * nI (tC t) = nI ((c + k) % tC t) := by
      rw [nI_add, pk_rem (by omega) hpos (by omega)]
    have z1 : ¬ nI (tC t) = 0 := nI_ne0 hpos (by omega)
    have hA2 := tA_le hv hmod
    refine b10_heir_9 (fun h => absurd ((nI_leI (by omega) (by omega)).mp h) (by omega)) (fun _ => b10_heir_15 z1 ((c + k) % tC t) em (by omega) (9 * s + tA t ((c + k) % tC t)) (by rw [show gI M1 123 _ = _ from hc.2.2 _ hmod]; exact i9m _ _) (by have h9 : tA t ((c + k) % tC t) ≤ t.1 := hA2; omega) c rfl (by omega) (9 * s + tA t c) (by rw [show gI M1 123 _ = _ from hc.2.2 _ hcc]; exact i9m _ _) (by have h9 : tA t c ≤ t.1 := hA; omega) (fun h => b10_heir_44 ?_) (fun h => b10_heir_37 z1 ⟨_, rfl, ?_, rfl⟩))
    · rw [show gI M1 121 _ = _ from hr.2.2 _ hA2, show gI M1 121 _ = _ from hr.2.2 _ hA] at h
      rw [nI_1]
      refine ih (k + 1) (by omega) (by omega) (he.trans ?_)
      show (if _ then _ else _) = _
      rw [if_neg h]
    · rw [show gI M1 121 _ = _ from hr.2.2 _ hA2, show gI M1 121 _ = _ from hr.2.2 _ hA] at h
      rw [em, he]
      show _ = (if _ then _ else _)
      rw [if_pos h]
end LT
