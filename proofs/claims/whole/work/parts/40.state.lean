/-! THE STATE of which both hold a picture: tape, fault, trees, maps -/
abbrev ST : Type := (Nat × (Nat → Int32)) × (Int32 × Int32 × Int32 × Int32 × Int32) × (Nat → PTr) × (Nat → PMp)
abbrev sTl (st : ST) : Nat := st.1.1
abbrev sTb (st : ST) : Nat → Int32 := st.1.2
abbrev sF (st : ST) : Int32 × Int32 × Int32 × Int32 × Int32 := st.2.1
abbrev sT (st : ST) : Nat → PTr := st.2.2.1
abbrev sM (st : ST) : Nat → PMp := st.2.2.2
noncomputable def cIf {α : Type} (p : Prop) (a b : α) : α := @ite α p (Classical.propDecidable p) a b
theorem cIf_pos {α : Type} {p : Prop} (h : p) (a b : α) : cIf p a b = a := @if_pos p (Classical.propDecidable p) h α a b
theorem cIf_neg {α : Type} {p : Prop} (h : ¬ p) (a b : α) : cIf p a b = b := @if_neg p (Classical.propDecidable p) h α a b
/-- connected, by closed sets of darts; plane -/
def Conn (m : PMp) : Prop := ∀ S : Nat → Prop, (∀ x, x < pN m → S x → S (pX m x)) → (∀ x, x < pN m → S x → S (ox x)) → ∀ x y, x < pN m → y < pN m → S x → S y
def MV (m : PMp) : Prop := PV m ∧ Conn m ∧ pVn m + pFn m = pE m + 2
/-- labels of a tree: neighbours differ by one at most -/
def TL (t : PTr) : Prop := ∀ v, 1 ≤ v → v ≤ tn t → tl t v = tl t (tP t v) - 1 ∨ tl t v = tl t (tP t v) ∨ tl t v = tl t (tP t v) + 1
def StOK (st : ST) : Prop := sTl st ≤ 300 ∧ (∀ s, s < 3 → TV (sT st s) ∧ TL (sT st s)) ∧ ∀ s, s < 4 → MV (sM st s)
/-! the class's picture: cells below 110 -/
/-- slots and draft: five RootedMaps, all apart -/
def SlC (M : ME) : Prop := (∀ i, i < 4 → RMs (M.2.2 4 i)) ∧ RMs (M.2.2 1 4) ∧ (∀ i j, i < 4 → j < 4 → M.2.2 4 i = M.2.2 4 j → i = j) ∧ ∀ i, i < 4 → M.2.2 4 i ≠ M.2.2 1 4
/-- rows of the numbers of maps by edges, as far as they are made -/
def CtC (M : ME) (tab : Nat → Nat → Int64) : Prop := ∃ k, 1 ≤ k ∧ k ≤ 15 ∧ M.1 18 1 = nI k ∧ (∀ n, n < k → ∀ c, c < 29 → M.2.1 (19 + 1 + n) c = tab n c) ∧ ∀ n, k ≤ n → n < 15 → ∀ c, c < 29 → M.2.1 (19 + 1 + n) c = 0
def ClsS (tab : Nat → Nat → Int64) (M : ME) (st : ST) : Prop := M.1 1 1 = nI (sTl st) ∧ (∀ i, i < sTl st → M.1 2 i = sTb st i) ∧ (M.1 12 0 = (sF st).1 ∧ M.1 12 1 = (sF st).2.1 ∧ M.1 12 2 = (sF st).2.2.1 ∧ M.1 12 3 = (sF st).2.2.2.1 ∧ M.1 12 4 = (sF st).2.2.2.2) ∧ (∀ s, s < 3 → M.2.2 3 s = 64 + 6 * s ∧ cT M (64 + 6 * s) (sT st s)) ∧ (SlC M ∧ ∀ s, s < 4 → cM M (M.2.2 4 s) (sM st s)) ∧ cW M ∧ CtC M tab
/-! the reference's: cells from 110 on -/
def RefS (M : ME) (st : ST) : Prop := M.1 110 22 = nI (sTl st) ∧ (∀ i, i < sTl st → M.1 125 i = sTb st i) ∧ (M.1 110 25 = (sF st).1 ∧ M.1 110 26 = (sF st).2.1 ∧ (((M.1 110 30 = 0 ∧ (sF st).2.2 = (-1, -1, -1)) ∨ (M.1 110 30 = 1 ∧ (sF st).2.2 = (M.1 110 27, M.1 110 28, M.1 110 29))) ∧ M.1 110 17 = 0)) ∧ (∀ s, s < 3 → rT M s (sT st s)) ∧ ∀ s, s < 4 → rM M s (sM st s)
def FrC (M M' : ME) : Prop := ∀ k, 110 ≤ k → M'.1 k = M.1 k ∧ M'.2.1 k = M.2.1 k
def FrR (M M' : ME) : Prop := ∀ k, k < 110 → M'.1 k = M.1 k ∧ M'.2.1 k = M.2.1 k ∧ M'.2.2 k = M.2.2 k
theorem FrC_refl (M : ME) : FrC M M := fun _ _ => ⟨rfl, rfl⟩
theorem FrC_trans {M M1 M2 : ME} (h1 : FrC M M1) (h2 : FrC M1 M2) : FrC M M2 := fun k hk => ⟨(h2 k hk).1.trans (h1 k hk).1, (h2 k hk).2.trans (h1 k hk).2⟩
theorem FrC_of {t : Nat → Nat → Bool} {M M' : ME} (h : Fr t M M') (ht : ∀ k j, 110 ≤ k → t k j = false) : FrC M M' := fun k hk => ⟨funext fun j => h.1 k j (ht k j hk), by rw [h.2]⟩
theorem FrR_refl (M : ME) : FrR M M := fun _ _ => ⟨rfl, rfl, rfl⟩
theorem FrR_trans {M M1 M2 : ME} (h1 : FrR M M1) (h2 : FrR M1 M2) : FrR M M2 := fun k hk => ⟨(h2 k hk).1.trans (h1 k hk).1, (h2 k hk).2.1.trans (h1 k hk).2.1, (h2 k hk).2.2.trans (h1 k hk).2.2⟩
theorem FrR_of {t : Nat → Nat → Bool} {M M' : ME} (h : Fr t M M') (ht : ∀ k j, k < 110 → t k j = false) : FrR M M' := fun k hk => ⟨funext fun j => h.1 k j (ht k j hk), by rw [h.2], by rw [h.2]⟩
theorem RefS_fr {M M' : ME} {st : ST} (h : RefS M st) (f : FrC M M') : RefS M' st := by
  have e : ∀ k j, 110 ≤ k → M'.1 k j = M.1 k j := fun k j hk => by rw [(f k hk).1]
  obtain ⟨h1, h2, ⟨h3, h4, h5⟩, h6, h7⟩ := h
  refine ⟨(e _ _ (by decide)).trans h1, fun i hi => (e _ _ (by decide)).trans (h2 i hi), ⟨(e _ _ (by decide)).trans h3, (e _ _ (by decide)).trans h4, ?_⟩, fun s hs => ?_, fun s hs => ?_⟩
  · rw [e 110 30 (by decide), e 110 27 (by decide), e 110 28 (by decide), e 110 29 (by decide), e 110 17 (by decide)]; exact h5
  · obtain ⟨a, b, c⟩ := h6 s hs
    exact ⟨(e _ _ (by decide)).trans a, fun i hi => (e _ _ (by decide)).trans (b i hi), fun v hv => (e _ _ (by decide)).trans (c v hv)⟩
  · obtain ⟨a, b, c⟩ := h7 s hs
    exact ⟨(e _ _ (by decide)).trans a, (e _ _ (by decide)).trans b, fun i hi => (e _ _ (by decide)).trans (c i hi)⟩
theorem RMs_lt {a : Nat} (h : RMs a) : a + 6 < 110 ∧ 0 < a := by rcases h with rfl | rfl | rfl | rfl | rfl <;> omega
theorem cM_eq {M M' : ME} {a : Nat} {m : PMp} (h : cM M a m) (e : ∀ k, a ≤ k → k ≤ a + 6 → M'.1 k = M.1 k) : cM M' a m := by
  obtain ⟨h1, h2, h3, h4, h5, h6, h7, h8, h9, h10⟩ := h
  exact ⟨by rw [e a (by omega) (by omega)]; exact h1, by rw [e a (by omega) (by omega)]; exact h2, by rw [e a (by omega) (by omega)]; exact h3, by rw [e a (by omega) (by omega)]; exact h4, by rw [e (a + 1) (by omega) (by omega)]; exact h5, by rw [e (a + 2) (by omega) (by omega)]; exact h6, by rw [e (a + 3) (by omega) (by omega)]; exact h7, by rw [e (a + 4) (by omega) (by omega)]; exact h8, by rw [e (a + 5) (by omega) (by omega)]; exact h9, by rw [e (a + 6) (by omega) (by omega)]; exact h10⟩
theorem cT_eq {M M' : ME} {a : Nat} {t : PTr} (h : cT M a t) (e : ∀ k, a ≤ k → k ≤ a + 5 → M'.1 k = M.1 k) : cT M' a t := by
  obtain ⟨⟨h1, h2, h3⟩, ⟨h4, h5, h6⟩, h7⟩ := h
  exact ⟨⟨by rw [e a (by omega) (by omega)]; exact h1, by rw [e (a + 1) (by omega) (by omega)]; exact h2, by rw [e (a + 2) (by omega) (by omega)]; exact h3⟩, ⟨by rw [e (a + 3) (by omega) (by omega)]; exact h4, by rw [e (a + 3) (by omega) (by omega)]; exact h5, by rw [e (a + 4) (by omega) (by omega)]; exact h6⟩, by rw [e (a + 5) (by omega) (by omega)]; exact h7⟩
theorem ClsS_fr {tab : Nat → Nat → Int64} {M M' : ME} {st : ST} (h : ClsS tab M st) (f : FrR M M') : ClsS tab M' st := by
  have e : ∀ k, k < 110 → M'.1 k = M.1 k := fun k hk => (f k hk).1
  have er : ∀ k, k < 110 → M'.2.2 k = M.2.2 k := fun k hk => (f k hk).2.2
  obtain ⟨h1, h2, h3, h4, ⟨⟨g1, g2, g3, g4⟩, g5⟩, h6, c, c1, c2, c3, c4, c5⟩ := h
  refine ⟨by rw [e 1 (by decide)]; exact h1, by rw [e 2 (by decide)]; exact h2, by rw [e 12 (by decide)]; exact h3, fun s hs => ⟨by rw [er 3 (by decide)]; exact (h4 s hs).1, cT_eq (h4 s hs).2 (fun k _ hk => e k (by omega))⟩, ⟨⟨?_, ?_, ?_, ?_⟩, fun s hs => ?_⟩, fun l hl => by rw [e (36 + 1 + l) (by omega)]; exact h6 l hl, c, c1, c2, by rw [e 18 (by decide)]; exact c3, fun n hn => by rw [(f (19 + 1 + n) (by omega)).2.1]; exact c4 n hn, fun n hn hn2 => by rw [(f (19 + 1 + n) (by omega)).2.1]; exact c5 n hn hn2⟩
  · rw [er 4 (by decide)]; exact g1
  · rw [er 1 (by decide)]; exact g2
  · rw [er 4 (by decide)]; exact g3
  · rw [er 4 (by decide), er 1 (by decide)]; exact g4
  · rw [er 4 (by decide)]
    exact cM_eq (g5 s hs) (fun k _ hk => e k (by have := RMs_lt (g1 s hs); omega))
/-- the class's own rows that no picture looks at may change -/
def tSc (k j : Nat) : Bool := match k with
  | 13 => true
  | 14 => true
  | 15 => true
  | 16 => true
  | 17 => true
  | 54 => true
  | 55 => true
  | 56 => true
  | 57 => true
  | 58 => true
  | 59 => true
  | 60 => true
  | 61 => true
  | 62 => true
  | 63 => true
  | 12 => Nat.ble 8 j
  | _ => false
theorem tSc_f {k j : Nat} (h : (k < 12 ∨ 17 < k) ∧ (k < 54 ∨ 63 < k)) : tSc k j = false := by
  unfold tSc
  split
  all_goals first | omega | rfl
theorem ClsS_sc {tab : Nat → Nat → Int64} {M M' : ME} {st : ST} (h : ClsS tab M st) (f : Fr tSc M M') : ClsS tab M' st := by
  have e : ∀ k, (k < 12 ∨ 17 < k) ∧ (k < 54 ∨ 63 < k) → M'.1 k = M.1 k := fun k hk => funext fun j => f.1 k j (tSc_f hk)
  have e12 : ∀ j, j < 5 → M'.1 12 j = M.1 12 j := fun j hj => f.1 12 j (by
    show Nat.ble 8 j = false
    cases q : Nat.ble 8 j with
    | false => rfl
    | true => exact absurd (Nat.le_of_ble_eq_true q) (by omega))
  have er : M'.2 = M.2 := f.2
  obtain ⟨h1, h2, ⟨a0, a1, a2, a3, a4⟩, h4, ⟨⟨g1, g2, g3, g4⟩, g5⟩, h6, c, c1, c2, c3, c4, c5⟩ := h
  refine ⟨by rw [e 1 (by omega)]; exact h1, by rw [e 2 (by omega)]; exact h2, ⟨by rw [e12 0 (by omega)]; exact a0, by rw [e12 1 (by omega)]; exact a1, by rw [e12 2 (by omega)]; exact a2, by rw [e12 3 (by omega)]; exact a3, by rw [e12 4 (by omega)]; exact a4⟩, fun s hs => ⟨by rw [er]; exact (h4 s hs).1, cT_eq (h4 s hs).2 (fun k hk1 hk => e k (by omega))⟩, ⟨⟨by rw [er]; exact g1, by rw [er]; exact g2, by rw [er]; exact g3, by rw [er]; exact g4⟩, fun s hs => ?_⟩, fun l hl => by rw [e (36 + 1 + l) (by omega)]; exact h6 l hl, c, c1, c2, by rw [e 18 (by omega)]; exact c3, fun n hn => by rw [er]; exact c4 n hn, fun n hn hn2 => by rw [er]; exact c5 n hn hn2⟩
  rw [er]
  have hR := g1 s hs
  refine cM_eq (g5 s hs) (fun k hk1 hk => e k ?_)
  rcases hR with q | q | q | q | q <;> rw [q] at hk1 hk <;> omega
/-- and the reference's -/
def tSr (k j : Nat) : Bool := match k with
  | 114 => true
  | 115 => true
  | 116 => true
  | 117 => true
  | 122 => true
  | 123 => true
  | 124 => true
  | 126 => true
  | 127 => true
  | 128 => true
  | 129 => true
  | 112 => j == 4
  | 113 => j == 4
  | 111 => Nat.ble 128 j
  | 110 => j == 0 || j == 7 || j == 8 || j == 18 || j == 19 || j == 20 || j == 37
  | _ => false
theorem RefS_sc {M M' : ME} {st : ST} (hok : ∀ s, s < 4 → PV (sM st s)) (h : RefS M st) (f : Fr tSr M M') : RefS M' st := by
  obtain ⟨h1, h2, ⟨h3, h4, h5⟩, h6, h7⟩ := h
  have b1 : ∀ s, s < 4 → (s == 4) = false := fun s hs => by simp; omega
  refine ⟨(f.1 _ _ rfl).trans h1, fun i hi => (f.1 _ _ rfl).trans (h2 i hi), ⟨(f.1 _ _ rfl).trans h3, (f.1 _ _ rfl).trans h4, ?_⟩, fun s hs => ?_, fun s hs => ?_⟩
  · rw [f.1 110 30 rfl, f.1 110 27 rfl, f.1 110 28 rfl, f.1 110 29 rfl, f.1 110 17 rfl]; exact h5
  · exact rT_fr (h6 s hs) f rfl (fun _ _ => rfl) (fun _ _ => rfl)
  · refine rM_fr (h7 s hs) f (b1 s hs) (b1 s hs) (fun x hx => ?_)
    have hN : pN (sM st s) ≤ 32 := by have := (hok s hs).1; show 2 * (sM st s).1 ≤ 32; omega
    show Nat.ble 128 _ = false
    cases q : Nat.ble 128 (32 * s + x) with
    | false => rfl
    | true => exact absurd (Nat.le_of_ble_eq_true q) (by omega)
theorem tSc_C {M M' : ME} (f : Fr tSc M M') : FrC M M' := FrC_of f (fun k j hk => tSc_f (by omega))
theorem tSr_f {k j : Nat} (h : k < 110) : tSr k j = false := by
  unfold tSr
  split
  all_goals first | omega | rfl
theorem tSr_R {M M' : ME} (f : Fr tSr M M') : FrR M M' := FrR_of f (fun _ _ hk => tSr_f hk)
