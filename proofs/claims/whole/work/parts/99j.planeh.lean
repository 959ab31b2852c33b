/-! the maker of PlaneMaps -/
def mpS (a : Nat) : Prop := SH0 a = (4 + 10, 0) ∧ SH0 (a + 1) = (1, 32) ∧ SH0 (a + 1 + 1) = (1, 32) ∧ SH0 (a + 1 + 1 + 1) = (1, 32) ∧ SH0 (a + 1 + 1 + 1 + 1) = (1, 32) ∧ SH0 (a + 1 + 1 + 1 + 1 + 1) = (1, 32) ∧ SH0 (a + 1 + 1 + 1 + 1 + 1 + 1) = (1, 32)
abbrev m00 : PMp := (0, 0, id)
def mpM (M : ME) (a : Nat) : ME := sR (sR (sR (sR (sR (sR (sI (sI (sI (sI M a 0 0) a 1 0) a 2 1) a 3 1) a 4 (a + 1)) a 5 (a + 1 + 1)) a 6 (a + 1 + 1 + 1)) a 7 (a + 1 + 1 + 1 + 1)) a 8 (a + 1 + 1 + 1 + 1 + 1)) a 9 (a + 1 + 1 + 1 + 1 + 1 + 1)
theorem mpM_fr (M : ME) (a : Nat) : FrX a (a + 7) M (mpM M a) :=
  FrX_sR (FrX_sR (FrX_sR (FrX_sR (FrX_sR (FrX_sR (FrX_sI (FrX_sI (FrX_sI (FrX_sI (FrX_refl _) (by omega) (by omega)) (by omega) (by omega)) (by omega) (by omega)) (by omega) (by omega)) (by omega) (by omega)) (by omega) (by omega)) (by omega) (by omega)) (by omega) (by omega)) (by omega) (by omega)) (by omega) (by omega)
theorem mpM_cM {M : ME} {a : Nat} (hz : Zr (a + 1) M) : cM (mpM M a) a m00 := by
  have e : (mpM M a).1 = (sI (sI (sI (sI M a 0 0) a 1 0) a 2 1) a 3 1).1 := rfl
  have z : ∀ k j, a + 1 ≤ k → (mpM M a).1 k j = 0 := fun k j hk => by
    rw [e, sI_row (by omega), sI_row (by omega), sI_row (by omega), sI_row (by omega)]
    exact (hz k hk j).1
  refine ⟨by rw [e]; simp [sI, up2]; rfl, by rw [e]; simp [sI, up2]; rfl, by rw [e]; simp [sI, up2]; rfl, by rw [e]; simp [sI, up2]; rfl, fun x hx => absurd hx (Nat.not_lt_zero _), fun x hx => absurd hx (Nat.not_lt_zero _), fun x hx => absurd hx (Nat.not_lt_zero _), fun x hx => absurd hx (Nat.not_lt_zero _), fun v _ => ?_, fun v _ => ?_⟩
  · exact z _ _ (by omega)
  · exact z _ _ (by omega)
theorem map_ev {L : Nat} {xs : Nat → Int32} {d a : Nat} {rs : List Nat} {M : ME} (hT : mpS a) (ha : a ≠ 0) (hr : rsOK rs) (har : a ∉ rs) (hz : Zr (a + 1) M) : EvC (Wd L xs (a + 1) (a :: rs)) (Wd L xs (a + 7) rs) (d + 1) m4_init [.ref a] M (fun M' => M' = mpM M a) := by
  obtain ⟨h0, h1, h2, h3, h4, h5, h6⟩ := hT
  have hr1 : rsOK (a :: rs) := rs_cons hr (by rw [h0]; decide)
  have h := init4_ev (E := Wd L xs (a + 1) (a :: rs)) (a := a) (d := d) (M := M) rfl (by rw [wd_raw (by omega) List.mem_cons_self, h0]) ha (fun k hk j => (hz _ (by show a + 1 ≤ a + 1 + k; omega) j).1)
  rw [wd_grow h1 (nrs_of hr1 h1 (by decide)), wd_grow h2 (nrs_of hr1 h2 (by decide)), wd_grow h3 (nrs_of hr1 h3 (by decide)), wd_grow h4 (nrs_of hr1 h4 (by decide)), wd_grow h5 (nrs_of hr1 h5 (by decide)), wd_grow h6 (nrs_of hr1 h6 (by decide)), wd_made (by omega) h0 har] at h
  exact h
/-- what holds of the first n cells -/
def INV (n : Nat) (M : ME) : Prop := Zr n M ∧ (12 ≤ n → cM M 5 m00) ∧ (16 ≤ n → M.1 12 0 = 0 ∧ M.1 12 1 = -1 ∧ M.1 12 2 = -1 ∧ M.1 12 3 = -1 ∧ M.1 12 4 = -1) ∧ (35 ≤ n → M.1 18 1 = 1 ∧ ∀ k j, 20 ≤ k → k < 35 → M.2.1 k j = if k = 20 ∧ j = 0 then 1 else 0) ∧ (54 ≤ n → cW M) ∧ (∀ s, s < 3 → 70 + 6 * s ≤ n → cT M (64 + 6 * s) t00) ∧ ∀ s, s < 4 → 89 + 7 * s ≤ n → cM M (82 + 7 * s) m00
theorem INV_step {n n' : Nat} {M M' : ME} (h : INV n M) (hz : Zr n' M') (f : ∀ k, 5 ≤ k → k < n → M'.1 k = M.1 k ∧ M'.2.1 k = M.2.1 k) (g1 : 12 ≤ n' → n < 12 → cM M' 5 m00) (g2 : 16 ≤ n' → n < 16 → M'.1 12 0 = 0 ∧ M'.1 12 1 = -1 ∧ M'.1 12 2 = -1 ∧ M'.1 12 3 = -1 ∧ M'.1 12 4 = -1) (g3 : 35 ≤ n' → n < 35 → M'.1 18 1 = 1 ∧ ∀ k j, 20 ≤ k → k < 35 → M'.2.1 k j = if k = 20 ∧ j = 0 then 1 else 0) (g4 : 54 ≤ n' → n < 54 → cW M') (g5 : ∀ s, s < 3 → 70 + 6 * s ≤ n' → n < 70 + 6 * s → cT M' (64 + 6 * s) t00) (g6 : ∀ s, s < 4 → 89 + 7 * s ≤ n' → n < 89 + 7 * s → cM M' (82 + 7 * s) m00) : INV n' M' := by
  obtain ⟨h0, h1, h2, h3, h4, h5, h6⟩ := h
  refine ⟨hz, fun q => ?_, fun q => ?_, fun q => ?_, fun q => ?_, fun s hs q => ?_, fun s hs q => ?_⟩
  · by_cases c : n < 12
    · exact g1 q c
    · exact cM_eq (h1 (by omega)) (fun k k1 k2 => (f k (by omega) (by omega)).1)
  · by_cases c : n < 16
    · exact g2 q c
    · rw [(f 12 (by omega) (by omega)).1]; exact h2 (by omega)
  · by_cases c : n < 35
    · exact g3 q c
    · obtain ⟨a1, a2⟩ := h3 (by omega)
      refine ⟨by rw [(f 18 (by omega) (by omega)).1]; exact a1, fun k j k1 k2 => ?_⟩
      rw [(f k (by omega) (by omega)).2]; exact a2 k j k1 k2
  · by_cases c : n < 54
    · exact g4 q c
    · intro l hl
      rw [(f (36 + 1 + l) (by omega) (by omega)).1]; exact h4 (by omega) l hl
  · by_cases c : n < 70 + 6 * s
    · exact g5 s hs q c
    · exact cT_eq (h5 s hs (by omega)) (fun k k1 k2 => (f k (by omega) (by omega)).1)
  · by_cases c : n < 89 + 7 * s
    · exact g6 s hs q c
    · exact cM_eq (h6 s hs (by omega)) (fun k k1 k2 => (f k (by omega) (by omega)).1)
/-- the fields of the object -/
def PFv (j : Nat) : Nat := match j with
  | 0 => 2
  | 2 => 3
  | 3 => 4
  | 4 => 5
  | 5 => 12
  | 6 => 16
  | 7 => 18
  | 8 => 35
  | 9 => 54
  | 10 => 56
  | 11 => 57
  | 12 => 61
  | 13 => 62
  | 14 => 63
  | _ => 0
/-- n cells and J fields stand, t trees and u maps lie in their rows -/
def CT (n J t u : Nat) (M : ME) : Prop := INV n M ∧ (∀ j, j < J → j ≠ 1 → M.2.2 1 j = PFv j) ∧ M.1 1 1 = 0 ∧ (∀ s, s < t → M.2.2 3 s = 64 + 6 * s) ∧ ∀ s, s < u → M.2.2 4 s = 82 + 7 * s
theorem up2_at {α : Type} {f : Nat → Nat → α} {k j : Nat} {v : α} (b : Nat) : up2 f k j v k b = if b = j then v else f k b := congrFun up2_eq b
/-- a field is put -/
theorem CT_put {n J t u x : Nat} {M : ME} (h : CT n J t u M) (hn : 2 ≤ n) (hx : PFv J = x) : CT n (J + 1) t u (sR M 1 J x) := by
  obtain ⟨h0, h1, h2, h3, h4⟩ := h
  refine ⟨INV_step h0 (Zr_sR h0.1 (by omega)) (fun k k1 k2 => ⟨rfl, rfl⟩) (fun a b => by omega) (fun a b => by omega) (fun a b => by omega) (fun a b => by omega) (fun s hs a b => by omega) (fun s hs a b => by omega), fun j hj hj1 => ?_, h2, fun s hs => ?_, fun s hs => ?_⟩
  · show up2 M.2.2 1 J x 1 j = _
    rw [up2_at]
    by_cases e : j = J
    · rw [if_pos e, e]; exact hx.symm
    · rw [if_neg e]; exact h1 j (by omega) hj1
  · show up2 M.2.2 1 J x 3 s = _
    rw [up2_ne (by omega)]; exact h3 s hs
  · show up2 M.2.2 1 J x 4 s = _
    rw [up2_ne (by omega)]; exact h4 s hs
theorem CT_tape {n t u : Nat} {M : ME} (h : CT n 1 t u M) (hn : 2 ≤ n) : CT n 2 t u (sI M 1 1 0) := by
  obtain ⟨h0, h1, h2, h3, h4⟩ := h
  refine ⟨INV_step h0 (Zr_sI h0.1 (by omega)) (fun k k1 k2 => ⟨sI_row (by omega), rfl⟩) (fun a b => by omega) (fun a b => by omega) (fun a b => by omega) (fun a b => by omega) (fun s hs a b => by omega) (fun s hs a b => by omega), fun j hj hj1 => h1 j (by omega) hj1, ?_, h3, h4⟩
  show up2 M.1 1 1 0 1 1 = 0
  rw [up2_at, if_pos rfl]
theorem CT_cell {n J t u : Nat} {M : ME} (h : CT n J t u M) (hb : n = 2 ∨ n = 3 ∨ n = 4 ∨ n = 61 ∨ n = 62 ∨ n = 63) : CT (n + 1) J t u M := by
  obtain ⟨h0, h1⟩ := h
  exact ⟨INV_step h0 (Zr_mono h0.1 (by omega)) (fun k k1 k2 => ⟨rfl, rfl⟩) (fun a b => by omega) (fun a b => by omega) (fun a b => by omega) (fun a b => by omega) (fun s hs a b => by omega) (fun s hs a b => by omega), h1⟩
theorem CT_make {n n' J t u : Nat} {M M' : ME} (h : CT n J t u M) (hn : 5 ≤ n) (hn' : n ≤ n') (f : FrX n n' M M') (g1 : 12 ≤ n' → n < 12 → cM M' 5 m00) (g2 : 16 ≤ n' → n < 16 → M'.1 12 0 = 0 ∧ M'.1 12 1 = -1 ∧ M'.1 12 2 = -1 ∧ M'.1 12 3 = -1 ∧ M'.1 12 4 = -1) (g3 : 35 ≤ n' → n < 35 → M'.1 18 1 = 1 ∧ ∀ k j, 20 ≤ k → k < 35 → M'.2.1 k j = if k = 20 ∧ j = 0 then 1 else 0) (g4 : 54 ≤ n' → n < 54 → cW M') (g5 : ∀ s, s < 3 → 70 + 6 * s ≤ n' → n < 70 + 6 * s → cT M' (64 + 6 * s) t00) (g6 : ∀ s, s < 4 → 89 + 7 * s ≤ n' → n < 89 + 7 * s → cM M' (82 + 7 * s) m00) : CT n' J t u M' := by
  obtain ⟨h0, h1, h2, h3, h4⟩ := h
  have e1 := f 1 (Or.inl (by omega))
  have e3 := f 3 (Or.inl (by omega))
  have e4 := f 4 (Or.inl (by omega))
  exact ⟨INV_step h0 (Zr_fr (Zr_mono h0.1 hn') f (Nat.le_refl _)) (fun k k1 k2 => ⟨(f k (Or.inl k2)).1, (f k (Or.inl k2)).2.1⟩) g1 g2 g3 g4 g5 g6, fun j hj hj1 => by rw [e1.2.2]; exact h1 j hj hj1, by rw [e1.1]; exact h2, fun s hs => by rw [e3.2.2]; exact h3 s hs, fun s hs => by rw [e4.2.2]; exact h4 s hs⟩
theorem CT_tree {n J t u x : Nat} {M : ME} (h : CT n J t u M) (hn : 5 ≤ n) (hx : 64 + 6 * t = x) : CT n J (t + 1) u (sR M 3 t x) := by
  obtain ⟨h0, h1, h2, h3, h4⟩ := h
  refine ⟨INV_step h0 (Zr_sR h0.1 (by omega)) (fun k k1 k2 => ⟨rfl, rfl⟩) (fun a b => by omega) (fun a b => by omega) (fun a b => by omega) (fun a b => by omega) (fun s hs a b => by omega) (fun s hs a b => by omega), fun j hj hj1 => ?_, h2, fun s hs => ?_, fun s hs => ?_⟩
  · show up2 M.2.2 3 t x 1 j = _
    rw [up2_ne (by omega)]; exact h1 j hj hj1
  · show up2 M.2.2 3 t x 3 s = _
    rw [up2_at]
    by_cases e : s = t
    · rw [if_pos e, e]; exact hx.symm
    · rw [if_neg e]; exact h3 s (by omega)
  · show up2 M.2.2 3 t x 4 s = _
    rw [up2_ne (by omega)]; exact h4 s hs
theorem CT_map {n J t u x : Nat} {M : ME} (h : CT n J t u M) (hn : 5 ≤ n) (hx : 82 + 7 * u = x) : CT n J t (u + 1) (sR M 4 u x) := by
  obtain ⟨h0, h1, h2, h3, h4⟩ := h
  refine ⟨INV_step h0 (Zr_sR h0.1 (by omega)) (fun k k1 k2 => ⟨rfl, rfl⟩) (fun a b => by omega) (fun a b => by omega) (fun a b => by omega) (fun a b => by omega) (fun s hs a b => by omega) (fun s hs a b => by omega), fun j hj hj1 => ?_, h2, fun s hs => ?_, fun s hs => ?_⟩
  · show up2 M.2.2 4 u x 1 j = _
    rw [up2_ne (by omega)]; exact h1 j hj hj1
  · show up2 M.2.2 4 u x 3 s = _
    rw [up2_ne (by omega)]; exact h3 s hs
  · show up2 M.2.2 4 u x 4 s = _
    rw [up2_at]
    by_cases e : s = u
    · rw [if_pos e, e]; exact hx.symm
    · rw [if_neg e]; exact h4 s (by omega)
