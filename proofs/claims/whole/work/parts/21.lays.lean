/-! the reference: vertices and faces laid -/
def rM (M : ME) (s : Nat) (m : PMp) : Prop := M.1 112 s = nI (pE m) ∧ M.1 113 s = nI (pR m) ∧ ∀ d, d < pN m → M.1 111 (32 * s + d) = nI (pX m d)
theorem rM_fr {t : Nat → Nat → Bool} {M M' : ME} {s : Nat} {m : PMp} (h : rM M s m) (f : Fr t M M') (h1 : t 112 s = false) (h2 : t 113 s = false) (h3 : ∀ d, d < pN m → t 111 (32 * s + d) = false) : rM M' s m :=
  ⟨(f.1 _ _ h1).trans h.1, (f.1 _ _ h2).trans h.2.1, fun d hd => (f.1 _ _ (h3 d hd)).trans (h.2.2 d hd)⟩
/-- one numbering, up to dart d -/
def Hf (g : Nat → Nat) (N rw fl o d : Nat) (M : ME) : Prop := (∀ x, x < 32 → M.1 rw x = if x < N ∧ mn g N x < d then nI (lbO g N x) else -1) ∧ M.1 110 fl = nI (rkO g N d) ∧ ∀ c, c < 32 → M.1 116 (o + c) = nI (if c < rkO g N d then szO g N c else 0)
/-- within the walk from d, i darts passed -/
def Wk (g : Nat → Nat) (N rw fl o d p i : Nat) (M : ME) : Prop := (∀ x, x < 32 → M.1 rw x = if (x < N ∧ mn g N x < d) ∨ inO g d i x = true then nI (lbO g N x) else -1) ∧ M.1 110 fl = nI (if i = p then rkO g N d + 1 else rkO g N d) ∧ ∀ c, c < 32 → M.1 116 (o + c) = nI (if c < rkO g N d then szO g N c else if c = rkO g N d then i else 0)
theorem Hf_skip {g : Nat → Nat} {N rw fl o d : Nat} {M : ME} (h : Hf g N rw fl o d M) (hm : mn g N d ≠ d) (hp : PermOn g N) (hd : d < N) : Hf g N rw fl o (d + 1) M := by
  have e : rkO g N (d + 1) = rkO g N d := by show rkO g N d + _ = _; rw [if_neg hm]; rfl
  refine ⟨fun x hx => ?_, by rw [e]; exact h.2.1, by rw [e]; exact h.2.2⟩
  rw [h.1 x hx]
  have : (x < N ∧ mn g N x < d) ↔ (x < N ∧ mn g N x < d + 1) := by
    constructor
    · rintro ⟨a, b⟩; exact ⟨a, by omega⟩
    · rintro ⟨a, b⟩
      refine ⟨a, ?_⟩
      by_cases q : mn g N x = d
      · exfalso
        apply hm
        rw [← q]; rw [mn_mn hp a]
      · omega
  exact ite_congr (propext this) (fun _ => rfl) (fun _ => rfl)
theorem Wk_0 {g : Nat → Nat} {N rw fl o d p : Nat} {M : ME} (h : Hf g N rw fl o d M) (hp : 0 < p) : Wk g N rw fl o d p 0 M := by
  refine ⟨fun x hx => ?_, by rw [if_neg (by omega)]; exact h.2.1, fun c hc => ?_⟩
  · rw [h.1 x hx]
    have : (x < N ∧ mn g N x < d) ↔ ((x < N ∧ mn g N x < d) ∨ inO g d 0 x = true) := ⟨Or.inl, fun q => q.elim id (fun z => by cases z)⟩
    exact ite_congr (propext this) (fun _ => rfl) (fun _ => rfl)
  · rw [h.2.2 c hc]
    by_cases q : c < rkO g N d
    · simp [q]
    · simp [q]
theorem Wk_p {g : Nat → Nat} {N rw fl o d p : Nat} {M : ME} (h : Wk g N rw fl o d p p M) (hg : PermOn g N) (hd : d < N) (hp0 : 0 < p) (hpd : it g p d = d) (hpl : ∀ j, 0 < j → j < p → it g j d ≠ d) (hm : mn g N d = d) : Hf g N rw fl o (d + 1) M := by
  have e : rkO g N (d + 1) = rkO g N d + 1 := by show rkO g N d + _ = _; rw [if_pos hm]
  refine ⟨fun x hx => ?_, by rw [e, h.2.1, if_pos rfl], fun c hc => ?_⟩
  · rw [h.1 x hx]
    have : ((x < N ∧ mn g N x < d) ∨ inO g d p x = true) ↔ (x < N ∧ mn g N x < d + 1) := by
      rw [wk_all hg hd hp0 hpd hm]
      constructor
      · rintro (⟨a, b⟩ | ⟨a, b⟩) <;> exact ⟨a, by omega⟩
      · rintro ⟨a, b⟩
        by_cases q : mn g N x = d
        · exact Or.inr ⟨a, q⟩
        · exact Or.inl ⟨a, by omega⟩
    exact ite_congr (propext this) (fun _ => rfl) (fun _ => rfl)
  · rw [h.2.2 c hc, e]
    rcases Nat.lt_trichotomy c (rkO g N d) with q | q | q
    · rw [if_pos q, if_pos (by omega)]
    · subst q
      rw [if_neg (by omega), if_pos rfl, if_pos (by omega), wk_sz hg hd hp0 hpd hpl hm]
    · rw [if_neg (by omega), if_neg (by omega), if_neg (by omega)]
theorem Wk_s {g : Nat → Nat} {N rw fl o d p i : Nat} {M : ME} (h : Wk g N rw fl o d p i M) (hrw : rw ≠ 116 ∧ rw ≠ 110) (hg : PermOn g N) (hd : d < N) (hN : N ≤ 32) (hpd : it g p d = d) (hpl : ∀ j, 0 < j → j < p → it g j d ≠ d) (hm : mn g N d = d) (hi : i < p) (M' : ME) (hM : M' = sI (sI M rw (it g i d) (nI (rkO g N d))) 116 (o + rkO g N d) (nI (i + 1)) ∧ i + 1 ≠ p ∨ M' = sI (sI (sI M rw (it g i d) (nI (rkO g N d))) 116 (o + rkO g N d) (nI (i + 1))) 110 fl (nI (rkO g N d + 1)) ∧ i + 1 = p) : Wk g N rw fl o d p (i + 1) M' := by
  have hmd : mn g N (it g i d) = d := by
    rw [← (mn_eq hg hd (it_lt hg.1 i d hd)).mpr ⟨i, rfl⟩]; exact hm
  have hlb : lbO g N (it g i d) = rkO g N d := by show rkO g N (mn g N (it g i d)) = _; rw [hmd]
  have key : ∀ k j, (k = rw ∨ k = 116) → M'.1 k j = (sI (sI M rw (it g i d) (nI (rkO g N d))) 116 (o + rkO g N d) (nI (i + 1))).1 k j := by
    intro k j hk
    rcases hM with ⟨rfl, -⟩ | ⟨rfl, -⟩
    · rfl
    · refine sI_ne (Or.inl ?_)
      rcases hk with rfl | rfl
      · exact hrw.2
      · decide
  refine ⟨fun x hx => ?_, ?_, fun c hc => ?_⟩
  · rw [key rw x (Or.inl rfl), sI_ne (Or.inl hrw.1), sI_at]
    by_cases e : x = it g i d
    · rw [if_pos ⟨rfl, e⟩, if_pos (Or.inr (inO_succ.mpr (Or.inr e.symm))), e, hlb]
    · rw [if_neg (fun q => e q.2), h.1 x hx]
      have : inO g d (i + 1) x = true ↔ inO g d i x = true := by
        rw [inO_succ]; exact ⟨fun q => q.elim id (fun z => absurd z.symm e), Or.inl⟩
      exact (ite_congr (propext (or_congr Iff.rfl this)) (fun _ => rfl) (fun _ => rfl)).symm
  · have hne : ¬ i = p := by omega
    have h2 := h.2.1
    rw [if_neg hne] at h2
    rcases hM with ⟨rfl, q⟩ | ⟨rfl, q⟩
    · rw [if_neg q, sI_ne (Or.inl (by decide)), sI_ne (Or.inl hrw.2.symm)]; exact h2
    · rw [if_pos q, sI_eq]
  · rw [key 116 _ (Or.inr rfl), sI_at]
    by_cases e : c = rkO g N d
    · rw [if_pos ⟨rfl, by rw [e]⟩, if_neg (by omega), if_pos e]
    · rw [if_neg (fun q => e (by omega)), sI_ne (Or.inl hrw.1.symm), h.2.2 c hc, if_neg e, if_neg e]
def tL (k j : Nat) : Bool := match k with
  | 114 => true
  | 115 => true
  | 116 => true
  | 110 => j == 7 || j == 8
  | _ => false
def LdI (m : PMp) (d : Nat) (M0 M : ME) : Prop := Fr tL M0 M ∧ Hf (pX m) (pN m) 114 7 0 d M ∧ Hf (pF m) (pN m) 115 8 32 d M
/-- vertices and faces are laid -/
def Ld (m : PMp) (M : ME) : Prop := M.1 110 7 = nI (pVn m) ∧ M.1 110 8 = nI (pFn m) ∧ (∀ x, x < pN m → M.1 114 x = nI (pVo m x)) ∧ (∀ x, x < pN m → M.1 115 x = nI (pFo m x)) ∧ (∀ c, c < 32 → M.1 116 c = nI (if c < ctO (pX m) (pN m) then pVd m c else 0)) ∧ (∀ c, c < 32 → M.1 116 (32 + c) = nI (if c < ctO (pF m) (pN m) then pFd m c else 0))
theorem nI_le_iff {a b : Nat} (ha : a < 2 ^ 31) (hb : b < 2 ^ 31) : nI a ≤ nI b ↔ a ≤ b := nI_leI ha hb
theorem Hf_0 {g : Nat → Nat} {N rw fl o : Nat} {M : ME} (h1 : ∀ x, x < 32 → M.1 rw x = -1) (h2 : M.1 110 fl = 0) (h3 : ∀ c, c < 32 → M.1 116 (o + c) = 0) : Hf g N rw fl o 0 M :=
  ⟨fun x hx => by rw [h1 x hx, if_neg (by omega)], h2, fun c hc => h3 c hc⟩
theorem i32m (s d : Nat) : 32 * nI s + nI d = nI (32 * s + d) := by
  show nI 32 * nI s + nI d = _
  rw [pk_mul, nI_add]
section Lays
variable {L : Nat} {xs : Nat → Int32} {d : Nat} {R : Option Value → ME → Prop}
/-- the walk round from dart x: the loop at 68 -/
theorem lays_v {s : Nat} {m : PMp} {M0 : ME} (hs : s < 5) (hm : PV m) (hr : rM M0 s m) {x p : Nat} (hx : x < pN m) (hp0 : 0 < p) (hpd : it (pX m) p x = x) (hpl : ∀ j, 0 < j → j < p → it (pX m) j x ≠ x) (hmx : mn (pX m) (pN m) x = x) (T : ME → Prop) (hT : ∀ (M : ME) (a b : Nat) (v : Int32), T M → (a = 114 ∨ (a = 116 ∧ 0 ≤ b ∧ b < 0 + 32) ∨ (a = 110 ∧ b = 7)) → T (sI M a b v))
    (kk : ∀ (M : ME) (z : Int32), Fr tL M0 M → T M → Hf (pX m) (pN m) 114 7 0 (x + 1) M → Wp (E0 L xs) (d + 2) m10_lays 138 [.ref 110, .int (nI s), .int (nI x), .int z] [] M R) :
    ∀ (k i : Nat) (M : ME), i + k = p → Fr tL M0 M → T M → Wk (pX m) (pN m) 114 7 0 x p i M → Wp (E0 L xs) (d + 2) m10_lays 68 [.ref 110, .int (nI s), .int (nI x), .int (nI (it (pX m) i x))] [] M R := by
  have hg : PermOn (pX m) (pN m) := hm.2.1
  have hN : pN m ≤ 32 := by have := hm.1; show 2 * m.1 ≤ 32; omega
  have hct : rkO (pX m) (pN m) x < 32 := by have := rkO_le (pX m) (pN m) x; omega
  intro k
  induction k with
  | zero =>
    intro i M hi hF hTM hW
    have hip : i = p := by omega
    subst hip
    have hlt := it_lt hg.1 i x hx
    refine b10_lays_68 (it (pX m) i x) rfl (by omega) (fun _ => ?_) (fun h => ?_)
    · exact kk M _ hF hTM (Wk_p hW hg hx hp0 hpd hpl hmx)
    · exfalso
      have h1 := hW.1 (it (pX m) i x) (by omega)
      rw [if_pos (Or.inr (by rw [hpd]; exact inO_iff.mpr ⟨0, hp0, rfl⟩))] at h1
      exact nI_ne1 (by have := lbO_lt hg hlt; have := ctO_le (pX m) (pN m); omega) (h1.symm.trans h)
  | succ k ih =>
    intro i M hi hF hTM hW
    have hlt := it_lt hg.1 i x hx
    have hip : i < p := by omega
    have hmi : mn (pX m) (pN m) (it (pX m) i x) = x := by
      rw [← (mn_eq hg hx hlt).mpr ⟨i, rfl⟩]; exact hmx
    have hM := rM_fr hr hF rfl rfl (fun _ _ => rfl)
    have e7 : M.1 110 7 = nI (rkO (pX m) (pN m) x) := by have := hW.2.1; rw [if_neg (by omega)] at this; exact this
    have e16 : M.1 116 (0 + rkO (pX m) (pN m) x) = nI i := by have := hW.2.2 _ hct; rw [if_neg (by omega), if_pos rfl] at this; exact this
    refine b10_lays_68 (it (pX m) i x) rfl (by omega) (fun h => ?_) (fun _ => ?_)
    · exfalso
      apply h
      show M.1 114 _ = -1
      rw [hW.1 _ (by omega), if_neg]
      rintro (⟨-, q⟩ | q)
      · omega
      · exact wk_new hg hx hpl hip q
    · have hnx : M.1 111 (32 * s + it (pX m) i x) = nI (it (pX m) (i + 1) x) := by
        rw [it_succ' (pX m) i x]
        exact hM.2.2 _ hlt
      have hTT : T (sI (sI M 114 (it (pX m) i x) (nI (rkO (pX m) (pN m) x))) 116 (0 + rkO (pX m) (pN m) x) (nI (i + 1))) := hT _ _ _ _ (hT _ _ _ _ hTM (Or.inl rfl)) (Or.inr (Or.inl ⟨rfl, by omega, by omega⟩))
      have hFF : Fr tL M0 (sI (sI M 114 (it (pX m) i x) (nI (rkO (pX m) (pN m) x))) 116 (0 + rkO (pX m) (pN m) x) (nI (i + 1))) := Fr_sI (Fr_sI hF rfl) rfl
      have hlt2 : it (pX m) (i + 1) x < pN m := it_lt hg.1 _ x hx
      refine b10_lays_78 (it (pX m) i x) rfl (by omega) (0 + rkO (pX m) (pN m) x) (by rw [Nat.zero_add]; exact e7) (by omega) (0 + rkO (pX m) (pN m) x) (by rw [Nat.zero_add]; exact e7) (by omega) ((32 * s + it (pX m) i x)) (i32m _ _) (by have := hlt; omega) (fun h => ?_) (fun h => ?_)
      · rw [show gI M 110 7 = _ from e7, show gI M 116 (0 + rkO (pX m) (pN m) x) = _ from e16, nI_1]
        refine b10_lays_128 ((32 * s + it (pX m) i x)) (i32m _ _) (by have := hlt; omega) ?_
        rw [show gI (sI (sI M 114 (it (pX m) i x) (nI (rkO (pX m) (pN m) x))) 116 (0 + rkO (pX m) (pN m) x) (nI (i + 1))) 111 ((32 * s + it (pX m) i x)) = nI (it (pX m) (i + 1) x) from hnx]
        refine ih (i + 1) _ (by omega) hFF hTT (Wk_s hW ⟨by decide, by decide⟩ hg hx hN hpd hpl hmx hip _ (Or.inl ⟨rfl, fun q => ?_⟩))
        apply h
        show M.1 111 _ = _
        rw [hnx, q, hpd]
      · have hlast : i + 1 = p := by
          have h1 : nI (it (pX m) (i + 1) x) = nI x := hnx.symm.trans h
          rw [nI_eq (by omega) (by omega), it_succ' (pX m) i x] at h1
          exact (wk_last hg hx hpd hpl hip).mp h1
        refine b10_lays_118 ?_
        rw [show gI M 110 7 = _ from e7, show gI M 116 (0 + rkO (pX m) (pN m) x) = _ from e16, nI_1]
        rw [show gI (sI (sI M 114 (it (pX m) i x) (nI (rkO (pX m) (pN m) x))) 116 (0 + rkO (pX m) (pN m) x) (nI (i + 1))) 110 7 = nI (rkO (pX m) (pN m) x) from e7, nI_1]
        refine b10_lays_128 ((32 * s + it (pX m) i x)) (i32m _ _) (by have := hlt; omega) ?_
        rw [show gI (sI (sI (sI M 114 (it (pX m) i x) (nI (rkO (pX m) (pN m) x))) 116 (0 + rkO (pX m) (pN m) x) (nI (i + 1))) 110 7 (nI (rkO (pX m) (pN m) x + 1))) 111 ((32 * s + it (pX m) i x)) = nI (it (pX m) (i + 1) x) from hnx]
        exact ih (i + 1) _ (by omega) (Fr_sI hFF rfl) (hT _ _ _ _ hTT (Or.inr (Or.inr ⟨rfl, rfl⟩))) (Wk_s hW ⟨by decide, by decide⟩ hg hx hN hpd hpl hmx hip _ (Or.inr ⟨rfl, hlast⟩))
/-- the walk round from dart x: the loop at 140 -/
theorem lays_f {s : Nat} {m : PMp} {M0 : ME} (hs : s < 5) (hm : PV m) (hr : rM M0 s m) {x p : Nat} (hx : x < pN m) (hp0 : 0 < p) (hpd : it (pF m) p x = x) (hpl : ∀ j, 0 < j → j < p → it (pF m) j x ≠ x) (hmx : mn (pF m) (pN m) x = x) (T : ME → Prop) (hT : ∀ (M : ME) (a b : Nat) (v : Int32), T M → (a = 115 ∨ (a = 116 ∧ 32 ≤ b ∧ b < 32 + 32) ∨ (a = 110 ∧ b = 8)) → T (sI M a b v))
    (kk : ∀ (M : ME) (z : Int32), Fr tL M0 M → T M → Hf (pF m) (pN m) 115 8 32 (x + 1) M → Wp (E0 L xs) (d + 2) m10_lays 216 [.ref 110, .int (nI s), .int (nI x), .int z] [] M R) :
    ∀ (k i : Nat) (M : ME), i + k = p → Fr tL M0 M → T M → Wk (pF m) (pN m) 115 8 32 x p i M → Wp (E0 L xs) (d + 2) m10_lays 140 [.ref 110, .int (nI s), .int (nI x), .int (nI (it (pF m) i x))] [] M R := by
  have hg : PermOn (pF m) (pN m) := pF_perm hm.2.1
  have hN : pN m ≤ 32 := by have := hm.1; show 2 * m.1 ≤ 32; omega
  have hct : rkO (pF m) (pN m) x < 32 := by have := rkO_le (pF m) (pN m) x; omega
  intro k
  induction k with
  | zero =>
    intro i M hi hF hTM hW
    have hip : i = p := by omega
    subst hip
    have hlt := it_lt hg.1 i x hx
    refine b10_lays_140 (it (pF m) i x) rfl (by omega) (fun _ => ?_) (fun h => ?_)
    · exact kk M _ hF hTM (Wk_p hW hg hx hp0 hpd hpl hmx)
    · exfalso
      have h1 := hW.1 (it (pF m) i x) (by omega)
      rw [if_pos (Or.inr (by rw [hpd]; exact inO_iff.mpr ⟨0, hp0, rfl⟩))] at h1
      exact nI_ne1 (by have := lbO_lt hg hlt; have := ctO_le (pF m) (pN m); omega) (h1.symm.trans h)
  | succ k ih =>
    intro i M hi hF hTM hW
    have hlt := it_lt hg.1 i x hx
    have hip : i < p := by omega
    have hmi : mn (pF m) (pN m) (it (pF m) i x) = x := by
      rw [← (mn_eq hg hx hlt).mpr ⟨i, rfl⟩]; exact hmx
    have hM := rM_fr hr hF rfl rfl (fun _ _ => rfl)
    have e7 : M.1 110 8 = nI (rkO (pF m) (pN m) x) := by have := hW.2.1; rw [if_neg (by omega)] at this; exact this
    have e16 : M.1 116 (32 + rkO (pF m) (pN m) x) = nI i := by have := hW.2.2 _ hct; rw [if_neg (by omega), if_pos rfl] at this; exact this
    refine b10_lays_140 (it (pF m) i x) rfl (by omega) (fun h => ?_) (fun _ => ?_)
    · exfalso
      apply h
      show M.1 115 _ = -1
      rw [hW.1 _ (by omega), if_neg]
      rintro (⟨-, q⟩ | q)
      · omega
      · exact wk_new hg hx hpl hip q
    · have hnx : M.1 111 (32 * s + ox (it (pF m) i x)) = nI (it (pF m) (i + 1) x) := by
        rw [it_succ' (pF m) i x]
        exact hM.2.2 _ (ox_lt hlt)
      have hTT : T (sI (sI M 115 (it (pF m) i x) (nI (rkO (pF m) (pN m) x))) 116 (32 + rkO (pF m) (pN m) x) (nI (i + 1))) := hT _ _ _ _ (hT _ _ _ _ hTM (Or.inl rfl)) (Or.inr (Or.inl ⟨rfl, by omega, by omega⟩))
      have hFF : Fr tL M0 (sI (sI M 115 (it (pF m) i x) (nI (rkO (pF m) (pN m) x))) 116 (32 + rkO (pF m) (pN m) x) (nI (i + 1))) := Fr_sI (Fr_sI hF rfl) rfl
      have hlt2 : it (pF m) (i + 1) x < pN m := it_lt hg.1 _ x hx
      refine b10_lays_150 (it (pF m) i x) rfl (by omega) (32 + rkO (pF m) (pN m) x) (by show nI 32 + M.1 110 8 = _; rw [e7, nI_add]) (by omega) (32 + rkO (pF m) (pN m) x) (by show nI 32 + M.1 110 8 = _; rw [e7, nI_add]) (by omega) ((32 * s + ox (it (pF m) i x))) (by rw [nI_ox (by omega)]; exact i32m _ _) (by have : ox (it (pF m) i x) < pN m := ox_lt hlt; omega) (fun h => ?_) (fun h => ?_)
      · rw [show gI M 110 8 = _ from e7, show gI M 116 (32 + rkO (pF m) (pN m) x) = _ from e16, nI_1]
        refine b10_lays_206 ((32 * s + ox (it (pF m) i x))) (by rw [nI_ox (by omega)]; exact i32m _ _) (by have : ox (it (pF m) i x) < pN m := ox_lt hlt; omega) ?_
        rw [show gI (sI (sI M 115 (it (pF m) i x) (nI (rkO (pF m) (pN m) x))) 116 (32 + rkO (pF m) (pN m) x) (nI (i + 1))) 111 ((32 * s + ox (it (pF m) i x))) = nI (it (pF m) (i + 1) x) from hnx]
        refine ih (i + 1) _ (by omega) hFF hTT (Wk_s hW ⟨by decide, by decide⟩ hg hx hN hpd hpl hmx hip _ (Or.inl ⟨rfl, fun q => ?_⟩))
        apply h
        show M.1 111 _ = _
        rw [hnx, q, hpd]
      · have hlast : i + 1 = p := by
          have h1 : nI (it (pF m) (i + 1) x) = nI x := hnx.symm.trans h
          rw [nI_eq (by omega) (by omega), it_succ' (pF m) i x] at h1
          exact (wk_last hg hx hpd hpl hip).mp h1
        refine b10_lays_196 ?_
        rw [show gI M 110 8 = _ from e7, show gI M 116 (32 + rkO (pF m) (pN m) x) = _ from e16, nI_1]
        rw [show gI (sI (sI M 115 (it (pF m) i x) (nI (rkO (pF m) (pN m) x))) 116 (32 + rkO (pF m) (pN m) x) (nI (i + 1))) 110 8 = nI (rkO (pF m) (pN m) x) from e7, nI_1]
        refine b10_lays_206 ((32 * s + ox (it (pF m) i x))) (by rw [nI_ox (by omega)]; exact i32m _ _) (by have : ox (it (pF m) i x) < pN m := ox_lt hlt; omega) ?_
        rw [show gI (sI (sI (sI M 115 (it (pF m) i x) (nI (rkO (pF m) (pN m) x))) 116 (32 + rkO (pF m) (pN m) x) (nI (i + 1))) 110 8 (nI (rkO (pF m) (pN m) x + 1))) 111 ((32 * s + ox (it (pF m) i x))) = nI (it (pF m) (i + 1) x) from hnx]
        exact ih (i + 1) _ (by omega) (Fr_sI hFF rfl) (hT _ _ _ _ hTT (Or.inr (Or.inr ⟨rfl, rfl⟩))) (Wk_s hW ⟨by decide, by decide⟩ hg hx hN hpd hpl hmx hip _ (Or.inr ⟨rfl, hlast⟩))
/-- the law of lays -/
theorem lays_wp {s : Nat} {m : PMp} {M0 : ME} (hs : s < 5) (hm : PV m) (hr : rM M0 s m) (hR : ∀ M, Fr tL M0 M → Ld m M → R none M) : Wp (E0 L xs) (d + 2) m10_lays 0 [.ref 110, .int (nI s), .null, .null] [] M0 R := by
  have hN : pN m ≤ 32 := by have := hm.1; show 2 * m.1 ≤ 32; omega
  refine b10_lays_0 ?_
  -- the rows are emptied
  refine lpN 32 (fun i M => Fr tL M0 M ∧ M.1 110 7 = 0 ∧ M.1 110 8 = 0 ∧ ∀ x, x < i → M.1 114 x = -1 ∧ M.1 115 x = -1 ∧ M.1 116 x = 0 ∧ M.1 116 (32 + x) = 0) (fun i M => Wp (E0 L xs) (d + 2) m10_lays 12 [.ref 110, .int (nI s), .int (nI i), .null] [] M R) ?_ ?_ 0 _ (by decide) ⟨Fr_sI (Fr_sI (Fr_refl _ _) rfl) rfl, rfl, rfl, fun x hx => absurd hx (Nat.not_lt_zero _)⟩
  · intro M ⟨hF, h7, h8, hz⟩
    refine b10_lays_12 (fun _ => b10_lays_55 ?_) (fun h => absurd (by decide) h)
    -- dart by dart
    refine lpN (pN m) (fun x M => LdI m x M0 M) (fun x M => Wp (E0 L xs) (d + 2) m10_lays 57 [.ref 110, .int (nI s), .int (nI x), .null] [] M R) ?_ ?_ 0 M (Nat.zero_le _) ⟨hF, Hf_0 (fun x hx => (hz x hx).1) h7 (fun c hc => by rw [Nat.zero_add]; exact (hz c hc).2.2.1), Hf_0 (fun x hx => (hz x hx).2.1) h8 (fun c hc => (hz c hc).2.2.2)⟩
    · intro M ⟨hF, hv, hf⟩
      have hM := rM_fr hr hF rfl rfl (fun _ _ => rfl)
      have e2 : 2 * gI M 112 s = nI (pN m) := by
        rw [show gI M 112 s = _ from hM.1]; exact pk_mul 2 _
      refine b10_lays_57 s rfl hs (fun _ => ?_) (fun h => absurd (by rw [e2]; exact nI_le (Nat.le_refl _) (by omega)) h)
      have hx : ∀ x, x < pN m → M.1 114 x = nI (pVo m x) := fun x hx => by
        rw [hv.1 x (by omega), if_pos ⟨hx, mn_lt hx⟩]
      have hy : ∀ x, x < pN m → M.1 115 x = nI (pFo m x) := fun x hx => by
        rw [hf.1 x (by omega), if_pos ⟨hx, mn_lt hx⟩]
      have hc : ∀ c, c < 32 → M.1 116 c = nI (if c < ctO (pX m) (pN m) then pVd m c else 0) := fun c hc => by
        have := hv.2.2 c hc
        rw [Nat.zero_add] at this
        exact this
      refine b10_lays_222 s rfl hs (fun h => ?_) (fun h => ?_)
      · have h0 : pE m = 0 := by
          rw [show gI M 112 s = _ from hM.1] at h
          have := (nI_leI (b := 0) (by have h9 : pE m ≤ 16 := hm.1; omega) (by decide)).mp h
          omega
        exact b10_lays_232 (hR _ (Fr_sI (Fr_sI hF rfl) rfl) (by
          refine ⟨?_, ?_, hx, hy, hc, hf.2.2⟩
          · show (1 : Int32) = nI (pVn m)
            unfold pVn; rw [if_pos h0]; rfl
          · show (1 : Int32) = nI (pFn m)
            unfold pFn; rw [if_pos h0]; rfl))
      · have h0 : ¬ pE m = 0 := fun q => by
          apply h
          rw [show gI M 112 s = _ from hM.1, q]; decide
        exact b10_lays_231 (hR _ hF (by
          refine ⟨?_, ?_, hx, hy, hc, hf.2.2⟩
          · unfold pVn; rw [if_neg h0]; exact hv.2.1
          · unfold pFn; rw [if_neg h0]; exact hf.2.1))
    · intro x M hx ⟨hF, hv, hf⟩ ih
      have hM := rM_fr hr hF rfl rfl (fun _ _ => rfl)
      have e2 : 2 * gI M 112 s = nI (pN m) := by
        rw [show gI M 112 s = _ from hM.1]; exact pk_mul 2 _
      have hlast : ∀ (M : ME) (z : Int32), Fr tL M0 M → Hf (pX m) (pN m) 114 7 0 (x + 1) M → Hf (pF m) (pN m) 115 8 32 (x + 1) M → Wp (E0 L xs) (d + 2) m10_lays 216 [.ref 110, .int (nI s), .int (nI x), .int z] [] M R := fun M z hF hv hf => b10_lays_216 (by rw [nI_1]; exact ih M ⟨hF, hv, hf⟩)
      have hface : ∀ (M : ME) (z : Int32), Fr tL M0 M → Hf (pF m) (pN m) 115 8 32 x M → Hf (pX m) (pN m) 114 7 0 (x + 1) M → Wp (E0 L xs) (d + 2) m10_lays 138 [.ref 110, .int (nI s), .int (nI x), .int z] [] M R := by
        intro M z hF hf hv
        refine b10_lays_138 ?_
        by_cases hq : mn (pF m) (pN m) x = x
        · obtain ⟨p, p0, -, pd, pl⟩ := lperiod (pF_perm hm.2.1) hx
          refine lays_f hs hm hr hx p0 pd pl hq (fun M => Hf (pX m) (pN m) 114 7 0 (x + 1) M) ?_ (fun M z h1 h2 h3 => hlast M z h1 h2 h3) p 0 M (by omega) hF hv (Wk_0 hf p0)
          intro M a b v hM hab
          refine ⟨fun y hy => ?_, ?_, fun c hc => ?_⟩
          · rw [sI_ne (by rcases hab with q | ⟨q, -⟩ | ⟨q, -⟩ <;> (left; omega))]; exact hM.1 y hy
          · rw [sI_ne (by rcases hab with q | ⟨q, -⟩ | ⟨q, q2⟩ <;> first | (left; omega) | (right; omega))]; exact hM.2.1
          · rw [sI_ne (by rcases hab with q | ⟨q, q2⟩ | ⟨q, -⟩ <;> first | (left; omega) | (right; omega))]; exact hM.2.2 c hc
        · refine b10_lays_140 x rfl (by omega) (fun _ => hlast M _ hF hv (Hf_skip hf hq (pF_perm hm.2.1) hx)) (fun h => ?_)
          exfalso
          have h1 := hf.1 x (by omega)
          have h2 := mn_self (pF m) (pN m) x
          rw [if_pos ⟨hx, by omega⟩] at h1
          exact nI_ne1 (by have := lbO_lt (pF_perm hm.2.1) hx; have := ctO_le (pF m) (pN m); omega) (h1.symm.trans h)
      refine b10_lays_57 s rfl hs (fun h => ?_) (fun _ => b10_lays_66 ?_)
      · rw [e2] at h
        exact absurd ((nI_leI (by omega) (by omega)).mp h) (by omega)
      · by_cases hq : mn (pX m) (pN m) x = x
        · obtain ⟨p, p0, -, pd, pl⟩ := lperiod hm.2.1 hx
          refine lays_v hs hm hr hx p0 pd pl hq (fun M => Hf (pF m) (pN m) 115 8 32 x M) ?_ (fun M z h1 h2 h3 => hface M z h1 h2 h3) p 0 M (by omega) hF hf (Wk_0 hv p0)
          intro M a b v hM hab
          refine ⟨fun y hy => ?_, ?_, fun c hc => ?_⟩
          · rw [sI_ne (by rcases hab with q | ⟨q, -⟩ | ⟨q, -⟩ <;> (left; omega))]; exact hM.1 y hy
          · rw [sI_ne (by rcases hab with q | ⟨q, -⟩ | ⟨q, q2⟩ <;> first | (left; omega) | (right; omega))]; exact hM.2.1
          · rw [sI_ne (by rcases hab with q | ⟨q, q2⟩ | ⟨q, -⟩ <;> first | (left; omega) | (right; omega))]; exact hM.2.2 c hc
        · refine b10_lays_68 x rfl (by omega) (fun _ => hface M _ hF hf (Hf_skip hv hq hm.2.1 hx)) (fun h => ?_)
          exfalso
          have h1 := hv.1 x (by omega)
          have h2 := mn_self (pX m) (pN m) x
          rw [if_pos ⟨hx, by omega⟩] at h1
          exact nI_ne1 (by have := lbO_lt hm.2.1 hx; have := ctO_le (pX m) (pN m); omega) (h1.symm.trans h)
  · intro i M hi ⟨hF, h7, h8, hz⟩ ih
    refine b10_lays_12 (fun h => absurd ((nI_leI (a := 32) (by decide) (by omega)).mp h) (by omega)) (fun _ => ?_)
    refine b10_lays_18 i rfl hi i rfl hi i rfl (by omega) (32 + i) (nI_add 32 i) (by omega) ?_
    rw [nI_1]
    refine ih _ ⟨Fr_sI (Fr_sI (Fr_sI (Fr_sI hF rfl) rfl) rfl) rfl, h7, h8, fun x hx => ?_⟩
    by_cases e : x = i
    · subst e
      refine ⟨?_, ?_, ?_, ?_⟩
      · exact sI_eq M 114 x (-1)
      · exact sI_eq _ 115 x (-1)
      · rw [sI_ne (Or.inr (by omega))]; exact sI_eq _ 116 x 0
      · exact sI_eq _ 116 (32 + x) 0
    · obtain ⟨a, b, c, e4⟩ := hz x (by omega)
      refine ⟨?_, ?_, ?_, ?_⟩
      · exact (sI_ne (M := M) (k := 114) (Or.inr e)).trans a
      · exact (sI_ne (M := sI M 114 i (-1)) (k := 115) (a := 115) (Or.inr e)).trans b
      · rw [sI_ne (Or.inr (by omega)), sI_ne (Or.inr e)]; exact c
      · rw [sI_ne (Or.inr (by omega)), sI_ne (Or.inr (by omega))]; exact e4
theorem lays_ev {s : Nat} {m : PMp} {M0 : ME} (hs : s < 5) (hm : PV m) (hr : rM M0 s m) : EvV (E0 L xs) (d + 2) m10_lays [.ref 110, .int (nI s)] M0 (fun M => Fr tL M0 M ∧ Ld m M) :=
  Ev_of k10_lays rfl (Nat.le_of_ble_eq_true rfl) (lays_wp hs hm hr (fun _ h1 h2 => ⟨rfl, h1, h2⟩))
end Lays
