/-! names of darts, codes -/
def vis (l : List Nat) (x : Nat) : List Nat := if x ∈ l then l else l ++ [x, ox x]
/-- i darts of the round from x are visited -/
def rv (g : Nat → Nat) (l : List Nat) (x : Nat) : Nat → List Nat
  | 0 => l
  | i + 1 => vis (rv g l x i) (it g i x)
def dgx (m : PMp) (x : Nat) : Nat := pVd m (pVo m x)
/-- the names, k of them looked at -/
def nml (m : PMp) (s : Nat) : Nat → List Nat
  | 0 => [s, ox s]
  | k + 1 => rv (pX m) (nml m s k) ((nml m s k).getD k 0) (if k < (nml m s k).length then dgx m ((nml m s k).getD k 0) else 0)
/-- a list of names: apart, below N, with each its other one -/
def NL (N : Nat) (l : List Nat) : Prop := l.Nodup ∧ (∀ x, x ∈ l → x < N) ∧ ∀ x, x ∈ l → ox x ∈ l
theorem nd_le {N : Nat} {l : List Nat} (h : l.Nodup) (hl : ∀ x, x ∈ l → x < N) : l.length ≤ N := by
  rcases Nat.lt_or_ge N l.length with q | q
  · exfalso
    obtain ⟨i, j, h1, h2, h3⟩ := pig N (fun i => l.getD i 0) (fun i hi => by
      have : l.getD i 0 = l[i]'(by omega) := by simp [List.getD, List.getElem?_eq_getElem (show i < l.length by omega)]
      show l.getD i 0 < N
      rw [this]
      exact hl _ (List.getElem_mem _))
    have e : l[i]'(by omega) = l[j]'(by omega) := by
      have a1 : l.getD i 0 = l[i]'(by omega) := by simp [List.getD, List.getElem?_eq_getElem (show i < l.length by omega)]
      have a2 : l.getD j 0 = l[j]'(by omega) := by simp [List.getD, List.getElem?_eq_getElem (show j < l.length by omega)]
      rw [← a1, ← a2]; exact h3
    have := (List.getElem_inj h).mp e
    omega
  · exact q
theorem NL_vis {N n : Nat} (hN : N = 2 * n) {l : List Nat} {x : Nat} (h : NL N l) (hx : x < N) : NL N (vis l x) := by
  subst hN
  unfold vis
  by_cases q : x ∈ l
  · rw [if_pos q]; exact h
  · rw [if_neg q]
    have q2 : ox x ∉ l := fun z => q (by have := h.2.2 _ z; rw [ox_ox] at this; exact this)
    refine ⟨?_, fun y hy => ?_, fun y hy => ?_⟩
    · rw [List.nodup_append]
      refine ⟨h.1, by simp [Ne.symm (ox_ne x)], fun a ha b hb e => ?_⟩
      subst e
      simp at hb
      rcases hb with rfl | rfl
      · exact q ha
      · exact q2 ha
    · rw [List.mem_append] at hy
      rcases hy with hy | hy
      · exact h.2.1 y hy
      · simp at hy
        rcases hy with rfl | rfl
        · exact hx
        · exact ox_lt hx
    · rw [List.mem_append] at hy ⊢
      rcases hy with hy | hy
      · exact Or.inl (h.2.2 y hy)
      · simp at hy
        rcases hy with rfl | rfl
        · right; simp
        · right; rw [ox_ox]; simp
theorem vis_mem {l : List Nat} {x y : Nat} : y ∈ vis l x ↔ y ∈ l ∨ (x ∉ l ∧ (y = x ∨ y = ox x)) := by
  unfold vis
  by_cases q : x ∈ l
  · rw [if_pos q]; exact ⟨Or.inl, fun z => z.elim id (fun w => absurd q w.1)⟩
  · rw [if_neg q, List.mem_append]
    simp [q]
theorem vis_self {l : List Nat} (x : Nat) : x ∈ vis l x := by
  rw [vis_mem]
  by_cases q : x ∈ l
  · exact Or.inl q
  · exact Or.inr ⟨q, Or.inl rfl⟩
theorem rv_mono {g : Nat → Nat} {l : List Nat} {x y : Nat} (h : y ∈ l) : ∀ i, y ∈ rv g l x i
  | 0 => h
  | i + 1 => vis_mem.mpr (Or.inl (rv_mono h i))
theorem rv_in {g : Nat → Nat} {l : List Nat} {x : Nat} : ∀ {i j : Nat}, j < i → it g j x ∈ rv g l x i
  | 0, j, h => absurd h (Nat.not_lt_zero _)
  | i + 1, j, h => by
    by_cases e : j = i
    · subst e; exact vis_self _
    · exact vis_mem.mpr (Or.inl (rv_in (show j < i by omega)))
theorem rv_id {g : Nat → Nat} {l : List Nat} {x : Nat} : ∀ {i : Nat}, (∀ j, j < i → it g j x ∈ l) → rv g l x i = l
  | 0, _ => rfl
  | i + 1, h => by
    show vis (rv g l x i) (it g i x) = l
    rw [rv_id (fun j hj => h j (by omega))]
    exact if_pos (h i (by omega))
theorem NL_rv {N n : Nat} (hN : N = 2 * n) {g : Nat → Nat} (hg : ∀ x, x < N → g x < N) {l : List Nat} {x : Nat} (h : NL N l) (hx : x < N) : ∀ i, NL N (rv g l x i)
  | 0 => h
  | i + 1 => NL_vis hN (NL_rv hN hg h hx i) (it_lt hg i x hx)
/-- a prefix stays -/
theorem vis_pre {l : List Nat} {x i : Nat} (h : i < l.length) : (vis l x)[i]? = l[i]? := by
  unfold vis
  by_cases q : x ∈ l
  · rw [if_pos q]
  · rw [if_neg q, List.getElem?_append_left h]
theorem vis_len {l : List Nat} {x : Nat} : l.length ≤ (vis l x).length := by
  unfold vis
  by_cases q : x ∈ l
  · rw [if_pos q]; exact Nat.le_refl _
  · rw [if_neg q, List.length_append]; exact Nat.le_add_right _ _
theorem rv_pre {g : Nat → Nat} {l : List Nat} {x i : Nat} (h : i < l.length) : ∀ k, (rv g l x k)[i]? = l[i]? ∧ l.length ≤ (rv g l x k).length
  | 0 => ⟨rfl, Nat.le_refl _⟩
  | k + 1 => by
    obtain ⟨h1, h2⟩ := rv_pre h k
    exact ⟨(vis_pre (by omega)).trans h1, Nat.le_trans h2 vis_len⟩
theorem getD_mem {l : List Nat} {k : Nat} (h : k < l.length) : l.getD k 0 ∈ l := by
  have : l.getD k 0 = l[k] := by simp [List.getD, List.getElem?_eq_getElem h]
  rw [this]; exact List.getElem_mem _
theorem NL_nml {m : PMp} (hm : PermOn (pX m) (pN m)) {s : Nat} (hs : s < pN m) : ∀ k, NL (pN m) (nml m s k)
  | 0 => ⟨by
      show [s, ox s].Nodup
      simp [Ne.symm (ox_ne s)], fun x hx => by
      have hx : x ∈ [s, ox s] := hx
      simp at hx
      rcases hx with rfl | rfl
      · exact hs
      · exact ox_lt hs, fun x hx => by
      have hx : x ∈ [s, ox s] := hx
      show ox x ∈ [s, ox s]
      simp at hx ⊢
      rcases hx with rfl | rfl
      · right; rfl
      · left; exact ox_ox _⟩
  | k + 1 => by
    have ih := NL_nml hm hs k
    show NL (pN m) (rv (pX m) (nml m s k) _ _)
    by_cases q : k < (nml m s k).length
    · exact NL_rv rfl hm.1 ih (ih.2.1 _ (getD_mem q)) _
    · rw [if_neg q]; exact ih
/-- the names in the rows: names of darts in row a, darts of names in row b -/
def nmV (l : List Nat) (x : Nat) : Int32 := if x ∈ l then nI (l.idxOf x) else -1
def NmI (l : List Nat) (a b : Nat) (M : ME) : Prop := (∀ i, i < l.length → M.1 b i = nI (l.getD i 0)) ∧ ∀ x, x < 32 → M.1 a x = nmV l x
theorem nmV_app {l : List Nat} {x y : Nat} (hx : x ∉ l) (hx2 : ox x ∉ l) : nmV (l ++ [x, ox x]) y = if y = x then nI l.length else if y = ox x then nI (l.length + 1) else nmV l y := by
  unfold nmV
  by_cases e1 : y = x
  · subst e1
    rw [if_pos (by simp), if_pos rfl, List.idxOf_append, if_neg hx]
    simp
  · by_cases e2 : y = ox x
    · subst e2
      rw [if_pos (by simp), if_neg e1, if_pos rfl, List.idxOf_append, if_neg hx2]
      have : List.idxOf (ox x) [x, ox x] = 1 := by
        rw [List.idxOf_cons]; simp [beq_eq_false_iff_ne.mpr (Ne.symm e1)]
      rw [this, Nat.add_comm]
    · rw [if_neg e1, if_neg e2]
      by_cases q : y ∈ l
      · rw [if_pos (List.mem_append_left _ q), if_pos q, List.idxOf_append, if_pos q]
      · rw [if_neg q, if_neg]
        rw [List.mem_append]
        simp [q, e1, e2]
theorem nmV_none {l : List Nat} {x : Nat} (hl : l.length ≤ 32) : nmV l x = -1 ↔ x ∉ l := by
  unfold nmV
  by_cases q : x ∈ l
  · rw [if_pos q]
    have := List.idxOf_lt_length_of_mem q
    exact ⟨fun z => absurd z (nI_ne1 (by omega)), fun z => absurd q z⟩
  · rw [if_neg q]
    exact ⟨fun _ => q, fun _ => rfl⟩
theorem NmI_app {l : List Nat} {a b x : Nat} {M M' : ME} (h : NmI l a b M) (hx : x ∉ l) (hx2 : ox x ∉ l) (ha : ∀ y, M'.1 a y = if y = x then nI l.length else if y = ox x then nI (l.length + 1) else M.1 a y) (hb : ∀ i, M'.1 b i = if i = l.length then nI x else if i = l.length + 1 then nI (ox x) else M.1 b i) : NmI (l ++ [x, ox x]) a b M' := by
  refine ⟨fun i hi => ?_, fun y hy => ?_⟩
  · rw [hb i]
    simp at hi
    by_cases e1 : i = l.length
    · subst e1
      rw [if_pos rfl]; simp [List.getD]
    · by_cases e2 : i = l.length + 1
      · subst e2
        rw [if_neg e1, if_pos rfl]; simp [List.getD]
      · rw [if_neg e1, if_neg e2, h.1 i (by omega)]
        have : (l ++ [x, ox x]).getD i 0 = l.getD i 0 := by simp [List.getD, List.getElem?_append_left (show i < l.length by omega)]
        rw [this]
  · rw [ha y, nmV_app hx hx2, h.2 y hy]
/-- the code from s on: name i's next, by name -/
def cdL (m : PMp) (s : Nat) : List Nat := nml m s (pN m)
def cdV (m : PMp) (s i : Nat) : Int32 := nmV (cdL m s) (pX m ((cdL m s).getD i 0))
theorem dgx_per {m : PMp} (hm : PermOn (pX m) (pN m)) {x : Nat} (hx : x < pN m) : ∃ p, dgx m x = p ∧ 0 < p ∧ p ≤ pN m ∧ it (pX m) p x = x ∧ ∀ j, 0 < j → j < p → it (pX m) j x ≠ x := by
  -- the least period is the same all round
  obtain ⟨p, p0, hpN, pd, pl⟩ := lperiod hm hx
  refine ⟨p, ?_, p0, hpN, pd, pl⟩
  have hy : mn (pX m) (pN m) x < pN m := mn_lt hx
  obtain ⟨q, q0, -, qd, ql⟩ := lperiod hm hy
  have hs := wk_sz hm hy q0 qd ql (mn_mn hm hx)
  show szO (pX m) (pN m) (rkO (pX m) (pN m) (mn (pX m) (pN m) x)) = p
  rw [hs]
  obtain ⟨k, hk⟩ := mn_orb (pX m) (pN m) x
  have tr : ∀ r, it (pX m) r (mn (pX m) (pN m) x) = mn (pX m) (pN m) x ↔ it (pX m) r x = x := fun r => by
    constructor
    · intro e
      rw [← hk, ← it_add, Nat.add_comm, it_add] at e
      exact it_inj hm k _ _ (it_lt hm.1 _ _ hx) hx e
    · intro e
      rw [← hk, ← it_add, Nat.add_comm, it_add, e]
  rcases Nat.lt_trichotomy p q with z | z | z
  · exact absurd ((tr p).mpr pd) (ql p p0 z)
  · exact z.symm
  · exact absurd ((tr q).mp qd) (pl q q0 z)
