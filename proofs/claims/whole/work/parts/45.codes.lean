/-! all darts have names; mirrored maps; answers about codes -/
theorem cl_it {g : Nat → Nat} {N : Nat} (hg : ∀ x, x < N → g x < N) {S : Nat → Prop} (h : ∀ x, x < N → S x → S (g x)) : ∀ k x, x < N → S x → S (it g k x)
  | 0, _, _, hS => hS
  | k + 1, x, hx, hS => cl_it hg h k (g x) (hg x hx) (h x hx hS)
theorem nml_pre {m : PMp} {s i : Nat} : ∀ {k k' : Nat}, k ≤ k' → i < (nml m s k).length → (nml m s k')[i]? = (nml m s k)[i]? ∧ (nml m s k).length ≤ (nml m s k').length := by
  intro k k' h hi
  induction k' with
  | zero => rw [Nat.le_zero.mp h]; exact ⟨rfl, Nat.le_refl _⟩
  | succ k' ih =>
    by_cases e : k = k' + 1
    · rw [e]; exact ⟨rfl, Nat.le_refl _⟩
    · obtain ⟨h1, h2⟩ := ih (by omega)
      obtain ⟨h3, h4⟩ := rv_pre (g := pX m) (x := (nml m s k').getD k' 0) (show i < (nml m s k').length by omega) (if k' < (nml m s k').length then dgx m ((nml m s k').getD k' 0) else 0)
      exact ⟨h3.trans h1, Nat.le_trans h2 h4⟩
theorem nml_sub {m : PMp} {s x : Nat} {k k' : Nat} (h : k ≤ k') (hx : x ∈ nml m s k) : x ∈ nml m s k' := by
  obtain ⟨i, hi, e⟩ := List.getElem_of_mem hx
  have h1 := (nml_pre h hi).1
  rw [List.getElem?_eq_getElem hi, e] at h1
  exact List.mem_of_getElem? h1
theorem cdL_cl {m : PMp} (hm : PV m) {s x : Nat} (hs : s < pN m) (hx : x ∈ cdL m s) : pX m x ∈ cdL m s := by
  have hNL := NL_nml hm.2.1 hs (pN m)
  have hxN := hNL.2.1 x hx
  have hlen := nd_le hNL.1 hNL.2.1
  obtain ⟨k, hk, e⟩ := List.getElem_of_mem hx
  have hkN : k < pN m := by have : k < (cdL m s).length := hk; have : (cdL m s).length ≤ pN m := hlen; omega
  -- name k is there when it is looked at
  have hgo : ∀ k, k ≤ pN m → k < (nml m s (pN m)).length → k < (nml m s k).length := by
    intro k hk hk2
    rcases Nat.lt_or_ge k (nml m s k).length with q | q
    · exact q
    · rw [nml_stop q (pN m) hk] at hk2
      exact hk2
  have hk3 := hgo k (by omega) hk
  have e1 : (nml m s k).getD k 0 = x := by
    have := (nml_pre (show k ≤ pN m by omega) hk3).1
    have hk4 : k < (nml m s (pN m)).length := hk
    rw [List.getElem?_eq_getElem hk4] at this
    have e' : (nml m s (pN m))[k] = x := e
    rw [e'] at this
    simp [List.getD, ← this]
  obtain ⟨p, hp, p0, pN', pd, pl⟩ := dgx_per hm.2.1 hxN
  have hin : pX m x ∈ nml m s (k + 1) := by
    show pX m x ∈ rv (pX m) (nml m s k) ((nml m s k).getD k 0) (if k < (nml m s k).length then dgx m ((nml m s k).getD k 0) else 0)
    rw [if_pos hk3, e1, hp]
    by_cases h1 : 1 < p
    · exact rv_in (g := pX m) (x := x) (j := 1) h1
    · have : p = 1 := by omega
      subst this
      have : pX m x = x := pd
      rw [this]
      exact rv_in (g := pX m) (x := x) (j := 0) (by decide)
  exact nml_sub (show k + 1 ≤ pN m by omega) hin
theorem cdL_s {m : PMp} (hm : PV m) {s : Nat} (hs : s < pN m) : (cdL m s)[0]? = some s := by
  exact (nml_pre (m := m) (s := s) (i := 0) (Nat.zero_le (pN m)) (show 0 < [s, ox s].length from Nat.zero_lt_succ _)).1
theorem cdL_all {m : PMp} (hm : PV m) (hc : Conn m) {s : Nat} (hs : s < pN m) {x : Nat} (hx : x < pN m) : x ∈ cdL m s := by
  have hNL := NL_nml hm.2.1 hs (pN m)
  exact hc (fun z => z ∈ cdL m s) (fun z _ h => cdL_cl hm hs h) (fun z _ h => hNL.2.2 z h) s x hs hx (List.mem_of_getElem? (cdL_s hm hs))
theorem cdL_len {m : PMp} (hm : PV m) (hc : Conn m) {s : Nat} (hs : s < pN m) : (cdL m s).length = pN m := by
  have hNL := NL_nml hm.2.1 hs (pN m)
  have h1 := nd_le hNL.1 hNL.2.1
  have h2 : pN m ≤ (cdL m s).length := by
    rcases Nat.lt_or_ge (cdL m s).length (pN m) with q | q
    · exfalso
      obtain ⟨i, j, hij, hj, e⟩ := pig (cdL m s).length (fun x => (cdL m s).idxOf x) (fun i hi => List.idxOf_lt_length_of_mem (cdL_all hm hc hs (by omega)))
      have g1 := List.getElem_idxOf (List.idxOf_lt_length_of_mem (cdL_all hm hc hs (show i < pN m by omega)))
      have g2 := List.getElem_idxOf (List.idxOf_lt_length_of_mem (cdL_all hm hc hs (show j < pN m by omega)))
      have e' : (cdL m s).idxOf i = (cdL m s).idxOf j := e
      have : i = j := g1.symm.trans ((getElem_congr_idx e').trans g2)
      omega
    · exact q
  exact Nat.le_antisymm h1 h2
/-! the inverse of a permutation -/
def ivF (g : Nat → Nat) : Nat → Nat → Nat
  | 0, _ => 0
  | n + 1, y => if g n = y then n else ivF g n y
theorem ivF_at {g : Nat → Nat} {N : Nat} (h : ∀ x y, x < N → y < N → g x = g y → x = y) : ∀ {n x : Nat}, n ≤ N → x < n → ivF g n (g x) = x
  | 0, x, _, hx => absurd hx (Nat.not_lt_zero _)
  | n + 1, x, hn, hx => by
    show (if g n = g x then n else ivF g n (g x)) = x
    by_cases e : g n = g x
    · rw [if_pos e]; exact h n x (by omega) (by omega) e
    · rw [if_neg e]
      exact ivF_at h (by omega) (by
        have : x ≠ n := fun z => e (by rw [z])
        omega)
theorem perm_sur {g : Nat → Nat} {N : Nat} (h : PermOn g N) {y : Nat} (hy : y < N) : ∃ x, x < N ∧ g x = y := by
  obtain ⟨p, p0, -, hp⟩ := period h hy
  refine ⟨it g (p - 1) y, it_lt h.1 _ _ hy, ?_⟩
  rw [← it_succ' g (p - 1) y, show p - 1 + 1 = p by omega]
  exact hp
theorem iv_l {g : Nat → Nat} {N x : Nat} (h : PermOn g N) (hx : x < N) : ivF g N (g x) = x := ivF_at h.2 (Nat.le_refl _) hx
theorem iv_r {g : Nat → Nat} {N y : Nat} (h : PermOn g N) (hy : y < N) : g (ivF g N y) = y := by
  obtain ⟨x, hx, rfl⟩ := perm_sur h hy
  rw [iv_l h hx]
theorem iv_perm {g : Nat → Nat} {N : Nat} (h : PermOn g N) : PermOn (ivF g N) N := by
  refine ⟨fun y hy => ?_, fun y z hy hz e => ?_⟩
  · obtain ⟨x, hx, rfl⟩ := perm_sur h hy
    rw [iv_l h hx]; exact hx
  · rw [← iv_r h hy, ← iv_r h hz, e]
theorem iv_it {g : Nat → Nat} {N : Nat} (h : PermOn g N) : ∀ (k x : Nat), x < N → it (ivF g N) k (it g k x) = x
  | 0, _, _ => rfl
  | k + 1, x, hx => by
    show it (ivF g N) k (ivF g N (it g (k + 1) x)) = x
    rw [it_succ' g k x, iv_l h (it_lt h.1 k x hx)]
    exact iv_it h k x hx
theorem iv_orb {g : Nat → Nat} {N x y : Nat} (h : PermOn g N) (hx : x < N) (hy : y < N) : Orb (ivF g N) x y ↔ Orb g x y := by
  have key : ∀ x y, x < N → Orb g x y → Orb (ivF g N) y x := fun x y hx ⟨k, hk⟩ => ⟨k, by rw [← hk]; exact iv_it h k x hx⟩
  constructor
  · intro ⟨k, hk⟩
    have : Orb g y x := by
      refine ⟨k, ?_⟩
      have aux : ∀ k x, x < N → it g k (it (ivF g N) k x) = x := by
        intro k
        induction k with
        | zero => intro x _; rfl
        | succ k ih =>
          intro x hx
          show it g k (g (it (ivF g N) (k + 1) x)) = x
          rw [it_succ' (ivF g N) k x, iv_r h (it_lt (iv_perm h).1 k x hx)]
          exact ih x hx
      rw [← hk]; exact aux k x hx
    exact Orb_symm h hy this
  · intro q
    exact Orb_symm (iv_perm h) hy (key x y hx q)
/-- a map mirrored -/
def mir (m : PMp) : PMp := (m.1, m.2.1, ivF (pX m) (pN m))
theorem mir_PV {m : PMp} (h : PV m) : PV (mir m) := ⟨h.1, iv_perm h.2.1, h.2.2⟩
theorem mir_Conn {m : PMp} (h : PV m) (hc : Conn m) : Conn (mir m) := by
  intro S h1 h2 x y hx hy hS
  refine hc S (fun z hz hSz => ?_) h2 x y hx hy hS
  obtain ⟨k, hk⟩ := (iv_orb h.2.1 hz (h.2.1.1 z hz)).mpr (Orb_step (pX m) z)
  rw [← hk]
  exact cl_it (iv_perm h.2.1).1 h1 k z hz hSz
/-- do two have one code from two darts on -/
def smC (m : PMp) (x : Nat) (m' : PMp) (y : Nat) (n : Nat) : Bool := alB (fun i => decide (cdV m x i = cdV m' y i)) n
def rtC (m m' : PMp) (n : Nat) : Nat := cnB (fun y => smC m (pR m) m' y (pN m')) n
noncomputable def aCode (st : ST) (x i : Int32) : Int32 := cIf (vp_in x 4 ∧ vp_in i (pN (sM st x.toNatClampNeg))) (cdV (sM st x.toNatClampNeg) (pR (sM st x.toNatClampNeg)) i.toNatClampNeg) (-1)
noncomputable def alk (m m' : PMp) (w : Int32) : Int32 := if pE m ≠ pE m' then 0 else if pE m = 0 then 1 else if w = 0 then b2i (smC m (pR m) m' (pR m') (pN m')) else if w = 2 then b2i (decide (0 < rtC m (mir m') (pN m'))) else b2i (decide (0 < rtC m m' (pN m')))
noncomputable def aAlike (st : ST) (x y w : Int32) : Int32 := cIf (vp_in x 4 ∧ vp_in y 4 ∧ vp_in w 3) (alk (sM st x.toNatClampNeg) (sM st y.toNatClampNeg) w) (-1)
def rtg (m : PMp) : Nat := if 0 < rtC m m (pN m) then pN m / rtC m m (pN m) else 1
noncomputable def aRootings (st : ST) (x : Int32) : Int32 := cIf (vp_in x 4) (nI (rtg (sM st x.toNatClampNeg))) (-1)
