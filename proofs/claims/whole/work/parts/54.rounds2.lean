/-! rounds told as lists -/
def nxL (l : List Nat) (x : Nat) : Nat := l.getD ((l.idxOf x + 1) % l.length) 0
theorem getD_at {l : List Nat} {i : Nat} (h : i < l.length) : l.getD i 0 = l[i] := by simp [List.getD, List.getElem?_eq_getElem h]
theorem idx_at {l : List Nat} (hn : l.Nodup) {i : Nat} (h : i < l.length) : l.idxOf (l.getD i 0) = i := by
  rw [getD_at h]
  exact (List.getElem_inj hn).mp (List.getElem_idxOf (List.idxOf_lt_length_of_mem (List.getElem_mem h)))
theorem at_idx {l : List Nat} {x : Nat} (h : x ∈ l) : l.getD (l.idxOf x) 0 = x := by
  have hl := List.idxOf_lt_length_of_mem h
  rw [getD_at hl]
  exact List.getElem_idxOf hl
theorem nxL_mem {l : List Nat} {x : Nat} (h : x ∈ l) : nxL l x ∈ l := by
  have hl : 0 < l.length := List.length_pos_of_mem h
  exact getD_mem (Nat.mod_lt _ hl)
theorem nxL_inj {l : List Nat} (hn : l.Nodup) {x y : Nat} (hx : x ∈ l) (hy : y ∈ l) (e : nxL l x = nxL l y) : x = y := by
  have hl : 0 < l.length := List.length_pos_of_mem hx
  have h1 := idx_at hn (Nat.mod_lt (l.idxOf x + 1) hl)
  have h2 := idx_at hn (Nat.mod_lt (l.idxOf y + 1) hl)
  have e' : l.getD ((l.idxOf x + 1) % l.length) 0 = l.getD ((l.idxOf y + 1) % l.length) 0 := e
  rw [e', h2] at h1
  have l1 := List.idxOf_lt_length_of_mem hx
  have l2 := List.idxOf_lt_length_of_mem hy
  have : l.idxOf x = l.idxOf y := by
    by_cases q1 : l.idxOf x + 1 = l.length
    · rw [q1, Nat.mod_self] at h1
      by_cases q2 : l.idxOf y + 1 = l.length
      · omega
      · rw [Nat.mod_eq_of_lt (by omega)] at h1; omega
    · rw [Nat.mod_eq_of_lt (show l.idxOf x + 1 < l.length by omega)] at h1
      by_cases q2 : l.idxOf y + 1 = l.length
      · rw [q2, Nat.mod_self] at h1; omega
      · rw [Nat.mod_eq_of_lt (by omega)] at h1; omega
  rw [← at_idx hx, ← at_idx hy, this]
theorem nxL_it {l : List Nat} (hn : l.Nodup) {x : Nat} (hx : x ∈ l) : ∀ k, it (nxL l) k x = l.getD ((l.idxOf x + k) % l.length) 0 ∧ it (nxL l) k x ∈ l
  | 0 => by
    have hl := List.idxOf_lt_length_of_mem hx
    rw [Nat.add_zero, Nat.mod_eq_of_lt hl, at_idx hx]
    exact ⟨rfl, hx⟩
  | k + 1 => by
    obtain ⟨h1, h2⟩ := nxL_it hn hx k
    have hl : 0 < l.length := List.length_pos_of_mem hx
    rw [it_succ' (nxL l) k x]
    refine ⟨?_, nxL_mem h2⟩
    show l.getD ((l.idxOf (it (nxL l) k x) + 1) % l.length) 0 = _
    rw [h1, idx_at hn (Nat.mod_lt _ hl), Nat.mod_add_mod, Nat.add_assoc]
section RDS
variable {rl : Nat → List Nat} {rid : Nat → Nat} {N : Nat}
/-- lists that part the numbers below N -/
def Rds (rl : Nat → List Nat) (rid : Nat → Nat) (N : Nat) : Prop := ∀ x, x < N → x ∈ rl (rid x) ∧ (rl (rid x)).Nodup ∧ ∀ z, z ∈ rl (rid x) → z < N ∧ rid z = rid x
theorem rds_perm (h : Rds rl rid N) : PermOn (fun x => nxL (rl (rid x)) x) N := by
  refine ⟨fun x hx => ((h x hx).2.2 _ (nxL_mem (h x hx).1)).1, fun x y hx hy e => ?_⟩
  have h1 := ((h x hx).2.2 _ (nxL_mem (h x hx).1)).2
  have h2 := ((h y hy).2.2 _ (nxL_mem (h y hy).1)).2
  have e' : nxL (rl (rid x)) x = nxL (rl (rid y)) y := e
  rw [e', h2] at h1
  rw [h1] at e'
  exact nxL_inj (h x hx).2.1 (h x hx).1 (by rw [← h1]; exact (h y hy).1) e'
theorem rds_it (h : Rds rl rid N) {x : Nat} (hx : x < N) : ∀ k, it (fun x => nxL (rl (rid x)) x) k x = it (nxL (rl (rid x))) k x
  | 0 => rfl
  | k + 1 => by
    have ih := rds_it h hx k
    rw [it_succ', it_succ', ih]
    have hm := (nxL_it (h x hx).2.1 (h x hx).1 k).2
    rw [((h x hx).2.2 _ hm).2]
theorem rds_orb (h : Rds rl rid N) {x y : Nat} (hx : x < N) (hy : y < N) : Orb (fun x => nxL (rl (rid x)) x) x y ↔ rid x = rid y := by
  constructor
  · rintro ⟨k, hk⟩
    rw [rds_it h hx k] at hk
    have hm := (nxL_it (h x hx).2.1 (h x hx).1 k).2
    rw [hk] at hm
    exact ((h x hx).2.2 _ hm).2.symm
  · intro e
    have hy' := (h y hy).1
    rw [← e] at hy'
    have l1 := List.idxOf_lt_length_of_mem (h x hx).1
    have l2 := List.idxOf_lt_length_of_mem hy'
    refine ⟨(rl (rid x)).idxOf y + (rl (rid x)).length - (rl (rid x)).idxOf x, ?_⟩
    rw [rds_it h hx, (nxL_it (h x hx).2.1 (h x hx).1 _).1]
    have : ((rl (rid x)).idxOf x + ((rl (rid x)).idxOf y + (rl (rid x)).length - (rl (rid x)).idxOf x)) % (rl (rid x)).length = (rl (rid x)).idxOf y := by
      rw [show (rl (rid x)).idxOf x + ((rl (rid x)).idxOf y + (rl (rid x)).length - (rl (rid x)).idxOf x) = (rl (rid x)).idxOf y + (rl (rid x)).length by omega, Nat.add_mod_right, Nat.mod_eq_of_lt l2]
    rw [this, at_idx hy']
end RDS
/-! heirs -/
theorem hrK_spec (t : PTr) (c : Nat) : ∀ (f k : Nat), (hrK t c k f = -1 ∧ ∀ j, k ≤ j → j < k + f → tl t (tA t ((c + j) % tC t)) ≠ tl t (tA t c) - 1) ∨ ∃ j, k ≤ j ∧ j < k + f ∧ hrK t c k f = nI ((c + j) % tC t) ∧ tl t (tA t ((c + j) % tC t)) = tl t (tA t c) - 1 ∧ ∀ i, k ≤ i → i < j → tl t (tA t ((c + i) % tC t)) ≠ tl t (tA t c) - 1
  | 0, k => Or.inl ⟨rfl, fun j h1 h2 => absurd h2 (by omega)⟩
  | f + 1, k => by
    by_cases q : tl t (tA t ((c + k) % tC t)) = tl t (tA t c) - 1
    · refine Or.inr ⟨k, Nat.le_refl _, by omega, ?_, q, fun i h1 h2 => absurd h2 (by omega)⟩
      show (if _ then _ else _) = _
      rw [if_pos q]
    · have e : hrK t c k (f + 1) = hrK t c (k + 1) f := by
        show (if _ then _ else _) = _
        rw [if_neg q]
      rcases hrK_spec t c f (k + 1) with h | ⟨j, h1, h2, h3, h4, h5⟩
      · refine Or.inl ⟨e.trans h.1, fun j h1 h2 => ?_⟩
        by_cases ej : j = k
        · rw [ej]; exact q
        · exact h.2 j (by omega) (by omega)
      · refine Or.inr ⟨j, by omega, by omega, e.trans h3, h4, fun i h6 h7 => ?_⟩
        by_cases ei : i = k
        · rw [ei]; exact q
        · exact h5 i (by omega) h7
theorem hrV_spec (t : PTr) (c : Nat) : (hrV t c = -1 ∧ ∀ j, 1 ≤ j → j < tC t → tl t (tA t ((c + j) % tC t)) ≠ tl t (tA t c) - 1) ∨ ∃ j, 1 ≤ j ∧ j < tC t ∧ hrV t c = nI ((c + j) % tC t) ∧ tl t (tA t ((c + j) % tC t)) = tl t (tA t c) - 1 ∧ ∀ i, 1 ≤ i → i < j → tl t (tA t ((c + i) % tC t)) ≠ tl t (tA t c) - 1 := by
  have hp := tC_pos t
  rcases hrK_spec t c (tC t - 1) 1 with h | ⟨j, h1, h2, h3⟩
  · exact Or.inl ⟨h.1, fun j h1 h2 => h.2 j h1 (by omega)⟩
  · exact Or.inr ⟨j, h1, by omega, h3⟩
/-! the rounds of a tree's map -/
def bkc (t : PTr) (c k : Nat) : Nat := (c + tC t - k) % tC t
def bk (t : PTr) (c : Nat) : Nat → List Nat
  | 0 => []
  | k + 1 => bk t c k ++ (if hrV t (bkc t c (k + 1)) = nI c then [2 * bkc t c (k + 1) + 1] else [])
def vl (t : PTr) (v : Nat) : Nat → List Nat
  | 0 => []
  | c + 1 => vl t v c ++ (if tA t c = v then bk t c (tC t - 1) ++ [2 * c] else [])
def pl (t : PTr) : Nat → List Nat
  | 0 => []
  | k + 1 => pl t k ++ (if hrV t (tC t - 1 - k) = -1 then [2 * (tC t - 1 - k) + 1] else [])
theorem mem_bk {t : PTr} {c x : Nat} : ∀ {k : Nat}, x ∈ bk t c k ↔ ∃ j, 1 ≤ j ∧ j ≤ k ∧ x = 2 * bkc t c j + 1 ∧ hrV t (bkc t c j) = nI c
  | 0 => ⟨fun h => (by cases h), fun ⟨j, h1, h2, _⟩ => by omega⟩
  | k + 1 => by
    show x ∈ bk t c k ++ _ ↔ _
    rw [List.mem_append, mem_bk]
    constructor
    · rintro (⟨j, h1, h2, h3⟩ | h)
      · exact ⟨j, h1, by omega, h3⟩
      · by_cases q : hrV t (bkc t c (k + 1)) = nI c
        · rw [if_pos q] at h
          exact ⟨k + 1, by omega, Nat.le_refl _, by simpa using h, q⟩
        · rw [if_neg q] at h; cases h
    · rintro ⟨j, h1, h2, h3, h4⟩
      by_cases e : j = k + 1
      · subst e
        right; rw [if_pos h4, h3]; simp
      · exact Or.inl ⟨j, h1, by omega, h3, h4⟩
theorem mem_vl {t : PTr} {v x : Nat} : ∀ {n : Nat}, x ∈ vl t v n ↔ ∃ c, c < n ∧ tA t c = v ∧ (x ∈ bk t c (tC t - 1) ∨ x = 2 * c)
  | 0 => ⟨fun h => (by cases h), fun ⟨c, h1, _⟩ => by omega⟩
  | n + 1 => by
    show x ∈ vl t v n ++ _ ↔ _
    rw [List.mem_append, mem_vl]
    constructor
    · rintro (⟨c, h1, h2⟩ | h)
      · exact ⟨c, by omega, h2⟩
      · by_cases q : tA t n = v
        · rw [if_pos q, List.mem_append] at h
          exact ⟨n, by omega, q, by simpa using h⟩
        · rw [if_neg q] at h; cases h
    · rintro ⟨c, h1, h2, h3⟩
      by_cases e : c = n
      · subst e
        right; rw [if_pos h2, List.mem_append]; simpa using h3
      · exact Or.inl ⟨c, by omega, h2, h3⟩
theorem mem_pl {t : PTr} {x : Nat} : ∀ {n : Nat}, x ∈ pl t n ↔ ∃ k, k < n ∧ x = 2 * (tC t - 1 - k) + 1 ∧ hrV t (tC t - 1 - k) = -1
  | 0 => ⟨fun h => (by cases h), fun ⟨c, h1, _⟩ => by omega⟩
  | n + 1 => by
    show x ∈ pl t n ++ _ ↔ _
    rw [List.mem_append, mem_pl]
    constructor
    · rintro (⟨c, h1, h2⟩ | h)
      · exact ⟨c, by omega, h2⟩
      · by_cases q : hrV t (tC t - 1 - n) = -1
        · rw [if_pos q] at h
          exact ⟨n, by omega, by simpa using h, q⟩
        · rw [if_neg q] at h; cases h
    · rintro ⟨c, h1, h2, h3⟩
      by_cases e : c = n
      · subst e
        right; rw [if_pos h3]; simpa using h2
      · exact Or.inl ⟨c, by omega, h2, h3⟩
theorem bkc_lt (t : PTr) (c k : Nat) : bkc t c k < tC t := Nat.mod_lt _ (tC_pos t)
theorem bkc_eq {t : PTr} {c k : Nat} (hc : c < tC t) (hk : k ≤ tC t) : bkc t c k = if k ≤ c then c - k else c + tC t - k := by
  unfold bkc
  by_cases q : k ≤ c
  · rw [if_pos q, show c + tC t - k = (c - k) + tC t by omega, Nat.add_mod_right, Nat.mod_eq_of_lt (by omega)]
  · rw [if_neg q, Nat.mod_eq_of_lt (by omega)]
theorem bkc_inj {t : PTr} {c i j : Nat} (hc : c < tC t) (hi : 1 ≤ i ∧ i < tC t) (hj : 1 ≤ j ∧ j < tC t) (e : bkc t c i = bkc t c j) : i = j := by
  rw [bkc_eq hc (by omega), bkc_eq hc (by omega)] at e
  split at e <;> split at e <;> omega
theorem nodup_bk {t : PTr} {c : Nat} (hc : c < tC t) : ∀ {k : Nat}, k < tC t → (bk t c k).Nodup
  | 0, _ => List.nodup_nil
  | k + 1, hk => by
    show (bk t c k ++ _).Nodup
    rw [List.nodup_append]
    refine ⟨nodup_bk hc (by omega), by split <;> simp, fun a ha b hb e => ?_⟩
    by_cases q : hrV t (bkc t c (k + 1)) = nI c
    · rw [if_pos q] at hb
      obtain ⟨j, h1, h2, h3, -⟩ := mem_bk.mp ha
      have hb' : b = 2 * bkc t c (k + 1) + 1 := by simpa using hb
      have := bkc_inj hc (i := j) (j := k + 1) ⟨h1, by omega⟩ ⟨by omega, hk⟩ (by omega)
      omega
    · rw [if_neg q] at hb; cases hb
theorem nodup_vl {t : PTr} (hv : TV t) {v : Nat} : ∀ {n : Nat}, n ≤ tC t → (vl t v n).Nodup
  | 0, _ => List.nodup_nil
  | n + 1, hn => by
    have hC := tC_le hv
    have hp := tC_pos t
    show (vl t v n ++ _).Nodup
    rw [List.nodup_append]
    refine ⟨nodup_vl hv (by omega), ?_, fun a ha b hb e => ?_⟩
    · by_cases q : tA t n = v
      · rw [if_pos q, List.nodup_append]
        refine ⟨nodup_bk (by omega) (by omega), by simp, fun a ha b hb e => ?_⟩
        obtain ⟨j, h1, h2, h3, -⟩ := mem_bk.mp ha
        have hb' : b = 2 * n := by simpa using hb
        omega
      · rw [if_neg q]; exact List.nodup_nil
    · by_cases q : tA t n = v
      · rw [if_pos q, List.mem_append] at hb
        obtain ⟨c, h1, h2, h3⟩ := mem_vl.mp ha
        rcases h3 with h3 | h3
        · obtain ⟨j, k1, k2, k3, k4⟩ := mem_bk.mp h3
          rcases hb with hb | hb
          · obtain ⟨j', k1', k2', k3', k4'⟩ := mem_bk.mp hb
            have eb : bkc t c j = bkc t n j' := by omega
            rw [eb, k4'] at k4
            have := (nI_eq (by omega) (by omega)).mp k4
            omega
          · have hb' : b = 2 * n := by simpa using hb
            omega
        · rcases hb with hb | hb
          · obtain ⟨j', k1', k2', k3', k4'⟩ := mem_bk.mp hb
            omega
          · have hb' : b = 2 * n := by simpa using hb
            omega
      · rw [if_neg q] at hb; cases hb
theorem nodup_pl {t : PTr} : ∀ {n : Nat}, n ≤ tC t → (pl t n).Nodup
  | 0, _ => List.nodup_nil
  | n + 1, hn => by
    show (pl t n ++ _).Nodup
    rw [List.nodup_append]
    refine ⟨nodup_pl (by omega), by split <;> simp, fun a ha b hb e => ?_⟩
    by_cases q : hrV t (tC t - 1 - n) = -1
    · rw [if_pos q] at hb
      obtain ⟨c, h1, h2, h3⟩ := mem_pl.mp ha
      have hb' : b = 2 * (tC t - 1 - n) + 1 := by simpa using hb
      omega
    · rw [if_neg q] at hb; cases hb
/-- the round of a dart: a vertex of the tree, or the point -/
def hrN (t : PTr) (c : Nat) : Nat := (hrV t c).toNatClampNeg
def rid (t : PTr) (x : Nat) : Nat := if x % 2 = 0 then tA t (x / 2) else if hrV t (x / 2) = -1 then tn t + 1 else tA t (hrN t (x / 2))
def rlt (t : PTr) (r : Nat) : List Nat := if r ≤ tn t then vl t r (tC t) else pl t (tC t)
def trX (t : PTr) (x : Nat) : Nat := nxL (rlt t (rid t x)) x
def trM (t : PTr) (sg : Nat) : PMp := (tC t, sg, trX t)
theorem hr_cases {t : PTr} (hv : TV t) {c : Nat} (hc : c < tC t) : hrV t c = -1 ∨ ∃ j, 1 ≤ j ∧ j < tC t ∧ hrV t c = nI ((c + j) % tC t) ∧ hrN t c = (c + j) % tC t ∧ hrN t c < tC t ∧ bkc t (hrN t c) j = c := by
  have hC := tC_le hv
  rcases hrV_spec t c with h | ⟨j, h1, h2, h3, -⟩
  · exact Or.inl h.1
  · have hm := Nat.mod_lt (c + j) (tC_pos t)
    have e : hrN t c = (c + j) % tC t := by unfold hrN; rw [h3]; exact nI_clamp (by omega)
    refine Or.inr ⟨j, h1, h2, h3, e, by omega, ?_⟩
    rw [bkc_eq (by omega) (by omega), e]
    by_cases q : c + j < tC t
    · rw [Nat.mod_eq_of_lt q, if_pos (by omega)]; omega
    · have : (c + j) % tC t = c + j - tC t := by
        rw [Nat.mod_eq_sub_mod (by omega), Nat.mod_eq_of_lt (by omega)]
      rw [this, if_neg (by omega)]; omega
theorem hrN_of {t : PTr} (hv : TV t) {c e : Nat} (he : e < tC t) (h : hrV t c = nI e) : hrN t c = e ∧ hrV t c ≠ -1 := by
  have hC := tC_le hv
  unfold hrN
  rw [h]
  exact ⟨nI_clamp (by omega), nI_ne1 (by omega)⟩
theorem mem_vlC {t : PTr} (hv : TV t) {v x : Nat} : x ∈ vl t v (tC t) ↔ x < 2 * tC t ∧ ((x % 2 = 0 ∧ tA t (x / 2) = v) ∨ (x % 2 = 1 ∧ hrV t (x / 2) ≠ -1 ∧ tA t (hrN t (x / 2)) = v)) := by
  rw [mem_vl]
  constructor
  · rintro ⟨c, h1, h2, h3 | h3⟩
    · obtain ⟨j, k1, k2, k3, k4⟩ := mem_bk.mp h3
      have hl := bkc_lt t c j
      have ex : x / 2 = bkc t c j := by omega
      obtain ⟨a1, a2⟩ := hrN_of hv h1 k4
      refine ⟨by omega, Or.inr ⟨by omega, ?_, ?_⟩⟩
      · rw [ex]; exact a2
      · rw [ex, a1]; exact h2
    · have ex : x / 2 = c := by omega
      exact ⟨by omega, Or.inl ⟨by omega, by rw [ex]; exact h2⟩⟩
  · rintro ⟨h0, ⟨h1, h2⟩ | ⟨h1, h2, h3⟩⟩
    · exact ⟨x / 2, by omega, h2, Or.inr (by omega)⟩
    · rcases hr_cases hv (show x / 2 < tC t by omega) with q | ⟨j, k1, k2, k3, k4, k5, k6⟩
      · exact absurd q h2
      · refine ⟨hrN t (x / 2), k5, h3, Or.inl (mem_bk.mpr ⟨j, k1, by omega, ?_, ?_⟩)⟩
        · rw [k6]; omega
        · rw [k6, k3, k4]
theorem mem_plC {t : PTr} {x : Nat} : x ∈ pl t (tC t) ↔ x < 2 * tC t ∧ x % 2 = 1 ∧ hrV t (x / 2) = -1 := by
  have hp := tC_pos t
  rw [mem_pl]
  constructor
  · rintro ⟨k, h1, h2, h3⟩
    have : x / 2 = tC t - 1 - k := by omega
    exact ⟨by omega, by omega, by rw [this]; exact h3⟩
  · rintro ⟨h1, h2, h3⟩
    have : tC t - 1 - (tC t - 1 - x / 2) = x / 2 := by omega
    exact ⟨tC t - 1 - x / 2, by omega, by rw [this]; omega, by rw [this]; exact h3⟩
theorem rid_le {t : PTr} (hv : TV t) {x : Nat} (hx : x < 2 * tC t) : rid t x ≤ tn t + 1 := by
  unfold rid
  by_cases q : x % 2 = 0
  · rw [if_pos q]; have := tA_le hv (show x / 2 < tC t by omega); omega
  · rw [if_neg q]
    by_cases q2 : hrV t (x / 2) = -1
    · rw [if_pos q2]; exact Nat.le_refl _
    · rw [if_neg q2]
      rcases hr_cases hv (show x / 2 < tC t by omega) with z | ⟨j, k1, k2, k3, k4, k5, k6⟩
      · exact absurd z q2
      · have := tA_le hv k5; omega
theorem rlt_in {t : PTr} (hv : TV t) {x r : Nat} (hr : r ≤ tn t + 1) : x ∈ rlt t r ↔ x < 2 * tC t ∧ rid t x = r := by
  unfold rlt
  by_cases q : r ≤ tn t
  · rw [if_pos q, mem_vlC hv]
    constructor
    · rintro ⟨h0, h⟩
      refine ⟨h0, ?_⟩
      unfold rid
      rcases h with ⟨h1, h2⟩ | ⟨h1, h2, h3⟩
      · rw [if_pos h1]; exact h2
      · rw [if_neg (by omega), if_neg h2]; exact h3
    · rintro ⟨h0, h⟩
      refine ⟨h0, ?_⟩
      unfold rid at h
      by_cases q1 : x % 2 = 0
      · rw [if_pos q1] at h; exact Or.inl ⟨q1, h⟩
      · rw [if_neg q1] at h
        by_cases q2 : hrV t (x / 2) = -1
        · rw [if_pos q2] at h; omega
        · rw [if_neg q2] at h; exact Or.inr ⟨by omega, q2, h⟩
  · rw [if_neg q, mem_plC]
    have er : r = tn t + 1 := by omega
    constructor
    · rintro ⟨h0, h1, h2⟩
      refine ⟨h0, ?_⟩
      unfold rid
      rw [if_neg (by omega), if_pos h2, er]
    · rintro ⟨h0, h⟩
      unfold rid at h
      by_cases q1 : x % 2 = 0
      · rw [if_pos q1] at h
        have := tA_le hv (show x / 2 < tC t by omega)
        omega
      · rw [if_neg q1] at h
        by_cases q2 : hrV t (x / 2) = -1
        · exact ⟨h0, by omega, q2⟩
        · rw [if_neg q2] at h
          rcases hr_cases hv (show x / 2 < tC t by omega) with z | ⟨j, k1, k2, k3, k4, k5, k6⟩
          · exact absurd z q2
          · have := tA_le hv k5; omega
theorem rlt_nd {t : PTr} (hv : TV t) (r : Nat) : (rlt t r).Nodup := by
  unfold rlt
  split
  · exact nodup_vl hv (Nat.le_refl _)
  · exact nodup_pl (Nat.le_refl _)
theorem tr_Rds {t : PTr} (hv : TV t) : Rds (rlt t) (rid t) (2 * tC t) := fun x hx =>
  ⟨(rlt_in hv (rid_le hv hx)).mpr ⟨hx, rfl⟩, rlt_nd hv _, fun z hz => (rlt_in hv (rid_le hv hx)).mp hz⟩
theorem trM_PV {t : PTr} (hv : TV t) {sg : Nat} (hs : sg < 2) : PV (trM t sg) :=
  ⟨tC_le hv, rds_perm (tr_Rds hv), Or.inl (by show sg < 2 * tC t; have := tC_pos t; omega)⟩
