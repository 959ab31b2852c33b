/-! the reference: copies, codes, alike, rootings -/
section RFE
variable {L : Nat} {xs : Nat → Int32} {d : Nat} {M : ME} {st : ST}
def tCp (t : Nat) (k j : Nat) : Bool := match k with
  | 112 => j == t
  | 113 => j == t
  | 111 => Nat.ble (32 * t) j && Nat.ble j (32 * t + 31)
  | _ => false
theorem tCp_f {t k j : Nat} (h : k ≠ 111 ∧ k ≠ 112 ∧ k ≠ 113) : tCp t k j = false := by
  unfold tCp
  split
  all_goals first | omega | rfl
theorem bleb_f {a b j : Nat} (h : j < a ∨ b < j) : (Nat.ble a j && Nat.ble j b) = false := by
  rw [Bool.and_eq_false_iff]
  rcases h with h | h
  · left
    cases w : Nat.ble a j with
    | false => rfl
    | true => have := Nat.le_of_ble_eq_true w; omega
  · right
    cases w : Nat.ble j b with
    | false => rfl
    | true => have := Nat.le_of_ble_eq_true w; omega
theorem tCp_1 {t j : Nat} (h : 32 * t ≤ j) (h2 : j ≤ 32 * t + 31) : tCp t 111 j = true := bleb h h2
theorem tCp_o {s t j : Nat} (h : s ≠ t) (hj : j < 32) : tCp t 111 (32 * s + j) = false := bleb_f (by omega)
theorem tCp_q {s t : Nat} (h : s ≠ t) : tCp t 112 s = false ∧ tCp t 113 s = false := ⟨by show (s == t) = false; simp [h], by show (s == t) = false; simp [h]⟩
theorem tCp_p {t : Nat} : tCp t 112 t = true ∧ tCp t 113 t = true := ⟨by show (t == t) = true; simp, by show (t == t) = true; simp⟩
theorem rM_cp {s t : Nat} {m : PMp} {M' : ME} (hN : pN m ≤ 32) (h : rM M s m) (hst : s ≠ t) (f : Fr (tCp t) M M') : rM M' s m := rM_fr h f (tCp_q hst).1 (tCp_q hst).2 (fun x hx => tCp_o hst (by omega))
theorem copies_ev {s t : Nat} {m : PMp} (hs : s < 5) (ht : t < 5) (hm : PV m) (hr : rM M s m) : EvV (E0 L xs) (d + 1) m10_copies [.ref 110, .int (nI s), .int (nI t)] M (fun M' => Fr (tCp t) M M' ∧ rM M' t m) := by
  have hN := MV_N hm
  refine Ev_of k10_copies rfl (Nat.le_of_ble_eq_true rfl) (b10_copies_0 s rfl hs t rfl ht s rfl hs t rfl ht ?_)
  have f0 : Fr (tCp t) M (sI (sI M 112 t (gI M 112 s)) 113 t (gI M 113 s)) := Fr_sI (Fr_sI (Fr_refl _ _) tCp_p.1) tCp_p.2
  suffices hloop : ∀ (q i : Nat) (M1 : ME), i + q = 32 → Fr (tCp t) M M1 → M1.1 112 t = M.1 112 s → M1.1 113 t = M.1 113 s → (∀ x, x < 32 → M1.1 111 (32 * s + x) = M.1 111 (32 * s + x)) → (∀ x, x < i → M1.1 111 (32 * t + x) = M.1 111 (32 * s + x)) → Wp (E0 L xs) (d + 1) m10_copies 26 [.ref 110, .int (nI s), .int (nI t), .int (nI i)] [] M1 (fun v M' => v = none ∧ (Fr (tCp t) M M' ∧ rM M' t m)) by
    refine hloop 32 0 _ (by omega) f0 ?_ (sI_eq _ _ _ _) (fun x hx => ?_) (fun x hx => absurd hx (Nat.not_lt_zero _))
    · rw [sI_ne (Or.inl (by decide)), sI_eq]
    · rw [sI_ne (Or.inl (by decide)), sI_ne (Or.inl (by decide))]
  intro q
  induction q with
  | zero =>
    intro i M1 hi f g0 g1 g2 g3
    have : i = 32 := by omega
    subst this
    exact b10_copies_26 (fun _ => b10_copies_50 ⟨rfl, f, g0.trans hr.1, g1.trans hr.2.1, fun x hx => (g3 x (by omega)).trans (hr.2.2 x hx)⟩) (fun h => absurd (by decide) h)
  | succ q ih =>
    intro i M1 hi f g0 g1 g2 g3
    refine b10_copies_26 (fun h => absurd ((nI_leI (a := 32) (b := i) (by decide) (by omega)).mp h) (by omega)) (fun _ => b10_copies_32 (32 * s + i) (i32m s i) (by omega) (32 * t + i) (i32m t i) (by omega) ?_)
    rw [nI_1]
    refine ih (i + 1) _ (by omega) (Fr_sI f (tCp_1 (by omega) (by omega))) ((sI_ne (Or.inl (by decide))).trans g0) ((sI_ne (Or.inl (by decide))).trans g1) (fun x hx => ?_) (fun x hx => ?_)
    · rw [sI_at]
      by_cases e : 32 * s + x = 32 * t + i
      · have : s = t ∧ x = i := by omega
        rw [if_pos ⟨rfl, e⟩, this.2]
        exact g2 i (by omega)
      · rw [if_neg (fun z => e z.2)]; exact g2 x hx
    · rw [sI_at]
      by_cases e : x = i
      · rw [if_pos ⟨rfl, by rw [e]⟩, e]; exact g2 i (by omega)
      · rw [if_neg (fun z => e (by have := z.2; omega))]; exact g3 x (by omega)
theorem tCd_sr {M' : ME} {r : Nat} (f : Fr (tCd r) M M') : Fr tSr M M' := Fr_mono f (fun k j q => by
  unfold tCd
  split
  · cases q
  · cases q
  · cases q
  · rfl)
theorem tCp_sr {M' : ME} (f : Fr (tCp 4) M M') : Fr tSr M M' := Fr_mono f (fun k j q => by
  unfold tCp
  split
  · exact q
  · exact q
  · have q' : Nat.ble 128 j = false := q
    show (Nat.ble (32 * 4) j && _) = false
    rw [show 32 * 4 = 128 from rfl, q']; rfl
  · rfl)
/-- the code from x on stands in row r -/
def cdR (M : ME) (m : PMp) (x r : Nat) : Prop := ∀ i, i < pN m → M.1 128 (32 * r + i) = cdV m x i
theorem rcode_ev {s x r : Nat} {m : PMp} (hs : s < 5) (hr : r < 2) (hm : PV m) (hc : Conn m) (hrM : rM M s m) (hx : x < pN m) : EvV (E0 L xs) (d + 1) m10_laysCode [.ref 110, .int (nI s), .int (nI x), .int (nI r)] M (fun M' => Fr (tCd r) M M' ∧ cdR M' m x r) :=
  EvV_post (laysCode_ev hs hr hm hrM (Or.inl hx)) (fun M' h => ⟨h.1, fun i hi => h.2 (by have : x < 2 * m.1 := hx; show 0 < m.1; omega) i (by rw [cdL_len hm hc hx]; exact hi)⟩)
theorem cdR_o {m : PMp} {x : Nat} {M' : ME} (hN : pN m ≤ 32) (h : cdR M m x 0) (f : Fr (tCd 1) M M') : cdR M' m x 0 := fun i hi => (f.1 128 _ (bleb_f (by omega))).trans (h i hi)
theorem rM_cd {s r : Nat} {m : PMp} {M' : ME} (h : rM M s m) (f : Fr (tCd r) M M') : rM M' s m := rM_fr h f rfl rfl (fun _ _ => rfl)
theorem areAlike_ev {m m' : PMp} {x y n : Nat} (hn : n = pN m) (hn' : n = pN m') (hN : n ≤ 32) (h0 : cdR M m x 0) (h1 : cdR M m' y 1) : EvI (E0 L xs) d m10_areAlike [.ref 110, .int (nI n)] M (fun r M' => r = b2i (smC m x m' y n) ∧ M' = M) := by
  refine Ev_of k10_areAlike rfl (Nat.le_of_ble_eq_true rfl) (b10_areAlike_0 ?_)
  suffices hloop : ∀ (q i : Nat), i + q = n → (∀ j, j < i → cdV m x j = cdV m' y j) → Wp (E0 L xs) d m10_areAlike 2 [.ref 110, .int (nI n), .int (nI i)] [] M (fun v M' => ∃ r, v = some (.int r) ∧ (r = b2i (smC m x m' y n) ∧ M' = M)) by
    exact hloop n 0 (by omega) (fun j hj => absurd hj (Nat.not_lt_zero _))
  intro q
  induction q with
  | zero =>
    intro i hi hf
    have : i = n := by omega
    subst this
    refine b10_areAlike_2 (fun _ => b10_areAlike_33 ⟨_, rfl, ?_, rfl⟩) (fun h => absurd (nI_le (Nat.le_refl _) (by omega)) h)
    rw [show smC m x m' y i = true from alB_iff.mpr (fun j hj => decide_eq_true (hf j hj))]; rfl
  | succ q ih =>
    intro i hi hf
    have a1 : gI M 128 i = cdV m x i := by have := h0 i (by omega); rw [Nat.mul_zero, Nat.zero_add] at this; exact this
    have a2 : gI M 128 (32 + i) = cdV m' y i := h1 i (by omega)
    refine b10_areAlike_2 (fun h => absurd ((nI_leI (by omega) (by omega)).mp h) (by omega)) (fun _ => b10_areAlike_7 i rfl (by omega) (32 + i) (nI_add 32 i) (by omega) (fun h => b10_areAlike_27 ?_) (fun h => b10_areAlike_25 ⟨_, rfl, ?_, rfl⟩))
    · rw [nI_1]
      refine ih (i + 1) (by omega) (fun j hj => ?_)
      by_cases e : j = i
      · rw [e, ← a1, ← a2]; exact h
      · exact hf j (by omega)
    · rw [show smC m x m' y n = false from alB_f ⟨i, by omega, decide_eq_false (fun z => h (by rw [a1, a2]; exact z))⟩]; rfl
theorem r_code (hS : RefS M st) (hok : StOK st) {x i : Int32} : EvI (E0 L xs) (d + 3) m10_code [.ref 110, .int x, .int i] M (Rq M st (aCode st x i)) := by
  have no : ∀ {M1 : ME}, M1 = sI M 110 0 0 → ¬ (vp_in x 4 ∧ vp_in i (pN (sM st x.toNatClampNeg))) → Wp (E0 L xs) (d + 3) m10_code 22 [.ref 110, .int x, .int i] [] M1 (fun v' M' => ∃ r, v' = some (.int r) ∧ Rq M st (aCode st x i) r M') := fun e h => b10_code_22 ⟨_, rfl, by rw [e, show aCode st x i = -1 from cIf_neg h _ _]; exact Rq_sc hok hS (tld M)⟩
  refine Ev_of k10_code rfl (Nat.le_of_ble_eq_true rfl) (b10_code_0 (fun h => ?_) (fun h => no rfl (fun q => h q.1)))
  have h' := h
  obtain ⟨j, hj, rfl, ej⟩ := in_j h (by decide)
  have hm := hok.2.2 j hj
  have hN := MV_N hm.1
  have hS1 := tld_S hok hS
  have hj5 : j < 5 := by omega
  rw [ej] at no
  refine b10_code_13 (isDart_ev (d := d + 1) hj5 hm.1 (hS1.2.2.2.2 j hj)) (fun r M1 hr => ?_)
  obtain ⟨hr, rfl⟩ := hr
  rcases hr with ⟨rfl, h2⟩ | ⟨rfl, h2⟩
  · have ea : aCode st (nI j) i = cdV (sM st j) (pR (sM st j)) i.toNatClampNeg := by unfold aCode; rw [ej]; exact cIf_pos ⟨h', h2⟩ _ _
    rw [ea]
    obtain ⟨i', hi', rfl, ei⟩ := in_j h2 (by omega)
    rw [ei]
    have hr : pR (sM st j) < pN (sM st j) := by
      rcases rt_lt hm.1 with q | q
      · exact q
      · have : i' < 2 * (sM st j).1 := hi'; have : (sM st j).1 = 0 := q.1; omega
    have e1 : gI (sI M 110 0 0) 113 j = nI (pR (sM st j)) := (hS1.2.2.2.2 j hj).2.1
    refine b10_code_19 (fun _ => b10_code_24 (R' := fun M' => Fr (tCd 0) (sI M 110 0 0) M' ∧ cdR M' (sM st j) (pR (sM st j)) 0) j rfl hj5 (by rw [e1]; exact rcode_ev (d := d + 1) (r := 0) hj5 (by decide) hm.1 hm.2.1 (hS1.2.2.2.2 j hj) hr) (fun M3 h4 => b10_code_36 i' rfl (by omega) ⟨_, rfl, ?_⟩)) (fun h => absurd h (by decide))
    have e2 := h4.2 i' hi'
    rw [Nat.mul_zero, Nat.zero_add] at e2
    rw [show gI M3 128 i' = _ from e2]
    exact Rq_sc hok hS (Fr_trans (tld M) (tCd_sr h4.1))
  · exact b10_code_19 (fun h => absurd rfl h) (fun _ => no rfl (fun q => h2 q.2))
theorem rtC_pos {m m' : PMp} {n : Nat} : 0 < rtC m m' n ↔ ∃ y, y < n ∧ smC m (pR m) m' y (pN m') = true := by
  constructor
  · intro h
    refine Classical.byContradiction fun hc => ?_
    have : rtC m m' n = 0 := cnB_none (fun i hi => Bool.eq_false_iff.mpr (fun z => hc ⟨i, hi, z⟩))
    omega
  · rintro ⟨y, hy, h⟩
    rcases Nat.eq_zero_or_pos (rtC m m' n) with z | z
    · exfalso
      have key : ∀ n, cnB (fun y => smC m (pR m) m' y (pN m')) n = 0 → ∀ y, y < n → smC m (pR m) m' y (pN m') = false := by
        intro n
        induction n with
        | zero => intro _ y hy; omega
        | succ n ih =>
          intro h0 y hy
          have h1 : cnB (fun y => smC m (pR m) m' y (pN m')) n + (if smC m (pR m) m' n (pN m') = true then 1 else 0) = 0 := h0
          by_cases e : y = n
          · cases q : smC m (pR m) m' n (pN m') with
            | false => rw [e]; exact q
            | true => rw [if_pos q] at h1; omega
          · exact ih (by omega) y (by omega)
      have := key n z y hy
      rw [h] at this; cases this
    · exact z
theorem r_alike (hS : RefS M st) (hok : StOK st) {x y w : Int32} : EvI (E0 L xs) (d + 3) m10_alike [.ref 110, .int x, .int y, .int w] M (Rq M st (aAlike st x y w)) := by
  have hiw : (0 ≤ w.toInt64 ∧ w.toInt64 ≤ 2) ↔ vp_in w 3 := in_iff rfl
  have no : ¬ (vp_in x 4 ∧ vp_in y 4 ∧ vp_in w 3) → Wp (E0 L xs) (d + 3) m10_alike 34 [.ref 110, .int x, .int y, .int w, .null, .null] [] (sI M 110 0 0) (fun v' M' => ∃ r, v' = some (.int r) ∧ Rq M st (aAlike st x y w) r M') := fun h => b10_alike_34 ⟨_, rfl, by rw [show aAlike st x y w = -1 from cIf_neg h _ _]; exact Rq_sc hok hS (tld M)⟩
  refine Ev_of k10_alike rfl (Nat.le_of_ble_eq_true rfl) (b10_alike_0 (fun h1 => b10_alike_13 (fun h2 => b10_alike_21 (fun h3 => ?_) (fun h => no (fun q => h (hiw.mpr q.2.2)))) (fun h => no (fun q => h q.2.1))) (fun h => no (fun q => h q.1)))
  have hw := hiw.mp h3
  rw [show aAlike st x y w = _ from cIf_pos ⟨h1, h2, hw⟩ _ _]
  obtain ⟨j, hj, rfl, ej⟩ := in_j h1 (by decide)
  obtain ⟨i, hi, rfl, ei⟩ := in_j h2 (by decide)
  rw [ej, ei]
  have hm := hok.2.2 j hj
  have hm' := hok.2.2 i hi
  have hS1 := tld_S hok hS
  have hrj : rM (sI M 110 0 0) j (sM st j) := hS1.2.2.2.2 j hj
  have hri : rM (sI M 110 0 0) i (sM st i) := hS1.2.2.2.2 i hi
  have hj5 : j < 5 := by omega
  have hi5 : i < 5 := by omega
  generalize sM st j = m at *
  generalize sM st i = m' at *
  have hN := MV_N hm.1
  have hN' := MV_N hm'.1
  have hEl : m.1 ≤ 16 := hm.1.1
  have hEl' : m'.1 ≤ 16 := hm'.1.1
  have e0 : gI (sI M 110 0 0) 112 j = nI m.1 := hrj.1
  have e0' : gI (sI M 110 0 0) 112 i = nI m'.1 := hri.1
  have fin : ∀ {r : Int32} {M3 : ME}, Fr tSr M M3 → r = alk m m' w → ∃ r', some (Value.int r) = some (.int r') ∧ Rq M st (alk m m' w) r' M3 := fun {r M3} f h => ⟨_, rfl, by rw [h]; exact Rq_sc hok hS f⟩
  refine b10_alike_36 j rfl hj5 i rfl hi5 (fun h => ?_) (fun h => b10_alike_51 (fin (tld M) ?_))
  rotate_left
  · rw [e0, e0'] at h
    unfold alk
    rw [if_pos (fun z => h (by rw [show m.1 = m'.1 from z]))]
  rw [e0, e0'] at h
  have hE : m.1 = m'.1 := (nI_eq (by omega) (by omega)).mp h
  have hNN : pN m = pN m' := by show 2 * m.1 = 2 * m'.1; rw [hE]
  refine b10_alike_53 j rfl hj5 (fun h4 => ?_) (fun h4 => b10_alike_62 (fin (tld M) ?_))
  rotate_left
  · rw [e0] at h4
    unfold alk
    rw [if_neg (not_not_intro (show pE m = pE m' from hE)), if_pos (show pE m = 0 from (nI_eq (b := 0) (show m.1 < _ by omega) (by decide)).mp h4)]
  rw [e0] at h4
  have hE0 : ¬ pE m = 0 := fun z => h4 (by rw [show m.1 = 0 from z]; rfl)
  have hrt : pR m < pN m := by
    rcases rt_lt hm.1 with q | q
    · exact q
    · exact absurd q.1 hE0
  have hrt' : pR m' < pN m' := by
    rcases rt_lt hm'.1 with q | q
    · exact q
    · exact absurd (show pE m = 0 from hE.trans q.1) hE0
  -- the search with slot b, map mb
  have search : ∀ (b : Nat) (mb : PMp) (M1 : ME), b < 5 → PV mb → Conn mb → pE mb = pE m → Fr tSr M M1 → rM M1 j m → rM M1 b mb → M1.1 113 i = nI (pR m') → alk m m' w = b2i (anB (fun z => (decide (w = 0 → z = pR m')) && smC m (pR m) mb z (pN m)) (pN m)) → Wp (E0 L xs) (d + 3) m10_alike 114 [.ref 110, .int (nI j), .int (nI i), .int w, .int (nI b), .null] [] M1 (fun v' M' => ∃ r, v' = some (.int r) ∧ Rq M st (alk m m' w) r M') := by
    intro b mb M1 hb hv hcb hEb f1 hrj1 hrb1 hri1 ea
    have hNb : pN mb = pN m := by show 2 * mb.1 = 2 * m.1; rw [show mb.1 = m.1 from hEb]
    have e1 : gI M1 113 j = nI (pR m) := hrj1.2.1
    refine b10_alike_114 (R' := fun M' => Fr (tCd 0) M1 M' ∧ cdR M' m (pR m) 0) j rfl hj5 (by rw [e1]; exact rcode_ev (d := d + 1) (r := 0) hj5 (by decide) hm.1 hm.2.1 hrj1 hrt) (fun M2 h5 => b10_alike_126 ?_)
    have f2 := Fr_trans f1 (tCd_sr h5.1)
    have hrj2 := rM_cd hrj1 h5.1
    have hrb2 := rM_cd hrb1 h5.1
    have hri2 : M2.1 113 i = nI (pR m') := (h5.1.1 113 i rfl).trans hri1
    suffices hloop : ∀ (q z : Nat) (M3 : ME), z + q = pN m → Fr tSr M M3 → rM M3 j m → rM M3 b mb → M3.1 113 i = nI (pR m') → cdR M3 m (pR m) 0 → anB (fun z => (decide (w = 0 → z = pR m')) && smC m (pR m) mb z (pN m)) z = false → Wp (E0 L xs) (d + 3) m10_alike 129 [.ref 110, .int (nI j), .int (nI i), .int w, .int (nI b), .int (nI z)] [] M3 (fun v' M' => ∃ r, v' = some (.int r) ∧ Rq M st (alk m m' w) r M') by
      exact hloop (pN m) 0 M2 (by omega) f2 hrj2 hrb2 hri2 h5.2 rfl
    intro q
    induction q with
    | zero =>
      intro z M3 hz f3 a1 a2 a3 a4 a5
      have : z = pN m := by omega
      subst this
      have e2 : 2 * gI M3 112 b = nI (pN m) := by rw [show gI M3 112 b = _ from a2.1, ← hNb]; exact pk_mul 2 _
      refine b10_alike_129 b rfl hb (fun _ => b10_alike_187 (fin f3 ?_)) (fun h => absurd (by rw [e2]; exact nI_le (Nat.le_refl _) (by omega)) h)
      rw [ea, a5]; rfl
    | succ q ih =>
      intro z M3 hz f3 a1 a2 a3 a4 a5
      have e2 : 2 * gI M3 112 b = nI (pN m) := by rw [show gI M3 112 b = _ from a2.1, ← hNb]; exact pk_mul 2 _
      have es : ∀ bb, (decide (w = 0 → z = pR m') && smC m (pR m) mb z (pN m)) = bb → anB (fun z => (decide (w = 0 → z = pR m')) && smC m (pR m) mb z (pN m)) (z + 1) = bb := fun bb h => by
        show (anB _ z || (decide (w = 0 → z = pR m') && smC m (pR m) mb z (pN m))) = bb
        rw [a5, h, Bool.false_or]
      have take : (w = 0 → z = pR m') → Wp (E0 L xs) (d + 3) m10_alike 158 [.ref 110, .int (nI j), .int (nI i), .int w, .int (nI b), .int (nI z)] [] M3 (fun v' M' => ∃ r, v' = some (.int r) ∧ Rq M st (alk m m' w) r M') := by
        intro hw0
        refine b10_alike_158 (rcode_ev (d := d + 1) (r := 1) hb (by decide) hv hcb a2 (by omega)) (fun M4 h6 => ?_)
        have b1 := rM_cd a1 h6.1
        have b4 : cdR M4 m (pR m) 0 := cdR_o hN a4 h6.1
        have e3 : 2 * gI M4 112 j = nI (pN m) := by rw [show gI M4 112 j = _ from b1.1]; exact pk_mul 2 _
        refine b10_alike_167 (R' := fun r M' => r = b2i (smC m (pR m) mb z (pN m)) ∧ M' = M4) j rfl hj5 (by rw [e3]; exact areAlike_ev rfl hNb.symm hN b4 h6.2) (fun r M5 hr => ?_)
        obtain ⟨rfl, rfl⟩ := hr
        have f5 := Fr_trans f3 (tCd_sr h6.1)
        cases qs : smC m (pR m) mb z (pN m) with
        | true =>
          refine b10_alike_176 (fun h => absurd h (by decide)) (fun _ => b10_alike_179 (fin f5 ?_))
          have : anB (fun z => (decide (w = 0 → z = pR m')) && smC m (pR m) mb z (pN m)) (pN m) = true := anB_iff.mpr ⟨z, by omega, by rw [qs, decide_eq_true hw0]; rfl⟩
          rw [ea, this]; rfl
        | false =>
          refine b10_alike_176 (fun _ => b10_alike_181 ?_) (fun h => absurd rfl h)
          rw [nI_1]
          exact ih (z + 1) M5 (by omega) f5 b1 (rM_cd a2 h6.1) ((h6.1.1 113 i rfl).trans a3) b4 (es _ (by rw [qs, Bool.and_false]))
      have hrz : pR m' < 2 ^ 31 := by omega
      refine b10_alike_129 b rfl hb (fun h => absurd ((nI_leI (a := pN m) (b := z) (by omega) (by omega)).mp (by rw [← e2]; exact h)) (by omega)) (fun _ => b10_alike_140 (fun h => take (fun z => absurd z h)) (fun h => b10_alike_144 i rfl hi5 (fun h6 => take (fun _ => ?_)) (fun h6 => b10_alike_155 (b10_alike_181 ?_))))
      · rw [show gI M3 113 i = _ from a3] at h6
        exact (nI_eq (by omega) hrz).mp h6
      · rw [show gI M3 113 i = _ from a3] at h6
        rw [nI_1]
        exact ih (z + 1) M3 (by omega) f3 a1 a2 a3 a4 (es _ (by rw [decide_eq_false (fun z' => h6 (by rw [z' h])), Bool.false_and]))
  have alk1 : ∀ mb, pN mb = pN m → (if w = 0 then b2i (smC m (pR m) m' (pR m') (pN m')) else b2i (decide (0 < rtC m mb (pN m')))) = b2i (anB (fun z => (decide (w = 0 → z = pR m')) && smC m (pR m) (if w = 0 then m' else mb) z (pN m)) (pN m)) := by
    intro mb hmb
    by_cases q : w = 0
    · rw [if_pos q, if_pos q]
      congr 1
      rw [Bool.eq_iff_iff, anB_iff]
      constructor
      · intro h6
        exact ⟨pR m', by omega, by rw [decide_eq_true (fun _ => rfl), hNN, h6]; rfl⟩
      · rintro ⟨z, hz, h6⟩
        rw [Bool.and_eq_true, decide_eq_true_iff] at h6
        have := h6.1 q
        subst this
        rw [← hNN]; exact h6.2
    · rw [if_neg q, if_neg q]
      congr 1
      rw [Bool.eq_iff_iff, decide_eq_true_iff, rtC_pos, anB_iff]
      constructor
      · rintro ⟨z, hz, h6⟩
        exact ⟨z, by omega, by rw [decide_eq_true (fun z' => absurd z' q), ← hmb, h6]; rfl⟩
      · rintro ⟨z, hz, h6⟩
        rw [Bool.and_eq_true] at h6
        exact ⟨z, by omega, by rw [hmb]; exact h6.2⟩
  refine b10_alike_64 (fun h5 => ?_) (fun h5 => b10_alike_72 (copies_ev (d := d + 1) (t := 4) hi5 (by decide) hm'.1 hri) (fun M2 h6 => b10_alike_78 ?_))
  · refine search i m' _ hi5 hm'.1 hm'.2.1 hE.symm (tld M) hrj hri hri.2.1 ?_
    have := alk1 m' hNN.symm
    rw [show (if w = 0 then m' else m') = m' by split <;> rfl] at this
    rw [← this]
    unfold alk
    rw [if_neg (not_not_intro (show pE m = pE m' from hE)), if_neg hE0, if_neg h5]
  · -- mirrored into the fifth slot
    have fp := tCp_sr h6.1
    have f2 := Fr_trans (tld M) fp
    have ij : i ≠ 4 ∧ j ≠ 4 := by omega
    have hri2 := rM_cp hN' hri ij.1 h6.1
    have hrj2 := rM_cp hN hrj ij.2 h6.1
    suffices hloop : ∀ (q z : Nat) (M3 : ME), z + q = pN m' → Fr (tCp 4) M2 M3 → M3.1 112 4 = nI (pE m') → M3.1 113 4 = nI (pR m') → (∀ u, u < z → M3.1 111 (32 * 4 + pX m' u) = nI u) → Wp (E0 L xs) (d + 3) m10_alike 81 [.ref 110, .int (nI j), .int (nI i), .int w, .int (nI i), .int (nI z)] [] M3 (fun v' M' => ∃ r, v' = some (.int r) ∧ Rq M st (alk m m' w) r M') by
      exact hloop (pN m') 0 M2 (by omega) (Fr_refl _ _) h6.2.1 h6.2.2.1 (fun u hu => absurd hu (Nat.not_lt_zero _))
    intro q
    induction q with
    | zero =>
      intro z M3 hz f3 a1 a2 a3
      have : z = pN m' := by omega
      subst this
      have hri3 := rM_cp hN' hri2 ij.1 f3
      have hrj3 := rM_cp hN hrj2 ij.2 f3
      have e2 : 2 * gI M3 112 i = nI (pN m') := by rw [show gI M3 112 i = _ from hri3.1]; exact pk_mul 2 _
      refine b10_alike_81 i rfl hi5 (fun _ => b10_alike_111 ?_) (fun h => absurd (by rw [e2]; exact nI_le (Nat.le_refl _) (by omega)) h)
      refine search 4 (mir m') M3 (by decide) (mir_PV hm'.1) (mir_Conn hm'.1 hm'.2.1) hE.symm (Fr_trans f2 (tCp_sr f3)) hrj3 ⟨a1, a2, fun u hu => ?_⟩ hri3.2.1 ?_
      · obtain ⟨v, hv, rfl⟩ := perm_sur hm'.1.2.1 (show u < pN m' from hu)
        rw [a3 v hv]
        show _ = nI (ivF (pX m') (pN m') (pX m' v))
        rw [iv_l hm'.1.2.1 hv]
      · have := alk1 (mir m') hNN.symm
        have hw0 : ¬ w = 0 := fun z => by rw [h5] at z; exact absurd z (by decide)
        rw [if_neg hw0, if_neg hw0] at this
        rw [← this]
        unfold alk
        rw [if_neg (not_not_intro (show pE m = pE m' from hE)), if_neg hE0, if_neg hw0, if_pos h5]
    | succ q ih =>
      intro z M3 hz f3 a1 a2 a3
      have hri3 := rM_cp hN' hri2 ij.1 f3
      have hz' : z < pN m' := by omega
      have hX := hm'.1.2.1.1 z hz'
      have e2 : 2 * gI M3 112 i = nI (pN m') := by rw [show gI M3 112 i = _ from hri3.1]; exact pk_mul 2 _
      have e3 : gI M3 111 (32 * i + z) = nI (pX m' z) := hri3.2.2 z hz'
      refine b10_alike_81 i rfl hi5 (fun h => absurd ((nI_leI (a := pN m') (b := z) (by omega) (by omega)).mp (by rw [← e2]; exact h)) (by omega)) (fun _ => b10_alike_91 (32 * i + z) (i32m i z) (by omega) (32 * 4 + pX m' z) (by rw [e3]; exact i32m 4 _) (by omega) ?_)
      rw [nI_1]
      refine ih (z + 1) _ (by omega) (Fr_sI f3 (tCp_1 (by omega) (by omega))) ((sI_ne (Or.inl (by decide))).trans a1) ((sI_ne (Or.inl (by decide))).trans a2) (fun u hu => ?_)
      rw [sI_at]
      by_cases e : u = z
      · rw [e, if_pos ⟨rfl, rfl⟩]
      · rw [if_neg (fun z' => e (hm'.1.2.1.2 u z (by omega) hz' (by have := z'.2; omega)))]
        exact a3 u (by omega)
/-- no dart ahead has this code -/
def nwC (m : PMp) (x : Nat) : Bool := !anB (fun y => smC m x m y (pN m)) x
def nwN (m : PMp) (n : Nat) : Nat := cnB (nwC m) n
end RFE
