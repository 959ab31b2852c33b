/-! the class: rounds numbered -/
def tR1 (a : Nat) (k _j : Nat) : Bool := k == a
def tR2 (a b : Nat) (k _j : Nat) : Bool := k == a || k == b
theorem tR1_f {a k j : Nat} (h : k ≠ a) : tR1 a k j = false := by simp [tR1, h]
theorem tR2_f {a b k j : Nat} (h : k ≠ a) (h2 : k ≠ b) : tR2 a b k j = false := by simp [tR2, h, h2]
/-- a row of numbers up to dart d; within the walk from d, i darts passed -/
def rwD (g : Nat → Nat) (N d x : Nat) : Int32 := if x < N ∧ mn g N x < d then nI (lbO g N x) else -1
def rwI (g : Nat → Nat) (N d i x : Nat) : Int32 := if (x < N ∧ mn g N x < d) ∨ inO g d i x = true then nI (lbO g N x) else -1
section Rw
variable {g : Nat → Nat} {N d p i x : Nat}
theorem rwD_skip (hp : PermOn g N) (hm : mn g N d ≠ d) : rwD g N (d + 1) x = rwD g N d x := by
  refine ite_congr (propext ?_) (fun _ => rfl) (fun _ => rfl)
  constructor
  · rintro ⟨a, b⟩
    refine ⟨a, ?_⟩
    by_cases q : mn g N x = d
    · exact absurd (by rw [← q]; exact mn_mn hp a) hm
    · omega
  · rintro ⟨a, b⟩; exact ⟨a, by omega⟩
theorem rwI_0 : rwI g N d 0 x = rwD g N d x :=
  ite_congr (propext ⟨fun q => q.elim id (fun z => by cases z), Or.inl⟩) (fun _ => rfl) (fun _ => rfl)
theorem rwI_p (hg : PermOn g N) (hd : d < N) (hp0 : 0 < p) (hpd : it g p d = d) (hm : mn g N d = d) : rwI g N d p x = rwD g N (d + 1) x := by
  refine ite_congr (propext ?_) (fun _ => rfl) (fun _ => rfl)
  rw [wk_all hg hd hp0 hpd hm]
  constructor
  · rintro (⟨a, b⟩ | ⟨a, b⟩) <;> exact ⟨a, by omega⟩
  · rintro ⟨a, b⟩
    by_cases q : mn g N x = d
    · exact Or.inr ⟨a, q⟩
    · exact Or.inl ⟨a, by omega⟩
theorem rwI_s (hg : PermOn g N) (hd : d < N) (hm : mn g N d = d) : rwI g N d (i + 1) x = if x = it g i d then nI (rkO g N d) else rwI g N d i x := by
  by_cases e : x = it g i d
  · rw [if_pos e]
    show (if _ then _ else _) = _
    rw [if_pos (Or.inr (inO_succ.mpr (Or.inr e.symm)))]
    show nI (rkO g N (mn g N x)) = _
    rw [e, ← (mn_eq hg hd (it_lt hg.1 i d hd)).mpr ⟨i, rfl⟩, hm]
  · rw [if_neg e]
    refine ite_congr (propext (or_congr Iff.rfl ?_)) (fun _ => rfl) (fun _ => rfl)
    rw [inO_succ]; exact ⟨fun q => q.elim id (fun z => absurd z.symm e), Or.inl⟩
theorem rwI_new (hg : PermOn g N) (hd : d < N) (hpl : ∀ j, 0 < j → j < p → it g j d ≠ d) (hm : mn g N d = d) (hi : i < p) : rwI g N d i (it g i d) = -1 := by
  show (if _ then _ else _) = _
  rw [if_neg]
  rintro (⟨-, q⟩ | q)
  · rw [← (mn_eq hg hd (it_lt hg.1 i d hd)).mpr ⟨i, rfl⟩, hm] at q
    omega
  · exact wk_new hg hd hpl hi q
theorem rwI_old (hp0 : 0 < i) (hg : PermOn g N) (hd : d < N) (hN : N ≤ 32) : ¬ rwI g N d i d = -1 := by
  have h5 : rwI g N d i d = nI (lbO g N d) := if_pos (Or.inr (inO_iff.mpr ⟨0, hp0, rfl⟩))
  rw [h5]
  exact nI_ne1 (by have := lbO_lt hg hd; have := ctO_le g N; omega)
end Rw
section Fill
variable {E : EN} {d : Nat} {R : Option Value → ME → Prop}
theorem fill_ev {a n : Nat} {v : Int32} {M0 : ME} (T : shp E a = (1, n)) (N1 : n < 2 ^ 31) : EvV E d mJ_fill [.ref a, .int v] M0 (fun M => Fr (tR1 a) M0 M ∧ ∀ j, j < n → M.1 a j = v) := by
  refine Ev_of kJ_fill rfl (Nat.le_of_ble_eq_true rfl) (bJ_fill_0 T N1 ?_)
  refine lpN n (fun i M => Fr (tR1 a) M0 M ∧ ∀ j, j < i → M.1 a j = v) (fun i M => Wp E d mJ_fill 5 [.ref a, .int v, .int (nI i), .int (nI n)] [] M _) ?_ ?_ 0 _ (Nat.zero_le _) ⟨Fr_refl _ _, fun j hj => absurd hj (Nat.not_lt_zero _)⟩
  · intro M hM
    exact bJ_fill_5 (fun _ => bJ_fill_20 ⟨rfl, hM⟩) (fun h => absurd (nI_le (Nat.le_refl _) N1) h)
  · intro i M hi ⟨hF, hM⟩ ih
    refine bJ_fill_5 (fun h => absurd ((nI_leI N1 (by omega)).mp h) (by omega)) (fun _ => bJ_fill_10 T N1 i rfl hi ?_)
    rw [nI_1]
    refine ih _ ⟨Fr_sI hF (by simp [tR1]), fun j hj => ?_⟩
    by_cases e : j = i
    · subst e; exact sI_eq _ _ _ _
    · rw [sI_ne (Or.inr e)]; exact hM j (by omega)
end Fill
section Rounds
variable {E : EN} {d : Nat} {R : Option Value → ME → Prop}
/-- numberRoundsOf: rounds of g numbered into row c, their sizes into row e -/
theorem nro_wp {a b c e : Nat} {g : Nat → Nat} {n : Nat} {M0 : ME} (T : isRM E a) (hb : shp E b = (1, 32)) (hc : shp E c = (1, 32)) (he : shp E e = (1, 32)) (hn : n ≤ 16) (hg : PermOn g (2 * n)) (hE : M0.1 a 0 = nI n) (hgb : ∀ x, x < 2 * n → M0.1 b x = nI (g x)) (hne : a ≠ c ∧ a ≠ e ∧ b ≠ c ∧ b ≠ e ∧ c ≠ e)
    (hR : ∀ M, Fr (tR2 c e) M0 M → (∀ x, x < 2 * n → M.1 c x = nI (lbO g (2 * n) x)) → (∀ v, v < (if n = 0 then 1 else ctO g (2 * n)) → M.1 e v = nI (szO g (2 * n) v)) → R (some (.int (nI (if n = 0 then 1 else ctO g (2 * n))))) M) :
    Wp E (d + 1) m4_numberRoundsOf 0 [.ref a, .ref b, .ref c, .ref e, .null, .null, .null, .null] [] M0 R := by
  obtain ⟨ac, ae, bc, be, ce⟩ := hne
  refine b4_numberRoundsOf_0 T (fun h => ?_) (fun h => ?_)
  · have hn0 : n ≠ 0 := fun q => h (by show M0.1 a 0 = 0; rw [hE, q]; rfl)
    refine b4_numberRoundsOf_17 (fill_ev hc (by decide)) (fun M1 h1 => b4_numberRoundsOf_22 ?_)
    have key : ∀ k j, k ≠ c → k ≠ e → ∀ M, Fr (tR2 c e) M0 M → M.1 k j = M0.1 k j := fun k j h1 h2 M hF => hF.1 k j (tR2_f h1 h2)
    -- dart by dart; the count of rounds stands in a local
    suffices hloop : ∀ (k x : Nat) (M : ME), x + k = 2 * n → Fr (tR2 c e) M0 M → (∀ y, y < 32 → M.1 c y = rwD g (2 * n) x y) → (∀ v, v < rkO g (2 * n) x → M.1 e v = nI (szO g (2 * n) v)) → Wp E (d + 1) m4_numberRoundsOf 28 [.ref a, .ref b, .ref c, .ref e, .int (nI (rkO g (2 * n) x)), .int (nI x), .null, .null] [] M R by
      refine hloop (2 * n) 0 M1 (by omega) (Fr_mono h1.1 (fun k j q => ?_)) (fun y hy => ?_) (fun v hv => absurd hv (Nat.not_lt_zero _))
      · simp [tR2] at q; exact tR1_f q.1
      · rw [h1.2 y hy]
        show _ = if _ then _ else _
        rw [if_neg (by omega)]
    intro k
    induction k with
    | zero =>
      intro x M hx hF hc1 he1
      have hxn : x = 2 * n := by omega
      subst hxn
      have e2 : 2 * gI M a 0 = nI (2 * n) := by
        rw [show gI M a 0 = _ from (key a 0 ac ae M hF).trans hE]; exact pk_mul 2 _
      refine b4_numberRoundsOf_28 T (fun _ => b4_numberRoundsOf_102 ?_) (fun h => absurd (by rw [e2]; exact nI_le (Nat.le_refl _) (by omega)) h)
      have := hR M hF (fun y hy => by
        rw [hc1 y (by omega)]
        show (if _ then _ else _) = _
        rw [if_pos ⟨hy, mn_lt hy⟩]) (by rw [if_neg hn0]; exact he1)
      rw [if_neg hn0] at this
      exact this
    | succ k ih =>
      intro x M hx hF hc1 he1
      have hxl : x < 2 * n := by omega
      have e2 : ∀ M, Fr (tR2 c e) M0 M → 2 * gI M a 0 = nI (2 * n) := fun M hF => by
        rw [show gI M a 0 = _ from (key a 0 ac ae M hF).trans hE]; exact pk_mul 2 _
      have hrk : rkO g (2 * n) x < 32 := by have := rkO_le g (2 * n) x; omega
      refine b4_numberRoundsOf_28 T (fun h => ?_) (fun _ => ?_)
      · rw [e2 M hF] at h
        exact absurd ((nI_leI (by omega) (by omega)).mp h) (by omega)
      · by_cases hm : mn g (2 * n) x = x
        · obtain ⟨p, p0, pN_, pd, pl⟩ := lperiod hg hxl
          refine b4_numberRoundsOf_37 hc (by decide) x rfl (by omega) (fun h => ?_) (fun _ => b4_numberRoundsOf_45 ?_)
          · exfalso
            apply h
            show M.1 c x = -1
            rw [hc1 x (by omega), ← rwI_0]
            exact rwI_new hg hxl pl hm p0
          · -- the walk
            suffices hw : ∀ (q i : Nat) (M : ME), i + q = p → Fr (tR2 c e) M0 M → (∀ y, y < 32 → M.1 c y = rwI g (2 * n) x i y) → (∀ v, v < rkO g (2 * n) x → M.1 e v = nI (szO g (2 * n) v)) → Wp E (d + 1) m4_numberRoundsOf 52 [.ref a, .ref b, .ref c, .ref e, .int (nI (rkO g (2 * n) x)), .int (nI x), .int (nI i), .int (nI (it g i x))] [] M R by
              exact hw p 0 M (by omega) hF (fun y hy => by rw [hc1 y hy, rwI_0]) he1
            intro q
            induction q with
            | zero =>
              intro i M hi hF hc2 he2
              have hip : i = p := by omega
              subst hip
              have hout : Wp E (d + 1) m4_numberRoundsOf 87 [.ref a, .ref b, .ref c, .ref e, .int (nI (rkO g (2 * n) x)), .int (nI x), .int (nI i), .int (nI (it g i x))] [] M R := by
                refine b4_numberRoundsOf_87 he (by decide) (rkO g (2 * n) x) rfl hrk ?_
                refine b4_numberRoundsOf_96 ?_
                rw [nI_1, nI_1]
                have e3 : rkO g (2 * n) (x + 1) = rkO g (2 * n) x + 1 := by show rkO g (2 * n) x + _ = _; rw [if_pos hm]
                rw [← e3]
                refine ih (x + 1) _ (by omega) (Fr_sI hF (by simp [tR2])) (fun y hy => ?_) (fun v hv => ?_)
                · rw [sI_ne (Or.inl ce), hc2 y hy, rwI_p hg hxl p0 pd hm]
                · rw [sI_at]
                  by_cases e4 : v = rkO g (2 * n) x
                  · rw [if_pos ⟨rfl, e4⟩, e4, wk_sz hg hxl p0 pd pl hm]
                  · rw [if_neg (fun q => e4 q.2)]
                    exact he2 v (by omega)
              refine b4_numberRoundsOf_52 T (fun _ => hout) (fun _ => b4_numberRoundsOf_61 hc (by decide) (it g i x) rfl (by have := it_lt hg.1 i x hxl; omega) (fun _ => hout) (fun h => ?_))
              exfalso
              have h3 : M.1 c (it g i x) = -1 := h
              rw [hc2 _ (by have := it_lt hg.1 i x hxl; omega), pd] at h3
              exact rwI_old p0 hg hxl (by omega) h3
            | succ q ihq =>
              intro i M hi hF hc2 he2
              have hlt := it_lt hg.1 i x hxl
              refine b4_numberRoundsOf_52 T (fun h => ?_) (fun _ => ?_)
              · rw [e2 M hF] at h
                exact absurd ((nI_leI (by omega) (by omega)).mp h) (by omega)
              · refine b4_numberRoundsOf_61 hc (by decide) (it g i x) rfl (by omega) (fun h => ?_) (fun _ => ?_)
                · exfalso
                  apply h
                  show M.1 c _ = -1
                  rw [hc2 _ (by omega)]
                  exact rwI_new hg hxl pl hm (by omega)
                · refine b4_numberRoundsOf_69 hc (by decide) (it g i x) rfl (by omega) hb (by decide) (it g i x) rfl (by omega) ?_
                  have e5 : gI (sI M c (it g i x) (nI (rkO g (2 * n) x))) b (it g i x) = nI (it g (i + 1) x) := by
                    show (sI M c (it g i x) (nI (rkO g (2 * n) x))).1 b (it g i x) = _
                    rw [sI_ne (Or.inl bc), key b _ bc be M hF, hgb _ hlt, it_succ' g i x]
                  rw [e5, nI_1]
                  refine ihq (i + 1) _ (by omega) (Fr_sI hF (by simp [tR2])) (fun y hy => ?_) (fun v hv => ?_)
                  · rw [sI_at, rwI_s hg hxl hm]
                    by_cases e6 : y = it g i x
                    · rw [if_pos ⟨rfl, e6⟩, if_pos e6]
                    · rw [if_neg (fun q => e6 q.2), if_neg e6]; exact hc2 y hy
                  · rw [sI_ne (Or.inl ce.symm)]; exact he2 v hv
        · refine b4_numberRoundsOf_37 hc (by decide) x rfl (by omega) (fun _ => b4_numberRoundsOf_96 ?_) (fun h => ?_)
          · rw [nI_1]
            have e3 : rkO g (2 * n) (x + 1) = rkO g (2 * n) x := by show rkO g (2 * n) x + _ = _; rw [if_neg hm]; rfl
            rw [← e3]
            exact ih (x + 1) M (by omega) hF (fun y hy => by rw [hc1 y hy, rwD_skip hg hm]) (by rw [e3]; exact he1)
          · exfalso
            have h3 : M.1 c x = -1 := h
            rw [hc1 x (by omega)] at h3
            have h4 := mn_self g (2 * n) x
            have h5 : rwD g (2 * n) x x = nI (lbO g (2 * n) x) := if_pos ⟨hxl, by omega⟩
            rw [h5] at h3
            exact nI_ne1 (by have := lbO_lt hg hxl; have := ctO_le g (2 * n); omega) h3
  · have hn0 : n = 0 := by
      have h1 : M0.1 a 0 = 0 := h
      rw [hE] at h1
      exact (nI_eq (b := 0) (by omega) (by decide)).mp h1
    subst hn0
    refine b4_numberRoundsOf_7 hc (by decide) 0 rfl (by decide) he (by decide) 0 rfl (by decide) ?_
    refine hR _ (Fr_sI (Fr_sI (Fr_refl _ _) (by simp [tR2])) (by simp [tR2])) (fun x hx => absurd hx (Nat.not_lt_zero _)) (fun v hv => ?_)
    have hv0 : v = 0 := by simpa using hv
    subst hv0
    exact sI_eq _ _ _ _
end Rounds
/-! a map in a RootedMap at cell a -/
def cM (M : ME) (a : Nat) (m : PMp) : Prop := M.1 a 0 = nI (pE m) ∧ M.1 a 1 = nI (pR m) ∧ M.1 a 2 = nI (pVn m) ∧ M.1 a 3 = nI (pFn m) ∧ (∀ x, x < pN m → M.1 (a + 1) x = nI (pX m x)) ∧ (∀ x, x < pN m → M.1 (a + 2) x = nI (pF m x)) ∧ (∀ x, x < pN m → M.1 (a + 3) x = nI (pVo m x)) ∧ (∀ x, x < pN m → M.1 (a + 4) x = nI (pFo m x)) ∧ (∀ v, v < pVn m → M.1 (a + 5) v = nI (pVd m v)) ∧ (∀ v, v < pFn m → M.1 (a + 6) v = nI (pFd m v))
/-- only edges, root, next stand; the rest is to be found -/
def cM0 (M : ME) (a : Nat) (m : PMp) : Prop := M.1 a 0 = nI (pE m) ∧ M.1 a 1 = nI (pR m) ∧ ∀ x, x < pN m → M.1 (a + 1) x = nI (pX m x)
def tRM (a : Nat) (k j : Nat) : Bool := (Nat.ble a k && Nat.ble k (a + 6)) 
theorem tRM_t {a k j : Nat} (h : a ≤ k) (h2 : k ≤ a + 6) : tRM a k j = true := by
  unfold tRM; rw [Nat.ble_eq_true_of_le h, Nat.ble_eq_true_of_le h2]; rfl
theorem tRM_f {a k j : Nat} (h : k < a ∨ a + 6 < k) : tRM a k j = false := by
  unfold tRM
  rcases h with h | h
  · have : Nat.ble a k = false := by
      cases q : Nat.ble a k with
      | false => rfl
      | true => exact absurd (Nat.le_of_ble_eq_true q) (by omega)
    rw [this]; rfl
  · have : Nat.ble k (a + 6) = false := by
      cases q : Nat.ble k (a + 6) with
      | false => rfl
      | true => exact absurd (Nat.le_of_ble_eq_true q) (by omega)
    rw [this, Bool.and_false]
theorem cM_fr {t : Nat → Nat → Bool} {M M' : ME} {a : Nat} {m : PMp} (h : cM M a m) (f : Fr t M M') (ht : ∀ k j, a ≤ k → k ≤ a + 6 → t k j = false) : cM M' a m := by
  have e : ∀ o j, o ≤ 6 → M'.1 (a + o) j = M.1 (a + o) j := fun o j ho => f.1 _ _ (ht _ _ (by omega) (by omega))
  obtain ⟨h1, h2, h3, h4, h5, h6, h7, h8, h9, h10⟩ := h
  exact ⟨(e 0 0 (by omega)).trans h1, (e 0 1 (by omega)).trans h2, (e 0 2 (by omega)).trans h3, (e 0 3 (by omega)).trans h4, fun x hx => (e 1 x (by omega)).trans (h5 x hx), fun x hx => (e 2 x (by omega)).trans (h6 x hx), fun x hx => (e 3 x (by omega)).trans (h7 x hx), fun x hx => (e 4 x (by omega)).trans (h8 x hx), fun x hx => (e 5 x (by omega)).trans (h9 x hx), fun x hx => (e 6 x (by omega)).trans (h10 x hx)⟩
section NR
variable {E : EN} {d : Nat}
theorem numberRounds_ev {a : Nat} {m : PMp} {M0 : ME} (T : isRM E a) (hm : PV m) (h0 : cM0 M0 a m) : EvV E (d + 2) m4_numberRounds [.ref a] M0 (fun M => Fr (tRM a) M0 M ∧ cM M a m) := by
  have hN : m.1 ≤ 16 := hm.1
  refine Ev_of k4_numberRounds rfl (Nat.le_of_ble_eq_true rfl) (b4_numberRounds_0 ?_)
  refine lpN (pN m) (fun x M => Fr (tRM a) M0 M ∧ cM0 M a m ∧ ∀ y, y < x → M.1 (a + 2) y = nI (pF m y)) (fun x M => Wp E (d + 2) m4_numberRounds 2 [.ref a, .int (nI x)] [] M _) ?_ ?_ 0 _ (Nat.zero_le _) ⟨Fr_refl _ _, h0, fun y hy => absurd hy (Nat.not_lt_zero _)⟩
  · intro M ⟨hF, hM, hf⟩
    have e2 : 2 * gI M a 0 = nI (pN m) := by rw [show gI M a 0 = _ from hM.1]; exact pk_mul 2 _
    refine b4_numberRounds_2 T (fun _ => ?_) (fun h => absurd (by rw [e2]; exact nI_le (Nat.le_refl _) (by show 2 * m.1 < _; omega)) h)
    refine b4_numberRounds_30 T (R' := fun r M' => r = nI (pVn m) ∧ Fr (tR2 (a + 3) (a + 5)) M M' ∧ (∀ x, x < pN m → M'.1 (a + 3) x = nI (pVo m x)) ∧ ∀ v, v < pVn m → M'.1 (a + 5) v = nI (pVd m v)) (Ev_of k4_numberRoundsOf rfl (Nat.le_of_ble_eq_true rfl) (nro_wp T T.2.1 T.2.2.2.1 T.2.2.2.2.2.1 hN hm.2.1 hM.1 hM.2.2 ⟨by omega, by omega, by omega, by omega, by omega⟩ (fun M1 g1 g2 g3 => ⟨_, rfl, rfl, g1, g2, g3⟩))) (fun r M1 hr => ?_)
    obtain ⟨rfl, g1, g2, g3⟩ := hr
    have k1 : ∀ o j, o ≠ 3 → o ≠ 5 → M1.1 (a + o) j = M.1 (a + o) j := fun o j q1 q2 => g1.1 _ _ (tR2_f (by omega) (by omega))
    refine b4_numberRounds_47 T T (R' := fun r M' => r = nI (pFn m) ∧ Fr (tR2 (a + 4) (a + 6)) (sI M1 a 2 (nI (pVn m))) M' ∧ (∀ x, x < pN m → M'.1 (a + 4) x = nI (pFo m x)) ∧ ∀ v, v < pFn m → M'.1 (a + 6) v = nI (pFd m v)) (Ev_of k4_numberRoundsOf rfl (Nat.le_of_ble_eq_true rfl) (nro_wp T T.2.2.1 T.2.2.2.2.1 T.2.2.2.2.2.2 hN (pF_perm hm.2.1) ?_ ?_ ⟨by omega, by omega, by omega, by omega, by omega⟩ (fun M2 g1 g2 g3 => ⟨_, rfl, rfl, g1, g2, g3⟩))) (fun r M2 hr => ?_)
    · rw [sI_ne (Or.inr (by decide))]; exact (k1 0 0 (by decide) (by decide)).trans hM.1
    · intro x hx
      rw [sI_ne (Or.inl (by omega))]; exact (k1 2 x (by decide) (by decide)).trans (hf x hx)
    · obtain ⟨rfl, f1, f2, f3⟩ := hr
      have k2 : ∀ o j, o ≠ 4 → o ≠ 6 → M2.1 (a + o) j = (sI M1 a 2 (nI (pVn m))).1 (a + o) j := fun o j q1 q2 => f1.1 _ _ (tR2_f (by omega) (by omega))
      refine b4_numberRounds_67 T ⟨rfl, ?_, ?_⟩
      · refine Fr_sI ?_ (tRM_t (by omega) (by omega))
        have q1 : Fr (tRM a) M0 M1 := Fr_trans hF (Fr_mono g1 (fun k j q => tR2_f (fun z => by subst z; rw [tRM_t (by omega) (by omega)] at q; cases q) (fun z => by subst z; rw [tRM_t (by omega) (by omega)] at q; cases q)))
        exact Fr_trans (Fr_sI q1 (tRM_t (by omega) (by omega))) (Fr_mono f1 (fun k j q => tR2_f (fun z => by subst z; rw [tRM_t (by omega) (by omega)] at q; cases q) (fun z => by subst z; rw [tRM_t (by omega) (by omega)] at q; cases q)))
      · have e0 : ∀ j, j ≠ 2 → j ≠ 3 → (sI M2 a 3 (nI (pFn m))).1 a j = M.1 a j := fun j j2 j3 => by
          rw [sI_ne (Or.inr j3)]
          have := k2 0 j (by decide) (by decide)
          rw [Nat.add_zero] at this
          rw [this, sI_ne (Or.inr j2)]
          exact k1 0 j (by decide) (by decide)
        have e1 : ∀ o j, o ≠ 0 → o ≠ 4 → o ≠ 6 → (sI M2 a 3 (nI (pFn m))).1 (a + o) j = M1.1 (a + o) j := fun o j q0 q4 q6 => by
          rw [sI_ne (Or.inl (by omega)), k2 o j q4 q6, sI_ne (Or.inl (by omega))]
        refine ⟨(e0 0 (by decide) (by decide)).trans hM.1, (e0 1 (by decide) (by decide)).trans hM.2.1, ?_, sI_eq _ _ _ _, fun x hx => ?_, fun x hx => ?_, fun x hx => ?_, fun x hx => ?_, fun v hv => ?_, fun v hv => ?_⟩
        · rw [sI_ne (Or.inr (by decide))]
          have := k2 0 2 (by decide) (by decide)
          rw [Nat.add_zero] at this
          rw [this]; exact sI_eq _ _ _ _
        · rw [e1 1 x (by decide) (by decide) (by decide), k1 1 x (by decide) (by decide)]; exact hM.2.2 x hx
        · rw [e1 2 x (by decide) (by decide) (by decide), k1 2 x (by decide) (by decide)]; exact hf x hx
        · rw [e1 3 x (by decide) (by decide) (by decide)]; exact g2 x hx
        · rw [sI_ne (Or.inl (by omega))]; exact f2 x hx
        · rw [e1 5 v (by decide) (by decide) (by decide)]; exact g3 v hv
        · rw [sI_ne (Or.inl (by omega))]; exact f3 v hv
  · intro x M hx ⟨hF, hM, hf⟩ ih
    have hx2 : x < 2 * m.1 := hx
    have e2 : 2 * gI M a 0 = nI (pN m) := by rw [show gI M a 0 = _ from hM.1]; exact pk_mul 2 _
    refine b4_numberRounds_2 T (fun h => ?_) (fun _ => ?_)
    · rw [e2] at h
      exact absurd ((nI_leI (by show 2 * m.1 < _; omega) (by omega)).mp h) (by omega)
    · have ho : ox x < 2 * m.1 := ox_lt hx2
      refine b4_numberRounds_10 T (ox x) (nI_ox (by omega)) (by omega) x rfl (by omega) ?_
      rw [nI_1]
      refine ih _ ⟨Fr_sI hF (tRM_t (by omega) (by omega)), ⟨?_, ?_, fun y hy => ?_⟩, fun y hy => ?_⟩
      · rw [sI_ne (Or.inl (by omega))]; exact hM.1
      · rw [sI_ne (Or.inl (by omega))]; exact hM.2.1
      · rw [sI_ne (Or.inl (by omega))]; exact hM.2.2 y hy
      · rw [sI_at]
        by_cases e : y = x
        · rw [if_pos ⟨rfl, e⟩, e]; exact hM.2.2 (ox x) ho
        · rw [if_neg (fun q => e q.2)]; exact hf y (by omega)
end NR
