/-! plane maps all of whose faces have four sides have two sorts of vertices -/
theorem z_cnB_or {P Q R : Nat → Bool} : ∀ {n : Nat}, (∀ i, i < n → R i = (P i || Q i)) → (∀ i, i < n → ¬ (P i = true ∧ Q i = true)) → cnB R n = cnB P n + cnB Q n
  | 0, _, _ => rfl
  | n + 1, h1, h2 => by
    show cnB R n + _ = (cnB P n + _) + (cnB Q n + _)
    rw [z_cnB_or (fun i hi => h1 i (by omega)) (fun i hi => h2 i (by omega)), h1 n (by omega)]
    have := h2 n (by omega)
    cases q1 : P n <;> cases q2 : Q n <;> simp_all <;> omega
theorem z_cnB_all {P : Nat → Bool} : ∀ {n : Nat}, (∀ i, i < n → P i = true) → cnB P n = n
  | 0, _ => rfl
  | n + 1, h => by
    show cnB P n + _ = _
    rw [z_cnB_all (fun i hi => h i (by omega)), if_pos (h n (by omega))]
theorem z_cnB_inj {P Q : Nat → Bool} {a b : Nat} (f : Nat → Nat) (h1 : ∀ i, i < a → P i = true → f i < b ∧ Q (f i) = true) (h2 : ∀ i j, i < a → j < a → P i = true → P j = true → f i = f j → i = j) : cnB P a ≤ cnB Q b := by
  -- by going through the Ps, one Q taken away for each
  have key : ∀ (a : Nat) (Q : Nat → Bool), (∀ i, i < a → P i = true → f i < b ∧ Q (f i) = true) → (∀ i j, i < a → j < a → P i = true → P j = true → f i = f j → i = j) → cnB P a ≤ cnB Q b := by
    intro a
    induction a with
    | zero => intro Q _ _; exact Nat.zero_le _
    | succ a ih =>
      intro Q g1 g2
      show cnB P a + _ ≤ _
      by_cases q : P a = true
      · rw [if_pos q]
        obtain ⟨k1, k2⟩ := g1 a (by omega) q
        have h3 := cnB_one (P := fun i => if i = f a then false else Q i) (Q := Q) (a := f a) (by simp) k2 (fun i hi => by simp [hi]) k1
        have h4 := ih (fun i => if i = f a then false else Q i) (fun i hi hp => ⟨(g1 i (by omega) hp).1, by
          have : f i ≠ f a := fun z => by have := g2 i a (by omega) (by omega) hp q z; omega
          simp [this, (g1 i (by omega) hp).2]⟩) (fun i j hi hj => g2 i j (by omega) (by omega))
        omega
      · rw [if_neg q]
        exact ih Q (fun i hi => g1 i (by omega)) (fun i j hi hj => g2 i j (by omega) (by omega))
  exact key a Q h1 h2
theorem z_cnB_rm {P : Nat → Bool} {a n : Nat} (ha : a < n) (hP : P a = true) : cnB (fun v => P v && decide (v ≠ a)) n + 1 = cnB P n := by
  have h1 : cnB (fun v => decide (v = a)) n = 1 := by
    have : ∀ n, cnB (fun v => decide (v = a)) n = if a < n then 1 else 0 := fun n => by
      induction n with
      | zero => rfl
      | succ n ih =>
        show cnB _ n + (if decide (n = a) = true then 1 else 0) = _
        rw [ih]
        by_cases q : n = a
        · rw [if_neg (by omega), if_pos (decide_eq_true q), if_pos (by omega)]
        · rw [if_neg (show ¬ decide (n = a) = true by rw [decide_eq_false q]; decide)]
          by_cases q2 : a < n
          · rw [if_pos q2, if_pos (by omega)]
          · rw [if_neg q2, if_neg (by omega)]
    rw [this, if_pos ha]
  have := z_cnB_or (P := fun v => P v && decide (v ≠ a)) (Q := fun v => decide (v = a)) (R := P) (n := n) (fun i hi => ?_) (fun i hi => ?_)
  · rw [this, h1]
  · by_cases q : i = a
    · rw [q, hP]; simp
    · simp [q]
  · rintro ⟨h2, h3⟩
    have := of_decide_eq_true h3
    rw [Bool.and_eq_true] at h2
    exact of_decide_eq_true h2.2 this
theorem z_cnB_T {n : Nat} : cnB (fun _ => true) n = n := z_cnB_all (fun _ _ => rfl)
section ZLV
variable {m : PMp} {w : Nat}
theorem z_rch_dst (hm : PV m) (hc : Conn m) (hw : w < pVn m) {v : Nat} (hv : v < pVn m) : rch m w (dst m w v) v = true := by
  have key : ∀ j, dst m w v + j ≤ pVn m → rch m w (dst m w v + j) v = true → rch m w (dst m w v) v = true := by
    intro j
    induction j with
    | zero => intro _ h; exact h
    | succ j ih =>
      intro hj h
      have e : dsA m w (dst m w v + (j + 1)) v = dst m w v := (dsA_st hj h).symm
      exact ih (by omega) (dsA_lt h (by rw [e]; omega))
  have hd := dst_le m w v
  exact key (pVn m - dst m w v) (by omega) (by rw [show dst m w v + (pVn m - dst m w v) = pVn m by omega]; exact conn_rch hm hc hw hv)
theorem z_dst_of {t v : Nat} (h : rch m w t v = true) : dst m w v ≤ t := by
  by_cases q : t ≤ pVn m
  · have : dst m w v = dsA m w t v := dsA_st q h
    have := dsA_le m w t v
    omega
  · have := dst_le m w v
    omega
theorem z_dst_w : dst m w w = 0 := Nat.le_zero.mp (z_dst_of (t := 0) (by show decide (w = w) = true; simp))
theorem z_dst_0 (hm : PV m) (hc : Conn m) (hw : w < pVn m) {v : Nat} (hv : v < pVn m) (h : dst m w v = 0) : v = w := by
  have := z_rch_dst hm hc hw hv
  rw [h] at this
  exact of_decide_eq_true this
def z_lv (m : PMp) (w x : Nat) : Nat := dst m w (pVo m x)
theorem z_lv_adj (hm : PV m) (hc : Conn m) (hw : w < pVn m) {x : Nat} (hx : x < pN m) : z_lv m w (ox x) ≤ z_lv m w x + 1 :=
  z_dst_of (rch_adj hx (z_rch_dst hm hc hw (pVo_ltV hm hx)))
/-- levels of the two ends of an edge differ by one -/
theorem z_lv_X (hm : PV m) {x : Nat} (hx : x < pN m) : z_lv m w (pX m x) = z_lv m w x := by
  unfold z_lv
  rw [show pVo m (pX m x) = pVo m x from lbO_step hm.2.1 hx]
theorem z_lv_dn (hm : PV m) (hc : Conn m) (hw : w < pVn m) {v : Nat} (hv : v < pVn m) (hne : v ≠ w) : ∃ x, x < pN m ∧ pVo m x = v ∧ z_lv m w (ox x) < z_lv m w x := by
  have h1 := z_rch_dst hm hc hw hv
  cases q : dst m w v with
  | zero => exact absurd (z_dst_0 hm hc hw hv q) hne
  | succ k =>
    rw [q] at h1
    have h1' : (rch m w k v || anB (fun d => rch m w k (pVo m d) && decide (pVo m (ox d) = v)) (pN m)) = true := h1
    rw [Bool.or_eq_true] at h1'
    rcases h1' with h | h
    · have := z_dst_of h; omega
    · obtain ⟨x, hx, e⟩ := anB_iff.mp h
      rw [Bool.and_eq_true] at e
      have e2 : pVo m (ox x) = v := of_decide_eq_true e.2
      have e1 := z_dst_of e.1
      refine ⟨ox x, ox_lt hx, e2, ?_⟩
      rw [ox_ox]
      unfold z_lv
      rw [e2, q]; omega
end ZLV
section ZDL
variable {H : Nat → Bool} {sg nu : Nat → Nat}
def z_rt (H : Nat → Bool) (sg nu : Nat → Nat) (r : Nat) : Nat → Nat → Prop
  | 0, v => v = r
  | k + 1, v => z_rt H sg nu r k v ∨ ∃ x, H x = true ∧ nu (sg x) = v ∧ z_rt H sg nu r k (nu x)
theorem z_rt_mono {r k v : Nat} (h : z_rt H sg nu r k v) : ∀ j, z_rt H sg nu r (k + j) v
  | 0 => h
  | j + 1 => Or.inl (z_rt_mono h j)
theorem z_least_p {P : Nat → Prop} : ∀ k, P k → ∃ k, P k ∧ ∀ j, j < k → ¬ P j := by
  intro k
  induction k using Nat.strongRecOn with
  | _ k ih =>
    intro h
    by_cases q : ∃ j, j < k ∧ P j
    · obtain ⟨j, h1, h2⟩ := q
      exact ih j h1 h2
    · exact ⟨k, h, fun j hj hp => q ⟨j, hj, hp⟩⟩
noncomputable def z_dl (H : Nat → Bool) (sg nu : Nat → Nat) (r v : Nat) : Nat := @dite Nat (∃ k, z_rt H sg nu r k v ∧ ∀ j, j < k → ¬ z_rt H sg nu r j v) (Classical.propDecidable _) (fun h => h.choose) (fun _ => 0)
theorem z_dl_sp {r v : Nat} (h : ∃ k, z_rt H sg nu r k v) : z_rt H sg nu r (z_dl H sg nu r v) v ∧ ∀ j, j < z_dl H sg nu r v → ¬ z_rt H sg nu r j v := by
  obtain ⟨k, hk⟩ := h
  have h2 := z_least_p (P := fun k => z_rt H sg nu r k v) k hk
  unfold z_dl
  rw [dif_pos h2]
  exact h2.choose_spec
theorem z_dl_le {r v k : Nat} (h : z_rt H sg nu r k v) : z_dl H sg nu r v ≤ k := by
  have := (z_dl_sp ⟨k, h⟩).2 k
  by_cases q : k < z_dl H sg nu r v
  · exact absurd h (this q)
  · omega
theorem z_dl_0 {r : Nat} : z_dl H sg nu r r = 0 := Nat.le_zero.mp (z_dl_le (k := 0) rfl)
end ZDL
theorem z_pF_per {m : PMp} (hm : PV m) {x : Nat} (hx : x < pN m) : 0 < pFd m (pFo m x) ∧ it (pF m) (pFd m (pFo m x)) x = x ∧ ∀ j, 0 < j → j < pFd m (pFo m x) → it (pF m) j x ≠ x := by
  obtain ⟨p, h1, h2, -, h3, h4⟩ := dgx_per (m := dual m) (pF_perm hm.2.1) hx
  have : pFd m (pFo m x) = p := h1
  rw [this]
  exact ⟨h2, h3, h4⟩
theorem z_fr4_d {m : PMp} (h4 : fr4 m = true) {f : Nat} (hf : f < pFn m) : pFd m f = 4 := of_decide_eq_true (alB_iff.mp h4 f hf)
section ZFT
variable {m : PMp} {w : Nat}
noncomputable def zpv (m : PMp) (w v : Nat) : Nat := @dite Nat (∃ x, x < pN m ∧ pVo m x = v ∧ z_lv m w (ox x) < z_lv m w x) (Classical.propDecidable _) (fun h => h.choose) (fun _ => 0)
theorem zpv_sp (hm : PV m) (hc : Conn m) (hw : w < pVn m) {v : Nat} (hv : v < pVn m) (hne : v ≠ w) : zpv m w v < pN m ∧ pVo m (zpv m w v) = v ∧ z_lv m w (ox (zpv m w v)) < z_lv m w (zpv m w v) := by
  have h := z_lv_dn hm hc hw hv hne
  unfold zpv
  rw [dif_pos h]
  exact h.choose_spec
def zT (m : PMp) (w z : Nat) : Prop := ∃ v, v < pVn m ∧ v ≠ w ∧ (z = zpv m w v ∨ z = ox (zpv m w v))
theorem zT_ox {z : Nat} (h : zT m w z) : zT m w (ox z) := by
  obtain ⟨v, h1, h2, h3⟩ := h
  rcases h3 with e | e
  · exact ⟨v, h1, h2, Or.inr (by rw [e])⟩
  · exact ⟨v, h1, h2, Or.inl (by rw [e, ox_ox])⟩
noncomputable def zH (m : PMp) (w z : Nat) : Bool := @decide (z < pN m ∧ ¬ zT m w z) (Classical.propDecidable _)
theorem zH_iff {z : Nat} : zH m w z = true ↔ z < pN m ∧ ¬ zT m w z := by unfold zH; exact @decide_eq_true_iff _ (Classical.propDecidable _)
theorem zH_ox {z : Nat} (h : zH m w z = true) : zH m w (ox z) = true := by
  obtain ⟨h1, h2⟩ := zH_iff.mp h
  exact zH_iff.mpr ⟨ox_lt h1, fun t => h2 (by have := zT_ox t; rw [ox_ox] at this; exact this)⟩
theorem half2 {x y : Nat} (h : x / 2 = y / 2) : x = y ∨ x = ox y := by
  unfold ox
  split <;> omega
theorem z_it_vo (hm : PV m) {x : Nat} (hx : x < pN m) (k : Nat) : pVo m (it (pX m) k x) = pVo m x := ((lbO_eq hm.2.1 hx (it_lt hm.2.1.1 k x hx)).mpr ⟨k, rfl⟩).symm
theorem zcol (hm : PV m) (hc : Conn m) (hw : w < pVn m) (P : Nat → Prop) (h : ∀ z, zH m w z = true → (P (pFo m z) ↔ P (pFo m (ox z)))) {x y : Nat} (hx : x < pN m) (hy : y < pN m) (hP : P (pFo m x)) : P (pFo m y) := by
  have hF := pF_perm hm.2.1
  have fX : ∀ z, z < pN m → pFo m (pX m z) = pFo m (ox z) := fun z hz => by
    have : pF m (ox z) = pX m z := by show pX m (ox (ox z)) = _; rw [ox_ox]
    rw [← this]
    exact lbO_step hF (ox_lt hz)
  have top : ∀ k v, v < pVn m → v ≠ w → pVn m ≤ k + dst m w v → (P (pFo m (zpv m w v)) ↔ P (pFo m (ox (zpv m w v)))) := by
    intro k
    induction k using Nat.strongRecOn with
    | _ k ih =>
      intro v hv hne hk
      obtain ⟨p1, p2, p3⟩ := zpv_sp hm hc hw hv hne
      obtain ⟨q0, a0, -, a1⟩ := period hm.2.1 p1
      obtain ⟨q, ⟨q1, q2⟩, q3⟩ := z_least_p (P := fun q => 0 < q ∧ it (pX m) q (zpv m w v) = zpv m w v) q0 ⟨a0, a1⟩
      have walk : ∀ i, i < q → (P (pFo m (it (pX m) (i + 1) (zpv m w v))) ↔ P (pFo m (ox (zpv m w v)))) := by
        intro i
        induction i with
        | zero =>
          intro _
          show P (pFo m (pX m (zpv m w v))) ↔ _
          rw [fX _ p1]
        | succ i ihi =>
          intro hi
          have hyN := it_lt hm.2.1.1 (i + 1) _ p1
          have hyv := z_it_vo hm p1 (i + 1)
          have hyne : it (pX m) (i + 1) (zpv m w v) ≠ zpv m w v := fun e => q3 (i + 1) (by omega) ⟨by omega, e⟩
          rw [it_succ', fX _ hyN, ← ihi (by omega)]
          by_cases t : zT m w (it (pX m) (i + 1) (zpv m w v))
          · obtain ⟨v', t1, t2, t3⟩ := t
            obtain ⟨r1, r2, r3⟩ := zpv_sp hm hc hw t1 t2
            rcases t3 with e | e
            · exfalso
              have : v' = v := by rw [← r2, ← e, hyv, p2]
              rw [this] at e
              exact hyne e
            · have e1 : z_lv m w (ox (zpv m w v')) = dst m w v := by
                unfold z_lv
                rw [← e, hyv, p2]
              have e2 : z_lv m w (zpv m w v') = dst m w v' := by unfold z_lv; rw [r2]
              have e3 := dst_le m w v'
              have := ih (k - 1) (by omega) v' t1 t2 (by omega)
              rw [e, ox_ox]
              exact this
          · exact (h _ (zH_iff.mpr ⟨hyN, t⟩)).symm
      have := walk (q - 1) (by omega)
      rw [show q - 1 + 1 = q by omega, q2] at this
      exact this
  have all : ∀ z, z < pN m → (P (pFo m z) ↔ P (pFo m (ox z))) := fun z hz => by
    by_cases t : zT m w z
    · obtain ⟨v, t1, t2, t3⟩ := t
      have := top (pVn m) v t1 t2 (by omega)
      rcases t3 with e | e
      · rw [e]; exact this
      · rw [e, ox_ox]; exact this.symm
    · exact h z (zH_iff.mpr ⟨hz, t⟩)
  exact hc (fun z => P (pFo m z)) (fun z hz hs => by
    show P (pFo m (pX m z))
    rw [fX z hz]; exact (all z hz).mp hs) (fun z hz hs => (all z hz).mp hs) x y hx hy hP
theorem z_bnd (g : Nat → Nat) : ∀ n, ∃ K, ∀ i, i < n → g i ≤ K
  | 0 => ⟨0, fun i hi => absurd hi (Nat.not_lt_zero _)⟩
  | n + 1 => by
    obtain ⟨K, hK⟩ := z_bnd g n
    refine ⟨K + g n, fun i hi => ?_⟩
    by_cases e : i = n
    · rw [e]; omega
    · have := hK i (by omega); omega
theorem fit_two {m : PMp} (hm : MV m) (h4 : fr4 m = true) (hE : 0 < pE m) {w x : Nat} (hw : w < pVn m) (hx : x < pN m) : evB m w x ≠ evB m w (ox x) := by
  obtain ⟨hP, hc, hV⟩ := hm
  have hE' : 0 < m.1 := hE
  have hF := pF_perm hP.2.1
  have h0N : 0 < pN m := by show 0 < 2 * m.1; omega
  have hFn : pFn m = ctO (pF m) (pN m) := if_neg (by omega)
  generalize hr0 : pFo m 0 = r0
  have hr0F : r0 < pFn m := by rw [← hr0]; exact pFo_ltF hP h0N
  -- all faces are reached without crossing the tree
  have reach : ∀ x, x < pN m → ∃ k, z_rt (zH m w) ox (pFo m) r0 k (pFo m x) := fun x hx => by
    refine zcol hP hc hw (fun f => ∃ k, z_rt (zH m w) ox (pFo m) r0 k f) (fun z hz => ⟨fun ⟨k, hk⟩ => ⟨k + 1, Or.inr ⟨z, hz, rfl, hk⟩⟩, fun ⟨k, hk⟩ => ⟨k + 1, Or.inr ⟨ox z, zH_ox hz, by rw [ox_ox], hk⟩⟩⟩) h0N hx ⟨0, hr0⟩
  have face : ∀ f, f < pFn m → ∃ x, x < pN m ∧ pFo m x = f := fun f hf => by
    rw [hFn] at hf
    obtain ⟨x, x1, x2, -⟩ := lbO_sur hf
    exact ⟨x, x1, x2⟩
  have qex : ∀ f, f < pFn m → f ≠ r0 → ∃ y, zH m w y = true ∧ pFo m y = f ∧ z_dl (zH m w) ox (pFo m) r0 (pFo m (ox y)) + 1 = z_dl (zH m w) ox (pFo m) r0 f := fun f hf hne => by
    obtain ⟨x, x1, x2⟩ := face f hf
    have hsp := z_dl_sp (reach x x1)
    rw [x2] at hsp
    cases q : z_dl (zH m w) ox (pFo m) r0 f with
    | zero => rw [q] at hsp; exact absurd hsp.1 hne
    | succ k =>
      rw [q] at hsp
      rcases hsp.1 with h | ⟨y, hy, e, h⟩
      · exact absurd h (hsp.2 k (by omega))
      · refine ⟨ox y, zH_ox hy, e, ?_⟩
        rw [ox_ox]
        have h1 := z_dl_le h
        have h2 : z_dl (zH m w) ox (pFo m) r0 f ≤ z_dl (zH m w) ox (pFo m) r0 (pFo m y) + 1 := by
          refine z_dl_le (Or.inr ⟨y, hy, e, ?_⟩)
          exact (z_dl_sp ⟨k, h⟩).1
        omega
  have hq : ∀ f, ∃ y, f < pFn m → f ≠ r0 → zH m w y = true ∧ pFo m y = f ∧ z_dl (zH m w) ox (pFo m) r0 (pFo m (ox y)) + 1 = z_dl (zH m w) ox (pFo m) r0 f := fun f => by
    by_cases q : f < pFn m ∧ f ≠ r0
    · obtain ⟨y, hy⟩ := qex f q.1 q.2
      exact ⟨y, fun _ _ => hy⟩
    · exact ⟨0, fun a b => absurd ⟨a, b⟩ q⟩
  generalize hzq : (fun f => (hq f).choose) = zq
  have zq_sp : ∀ f, f < pFn m → f ≠ r0 → zH m w (zq f) = true ∧ pFo m (zq f) = f ∧ z_dl (zH m w) ox (pFo m) r0 (pFo m (ox (zq f))) + 1 = z_dl (zH m w) ox (pFo m) r0 f := fun f a b => by
    rw [← hzq]; exact (hq f).choose_spec a b
  -- how many edges are not of the tree
  have cnt : cnB (fun e => zH m w (2 * e)) (pE m) ≤ pFn m - 1 := by
    have c1 : cnB (fun v => decide (v < pVn m) && decide (v ≠ w)) (pVn m) ≤ cnB (fun e => !zH m w (2 * e)) (pE m) := by
      refine z_cnB_inj (fun v => zpv m w v / 2) (fun v hv hp => ?_) (fun u v hu hv hp hq e => ?_)
      · rw [Bool.and_eq_true] at hp
        have hne := of_decide_eq_true hp.2
        obtain ⟨p1, -, -⟩ := zpv_sp hP hc hw hv hne
        refine ⟨by show _ < m.1; have : zpv m w v < 2 * m.1 := p1; omega, ?_⟩
        have : zH m w (2 * (zpv m w v / 2)) = false := Bool.eq_false_iff.mpr (fun z => by
          refine (zH_iff.mp z).2 ⟨v, hv, hne, ?_⟩
          exact half2 (by omega))
        show (!zH m w (2 * (zpv m w v / 2))) = true
        rw [this]; rfl
      · rw [Bool.and_eq_true] at hp hq
        have hne := of_decide_eq_true hp.2
        have hne2 := of_decide_eq_true hq.2
        obtain ⟨p1, p2, p3⟩ := zpv_sp hP hc hw hu hne
        obtain ⟨q1, q2, q3⟩ := zpv_sp hP hc hw hv hne2
        rcases half2 e with z | z
        · rw [← p2, ← q2, z]
        · rw [z, ox_ox] at p3
          omega
    have c2 := z_cnB_rm (P := fun v => decide (v < pVn m)) (a := w) (n := pVn m) hw (decide_eq_true hw)
    rw [z_cnB_all (fun i hi => decide_eq_true hi)] at c2
    have c3 := z_cnB_or (P := fun e => zH m w (2 * e)) (Q := fun e => !zH m w (2 * e)) (R := fun _ => true) (n := pE m) (fun i _ => by cases zH m w (2 * i) <;> rfl) (fun i _ h => by
      obtain ⟨a, b⟩ := h
      have a' : zH m w (2 * i) = true := a
      have b' : (!zH m w (2 * i)) = true := b
      rw [a'] at b'; cases b')
    rw [z_cnB_T] at c3
    omega
  have evn : ∀ z, z < pN m → zH m w z = true → zH m w (2 * (z / 2)) = true := fun z hz h => by
    rcases half2 (x := 2 * (z / 2)) (y := z) (by omega) with e | e
    · rw [e]; exact h
    · rw [e]; exact zH_ox h
  have sur : ∀ z, zH m w z = true → ∃ f, f < pFn m ∧ f ≠ r0 ∧ (zq f = z ∨ zq f = ox z) := fun z hz => Classical.byContradiction fun no => by
    have hzN := (zH_iff.mp hz).1
    have c1 : cnB (fun f => true && decide (f ≠ r0)) (pFn m) ≤ cnB (fun e => zH m w (2 * e) && decide (e ≠ z / 2)) (pE m) := by
      refine z_cnB_inj (fun f => zq f / 2) (fun f hf hp => ?_) (fun f g hf hg hp hq' e => ?_)
      · rw [Bool.true_and] at hp
        have hne := of_decide_eq_true hp
        obtain ⟨s1, s2, s3⟩ := zq_sp f hf hne
        have sN := (zH_iff.mp s1).1
        refine ⟨by show _ < m.1; have : zq f < 2 * m.1 := sN; omega, ?_⟩
        rw [Bool.and_eq_true]
        refine ⟨evn _ sN s1, decide_eq_true (fun e => no ⟨f, hf, hne, half2 e⟩)⟩
      · rw [Bool.true_and] at hp hq'
        have hne := of_decide_eq_true hp
        have hne2 := of_decide_eq_true hq'
        obtain ⟨s1, s2, s3⟩ := zq_sp f hf hne
        obtain ⟨t1, t2, t3⟩ := zq_sp g hg hne2
        rcases half2 e with y | y
        · rw [← s2, ← t2, y]
        · rw [y, ox_ox, t2] at s3
          rw [show ox (zq g) = zq f from y.symm, s2] at t3
          omega
    have c2 := z_cnB_rm (P := fun _ => true) (a := r0) (n := pFn m) hr0F rfl
    have c3 := z_cnB_rm (P := fun e => zH m w (2 * e)) (a := z / 2) (n := pE m) (by show _ < m.1; have : z < 2 * m.1 := hzN; omega) (evn z hzN hz)
    rw [z_cnB_T] at c2
    have h1 : 0 < pFn m := by omega
    omega
  -- a tree's edge is no bad one
  have one : ∀ z, z < pN m → z_lv m w (ox z) < z_lv m w z → evB m w z ≠ evB m w (ox z) := fun z hz hl e => by
    have a := z_lv_adj hP hc hw (ox_lt hz)
    rw [ox_ox] at a
    have e' : (z_lv m w z % 2 = 0 ↔ z_lv m w (ox z) % 2 = 0) := decide_eq_decide.mp e
    omega
  have tree : ∀ z, zT m w z → evB m w z ≠ evB m w (ox z) := fun z ⟨v, v1, v2, v3⟩ => by
    obtain ⟨p1, -, p3⟩ := zpv_sp hP hc hw v1 v2
    rcases v3 with e | e
    · rw [e]; exact one _ p1 p3
    · rw [e, ox_ox]; exact fun y => one _ p1 p3 y.symm
  have evF : ∀ z, z < pN m → evB m w (pF m z) = evB m w (ox z) := fun z hz => by
    unfold evB
    rw [show pVo m (pF m z) = pVo m (ox z) from lbO_step hP.2.1 (ox_lt hz)]
  obtain ⟨K, hK⟩ := z_bnd (fun f => z_dl (zH m w) ox (pFo m) r0 f) (pFn m)
  have main : ∀ k f, f < pFn m → f ≠ r0 → K ≤ k + z_dl (zH m w) ox (pFo m) r0 f → evB m w (zq f) ≠ evB m w (ox (zq f)) := by
    intro k
    induction k using Nat.strongRecOn with
    | _ k ih =>
      intro f hf hne hk bad
      obtain ⟨s1, s2, s3⟩ := zq_sp f hf hne
      have sN := (zH_iff.mp s1).1
      obtain ⟨-, hp, hmin⟩ := z_pF_per hP sN
      rw [z_fr4_d h4 (pFo_ltF hP sN)] at hp hmin
      have fine : ∀ i, 0 < i → i < 4 → evB m w (it (pF m) i (zq f)) ≠ evB m w (ox (it (pF m) i (zq f))) := fun i i0 i4 => by
        have hzN := it_lt hF.1 i _ sN
        have hzf : pFo m (it (pF m) i (zq f)) = f := (((lbO_eq hF sN hzN).mpr ⟨i, rfl⟩).symm : pFo m (it (pF m) i (zq f)) = pFo m (zq f)).trans s2
        by_cases t : zT m w (it (pF m) i (zq f))
        · exact tree _ t
        · obtain ⟨g, g1, g2, g3⟩ := sur _ (zH_iff.mpr ⟨hzN, t⟩)
          obtain ⟨u1, u2, u3⟩ := zq_sp g g1 g2
          rcases g3 with e | e
          · exfalso
            have : g = f := by rw [← u2, e, hzf]
            rw [this] at e
            exact hmin i i0 i4 e.symm
          · rw [e, ox_ox, hzf] at u3
            have := hK g g1
            have this' : z_dl (zH m w) ox (pFo m) r0 g ≤ K := this
            have h5 := ih (k - 1) (by omega) g g1 g2 (by omega)
            rw [e, ox_ox] at h5
            exact fun y => h5 y.symm
      have n1 := it_lt hF.1 1 _ sN
      have n2 := it_lt hF.1 2 _ sN
      have n3 := it_lt hF.1 3 _ sN
      have f1 := fine 1 (by omega) (by omega)
      have f2 := fine 2 (by omega) (by omega)
      have f3 := fine 3 (by omega) (by omega)
      have e1 : evB m w (it (pF m) 1 (zq f)) = evB m w (ox (zq f)) := evF _ sN
      have e2 : evB m w (it (pF m) 2 (zq f)) = evB m w (ox (it (pF m) 1 (zq f))) := by rw [it_succ' _ 1]; exact evF _ n1
      have e3 : evB m w (it (pF m) 3 (zq f)) = evB m w (ox (it (pF m) 2 (zq f))) := by rw [it_succ' _ 2]; exact evF _ n2
      have e4 : evB m w (zq f) = evB m w (ox (it (pF m) 3 (zq f))) := by
        have : evB m w (it (pF m) 4 (zq f)) = evB m w (ox (it (pF m) 3 (zq f))) := by rw [it_succ' _ 3]; exact evF _ n3
        rw [hp] at this; exact this
      rw [← e2] at f1
      rw [← e3] at f2
      rw [← e4] at f3
      rw [← e1] at bad
      revert f1 f2 f3 bad
      cases evB m w (zq f) <;> cases evB m w (it (pF m) 1 (zq f)) <;> cases evB m w (it (pF m) 2 (zq f)) <;> cases evB m w (it (pF m) 3 (zq f)) <;> decide
  by_cases t : zT m w x
  · exact tree x t
  · obtain ⟨g, g1, g2, g3⟩ := sur x (zH_iff.mpr ⟨hx, t⟩)
    have := main K g g1 g2 (by omega)
    rcases g3 with e | e
    · rw [e] at this; exact this
    · rw [e, ox_ox] at this; exact fun y => this y.symm
end ZFT
