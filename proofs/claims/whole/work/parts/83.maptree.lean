/-! PURE: the tree of a map whose faces have four sides -/
section MTR
variable {m : PMp} {w : Nat}
/-- a map fit to be taken back, with distances from w -/
def Fit4 (m : PMp) (w : Nat) : Prop := PV m ∧ Conn m ∧ w < pVn m ∧ fr4 m = true ∧ ∀ x, x < pN m → evB m w x ≠ evB m w (ox x)
theorem up_of (F : Fit4 m w) {x : Nat} (hx : x < pN m) (h : ¬ dnB m w x = true) : lv m w (ox x) = lv m w x + 1 := by
  obtain ⟨hm, hc, hw, h4, h2⟩ := F
  have := lv_one hm hc hw h2 hx
  have d : ¬ lv m w (ox x) < lv m w x := fun z => h (dn_iff.mpr z)
  omega
theorem dn_ox (F : Fit4 m w) {x : Nat} (hx : x < pN m) : dnB m w (ox x) = true ↔ ¬ dnB m w x = true := by
  obtain ⟨hm, hc, hw, h4, h2⟩ := F
  have := lv_one hm hc hw h2 hx
  rw [dn_iff, dn_iff, ox_ox]
  omega
theorem oe_sp (F : Fit4 m w) {x : Nat} (hx : Hd m w x = true) : ∃ k, 1 ≤ k ∧ k ≤ 3 ∧ oe m w x = ox (it (pF m) k (ox x)) ∧ ¬ dnB m w (it (pF m) k (ox x)) = true ∧ (∀ j, 1 ≤ j → j ≤ 3 → ¬ dnB m w (it (pF m) j (ox x)) = true → j = k) ∧ (lv m w (oe m w x) = lv m w x ∨ lv m w (oe m w x) = lv m w x + 1 ∨ lv m w (oe m w x) + 1 = lv m w x) := by
  obtain ⟨hxN, hl⟩ := Hd_iff.mp hx
  have hup : ¬ dnB m w (ox x) = true := fun z => ((dn_ox F hxN).mp z) (dn_iff.mpr hl)
  obtain ⟨hm, hc, hw, h4, h2⟩ := F
  obtain ⟨k, k1, k2, k3, k4, k5, k6⟩ := four hm hc hw h4 h2 (ox_lt hxN) hup
  have e : oe m w x = ox (it (pF m) k (ox x)) := by unfold oe; rw [k3]
  rw [ox_ox] at k6
  exact ⟨k, k1, k2, e, k4, k5, by rw [e]; exact k6⟩
theorem oe_all (F : Fit4 m w) {x : Nat} (hx : Hd m w x = true) : Hd m w (oe m w x) = true ∧ oe m w (oe m w x) = x ∧ oe m w x ≠ x ∧ kpF m (oe m w x) = kpF m x ∧ ∀ y, Hd m w y = true → kpF m x = kpF m y → y = x ∨ y = oe m w x := by
  obtain ⟨k, k1, k2, e, k4, k5, -⟩ := oe_sp F hx
  obtain ⟨hxN, hl⟩ := Hd_iff.mp hx
  have F' := F
  obtain ⟨hm, hc, hw, h4, h2⟩ := F
  have hF := pF_perm hm.2.1
  have hu := ox_lt hxN
  obtain ⟨-, hp, hmin⟩ := pF_per hm hu
  rw [fr4_d h4 (pFo_ltF hm hu)] at hp hmin
  have hkN := it_lt hF.1 k _ hu
  have hH : Hd m w (oe m w x) = true := by
    rw [e]
    refine Hd_iff.mpr ⟨ox_lt hkN, ?_⟩
    rw [ox_ox]
    have := up_of F' hkN k4
    omega
  refine ⟨hH, ?_, fun z => ?_, ?_, fun y hy hk => ?_⟩
  · obtain ⟨k', a1, a2, a3, a4, a5, -⟩ := oe_sp F' hH
    have eo : ox (oe m w x) = it (pF m) k (ox x) := by rw [e, ox_ox]
    rw [eo] at a3 a5
    have back : it (pF m) (4 - k) (it (pF m) k (ox x)) = ox x := by
      rw [← it_add, show 4 - k + k = 4 by omega]; exact hp
    have := a5 (4 - k) (by omega) (by omega) (by rw [back]; exact fun z => ((dn_ox F' hxN).mp z) (dn_iff.mpr hl))
    rw [a3, ← this, back, ox_ox]
  · rw [e] at z
    have : it (pF m) k (ox x) = ox x := by rw [← ox_ox (it (pF m) k (ox x)), z]
    exact hmin k (by omega) (by omega) this
  · unfold kpF
    rw [e, ox_ox]
    exact ((lbO_eq hF hu hkN).mpr ⟨k, rfl⟩).symm
  · obtain ⟨hyN, hyl⟩ := Hd_iff.mp hy
    obtain ⟨j, hj⟩ := (lbO_eq hF hu (ox_lt hyN)).mp hk
    rw [it_mod hp j] at hj
    have hj4 := Nat.mod_lt j (show 0 < 4 by decide)
    by_cases q : j % 4 = 0
    · rw [q] at hj
      left
      exact (ox_inj hj).symm
    · right
      have := k5 (j % 4) (by omega) (by omega) (by rw [hj]; exact fun z => ((dn_ox F' hyN).mp z) (dn_iff.mpr hyl))
      rw [this] at hj
      rw [e, hj, ox_ox]
/-- a colouring that the tree's edges keep is one colour -/
theorem mt_conn (F : Fit4 m w) (Q : Nat → Prop) (hQ : ∀ x, Hd m w x = true → Q (pVo m x) → Q (pVo m (oe m w x))) {x y : Nat} (hx : Hd m w x = true) (hy : Hd m w y = true) (h : Q (pVo m x)) : Q (pVo m y) := by
  have F' := F
  obtain ⟨hm, hc, hw, h4, h2⟩ := F
  have hF := pF_perm hm.2.1
  -- faces are coloured too
  have PQ : ∀ z, Hd m w z = true → ((∃ y, Hd m w y = true ∧ kpF m y = pFo m (ox z) ∧ Q (pVo m y)) ↔ Q (pVo m z)) := fun z hz => by
    constructor
    · rintro ⟨y, h1, h3, h5⟩
      obtain ⟨-, b2, -, -, b5⟩ := oe_all F' h1
      rcases b5 z hz h3 with e | e
      · rw [e]; exact h5
      · rw [e]; exact hQ y h1 h5
    · intro h
      exact ⟨z, hz, rfl, h⟩
  generalize hP : (fun f => ∃ y, Hd m w y = true ∧ kpF m y = f ∧ Q (pVo m y)) = P at *
  have PQ' : ∀ z, Hd m w z = true → (P (pFo m (ox z)) ↔ Q (pVo m z)) := fun z hz => by
    have := PQ z hz
    rw [← hP]; exact this
  have fX : ∀ z, z < pN m → pFo m (pX m z) = pFo m (ox z) := fun z hz => by
    have : pF m (ox z) = pX m z := by show pX m (ox (ox z)) = _; rw [ox_ox]
    rw [← this]
    exact lbO_step hF (ox_lt hz)
  have top : ∀ k z, Hd m w z = true → pVn m ≤ k + lv m w z → (P (pFo m z) ↔ P (pFo m (ox z))) := by
    intro k
    induction k using Nat.strongRecOn with
    | _ k ih =>
      intro z hz hk
      obtain ⟨hzN, hzl⟩ := Hd_iff.mp hz
      have walk : ∀ i, P (pFo m (it (pX m) (i + 1) z)) ↔ Q (pVo m z) := by
        intro i
        induction i with
        | zero =>
          show P (pFo m (pX m z)) ↔ _
          rw [fX z hzN]; exact PQ' z hz
        | succ i ihi =>
          rw [it_succ', fX _ (it_lt hm.2.1.1 _ _ hzN)]
          have hyN := it_lt hm.2.1.1 (i + 1) z hzN
          have hyv := it_vo hm hzN (i + 1)
          by_cases q : dnB m w (it (pX m) (i + 1) z) = true
          · rw [PQ' _ (Hd_iff.mpr ⟨hyN, dn_iff.mp q⟩), hyv]
          · have e1 := up_of F' hyN q
            have elv : lv m w (it (pX m) (i + 1) z) = lv m w z := by unfold lv; rw [hyv]
            have hH : Hd m w (ox (it (pX m) (i + 1) z)) = true := Hd_iff.mpr ⟨ox_lt hyN, by rw [ox_ox]; omega⟩
            have k0 : 0 < k := by
              have := dst_le m w (pVo m (ox (it (pX m) (i + 1) z)))
              have e2 : lv m w (ox (it (pX m) (i + 1) z)) ≤ pVn m := this
              omega
            have := ih (k - 1) (by omega) _ hH (by omega)
            rw [ox_ox] at this
            rw [this]; exact ihi
      obtain ⟨p, p0, -, hp⟩ := period hm.2.1 hzN
      have := walk (p - 1)
      rw [show p - 1 + 1 = p by omega, hp] at this
      rw [this, PQ' z hz]
  have all : ∀ z, z < pN m → (P (pFo m z) ↔ P (pFo m (ox z))) := fun z hz => by
    by_cases q : dnB m w z = true
    · exact top (pVn m) z (Hd_iff.mpr ⟨hz, dn_iff.mp q⟩) (by omega)
    · have := top (pVn m) (ox z) (Hd_iff.mpr ⟨ox_lt hz, dn_iff.mp ((dn_ox F' hz).mpr q)⟩) (by omega)
      rw [ox_ox] at this
      exact this.symm
  obtain ⟨hxN, -⟩ := Hd_iff.mp hx
  obtain ⟨hyN, -⟩ := Hd_iff.mp hy
  have := hc (fun z => P (pFo m z)) (fun z hz hs => by
    show P (pFo m (pX m z))
    rw [fX z hz]; exact (all z hz).mp hs) (fun z hz hs => (all z hz).mp hs) x y hxN hyN ((all x hxN).mpr ((PQ' x hx).mpr h))
  exact (PQ' y hy).mp ((all y hyN).mp this)
theorem cn_pair {P : Nat → Bool} : ∀ {n : Nat}, (∀ e, e < n → (P (2 * e) = true ↔ ¬ P (2 * e + 1) = true)) → cnB P (2 * n) = n
  | 0, _ => rfl
  | n + 1, h => by
    have ih := cn_pair (P := P) (n := n) (fun e he => h e (by omega))
    show cnB P (2 * n + 1 + 1) = _
    show (cnB P (2 * n) + (if P (2 * n) = true then 1 else 0)) + (if P (2 * n + 1) = true then 1 else 0) = _
    rw [ih]
    have := h n (by omega)
    by_cases q : P (2 * n) = true
    · rw [if_pos q, if_neg (this.mp q)]
    · rw [if_neg q, if_pos (by
        by_cases q2 : P (2 * n + 1) = true
        · exact q2
        · exact absurd (this.mpr q2) q)]
theorem map_TT (F : Fit4 m w) (hV : pVn m + pFn m = pE m + 2) : TT (pN m) (pFn m) (pVn m) (Hd m w) (Uv m w) (rhM m w) (oe m w) (pVo m) (kpF m) := by
  have F' := F
  obtain ⟨hm, hc, hw, h4, h2⟩ := F
  refine ⟨fun x hx => (Hd_iff.mp hx).1, fun u hu => ?_, fun x hx => ?_, fun x y hx hy e => rh_inj hm hx hy e, fun x y hx hy e => ?_, fun x hx => ?_, fun Q hQ x y hx hy h => mt_conn F' Q hQ hx hy h, fun x hx => ?_, fun x y hx hy e => ?_, fun x hx => ?_, fun u hu => ?_, ?_, ?_⟩
  · unfold Uv at hu
    rw [Bool.and_eq_true] at hu
    exact of_decide_eq_true hu.1
  · obtain ⟨k, e, h, -⟩ := rh_sp hm hx
    exact ⟨h, by rw [e]; exact it_vo hm (Hd_iff.mp hx).1 _⟩
  · obtain ⟨k, hk⟩ := (lbO_eq hm.2.1 (Hd_iff.mp hx).1 (Hd_iff.mp hy).1).mp e
    exact rh_orb hm k hx hy hk
  · obtain ⟨a1, a2, a3, a4, -⟩ := oe_all F' hx
    exact ⟨a1, a2, a3, a4⟩
  · exact pFo_ltF hm (ox_lt (Hd_iff.mp hx).1)
  · exact (oe_all F' hx).2.2.2.2 y hy e
  · obtain ⟨hxN, hl⟩ := Hd_iff.mp hx
    unfold Uv
    rw [Bool.and_eq_true]
    refine ⟨decide_eq_true (pVo_ltV hm hxN), decide_eq_true (fun z => ?_)⟩
    have : lv m w x = 0 := by unfold lv; rw [z]; exact dst_w
    omega
  · unfold Uv at hu
    rw [Bool.and_eq_true] at hu
    obtain ⟨x, x1, x2, x3⟩ := lv_dn hm hc hw (of_decide_eq_true hu.1) (of_decide_eq_true hu.2)
    exact ⟨x, Hd_iff.mpr ⟨x1, x3⟩, x2⟩
  · have hE := fr4_E hm h4
    have := cnB_rm (P := fun v => decide (v < pVn m)) (a := w) (n := pVn m) hw (decide_eq_true hw)
    rw [cnB_all (fun i hi => decide_eq_true hi)] at this
    have e : cnB (Uv m w) (pVn m) + 1 = pVn m := this
    omega
  · have hE := fr4_E hm h4
    have := cn_pair (P := Hd m w) (n := pE m) (fun e he => by
      have h1 : 2 * e < pN m := by show 2 * e < 2 * m.1; have : e < m.1 := he; omega
      have eo : ox (2 * e) = 2 * e + 1 := by unfold ox; rw [if_pos (by omega)]
      have h3 := dn_ox F' h1
      rw [eo] at h3
      have h1' : 2 * e + 1 < pN m := by show 2 * e + 1 < 2 * m.1; have : e < m.1 := he; omega
      unfold Hd
      rw [decide_eq_true h1, decide_eq_true h1', Bool.true_and, Bool.true_and, h3]
      constructor
      · intro a b; exact b a
      · intro a
        cases q : dnB m w (2 * e) with
        | true => rfl
        | false => exact absurd (by rw [q]; decide) a)
    show cnB (Hd m w) (2 * m.1) = _
    rw [this]
    exact hE
end MTR
