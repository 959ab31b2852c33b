/-! the reference: back -/
section RBK
variable {L : Nat} {xs : Nat → Int32} {d : Nat} {M : ME} {m : PMp} {w s ms ts : Nat}
def rRow (M : ME) (m : PMp) (w : Nat) : Prop := ∀ v, v < pVn m → M.1 117 v = nI (dst m w v)
theorem rdn_le {x : Nat} (hm : PV m) (hd : rRow M m w) (hx : x < pN m) : gI M 117 (pVo m x) ≤ gI M 117 (pVo m (ox x)) ↔ ¬ dnB m w x = true := by
  have h1 := dst_lt hm w (pVo m x)
  have h2 := dst_lt hm w (pVo m (ox x))
  rw [show gI M 117 (pVo m x) = _ from hd _ (pVo_ltV hm hx), show gI M 117 (pVo m (ox x)) = _ from hd _ (pVo_ltV hm (ox_lt hx)), nI_leI (by omega) (by omega), dn_iff]
  unfold lv
  omega
def GB (m : PMp) (w ms ts : Nat) (M : ME) : Prop := rM M ms m ∧ (∀ x, x < pN m → M.1 114 x = nI (pVo m x)) ∧ (∀ x, x < pN m → M.1 115 x = nI (pFo m x)) ∧ rRow M m w ∧ M.1 110 18 = nI ts
def tGo (ts : Nat) (k j : Nat) : Bool := match k with
  | 110 => j == 19 || j == 20
  | 120 => Nat.ble (16 * ts) j && Nat.ble j (16 * ts + 15)
  | 121 => Nat.ble (9 * ts + 1) j && Nat.ble j (9 * ts + 8)
  | _ => false
theorem GB_fr {M' : ME} (h : GB m w ms ts M) (f : Fr (tGo ts) M M') : GB m w ms ts M' := by
  obtain ⟨h1, h2, h3, h4, h5⟩ := h
  exact ⟨rM_fr h1 f rfl rfl (fun _ _ => rfl), fun x hx => (f.1 114 x rfl).trans (h2 x hx), fun x hx => (f.1 115 x rfl).trans (h3 x hx), fun v hv => (f.1 117 v rfl).trans (h4 v hv), (f.1 110 18 rfl).trans h5⟩
def GS (m : PMp) (w s ts : Nat) (M : ME) (a : Nat) : Prop := M.1 110 19 = nI a ∧ M.1 110 20 = nI (cnB (bkU m w s) a) ∧ (∀ j, j < a → M.1 120 (16 * ts + j) = nI (stJ (rhM m w) (oe m w) (kpF m) s j)) ∧ ∀ j, j < a → bkU m w s j = true → M.1 121 (9 * ts + (cnB (bkU m w s) j + 1)) = nI (lv m w (oe m w (bkC m w s j))) - nI (lv m w s)
theorem eq_i {a b : Nat} (ha : a < 2 ^ 31) (hb : b < 2 ^ 31) : nI a = nI b ↔ a = b := by
  constructor
  · intro e
    have x := (nI_leI (a := a) (b := b) ha hb).mp (by rw [e]; exact nI_le (Nat.le_refl _) hb)
    have y := (nI_leI (a := b) (b := a) hb ha).mp (by rw [e]; exact nI_le (Nat.le_refl _) hb)
    omega
  · intro e; rw [e]
theorem rotherHalf_ev {x : Nat} (hms : ms < 5) (F : Fit4 m w) (hB : GB m w ms ts M) (hx : Hd m w x = true) : EvI (E0 L xs) (d + 1) m10_otherHalf [.ref 110, .int (nI ms), .int (nI x)] M (fun r M' => r = nI (oe m w x) ∧ M' = M) := by
  have hm := F.1
  have hN := MV_N hm
  obtain ⟨hr, h114, h115, hrow, -⟩ := hB
  obtain ⟨a1, a2, a3, a4, a5⟩ := oe_all F hx
  have hxN := (Hd_iff.mp hx).1
  have hoN := (Hd_iff.mp a1).1
  have eE : 2 * gI M 112 ms = nI (pN m) := by rw [show gI M 112 ms = _ from hr.1]; exact pk_mul 2 _
  refine Ev_of k10_otherHalf rfl (Nat.le_of_ble_eq_true rfl) (b10_otherHalf_0 ?_)
  suffices ho : ∀ (q z : Nat), z + q = pN m → Wp (E0 L xs) (d + 1) m10_otherHalf 5 [.ref 110, .int (nI ms), .int (nI x), .int (nI (if oe m w x < z then oe m w x else x)), .int (nI z)] [] M (fun v' M' => ∃ r, v' = some (.int r) ∧ (r = nI (oe m w x) ∧ M' = M)) from ho (pN m) 0 (by omega)
  intro q
  induction q with
  | zero =>
    intro z hz
    refine b10_otherHalf_5 ms rfl hms (fun _ => b10_otherHalf_59 ⟨_, rfl, by rw [if_pos (by omega)], rfl⟩) (fun h => absurd (by rw [eE]; exact nI_le (by omega) (by omega)) h)
  | succ q ih =>
    intro z hz
    have hzN : z < pN m := by omega
    have hozN : ox z < pN m := ox_lt hzN
    have hoxN : ox x < pN m := ox_lt hxN
    have same : oe m w x ≠ z → (if oe m w x < z then oe m w x else x) = if oe m w x < z + 1 then oe m w x else x := fun h => by
      by_cases l : oe m w x < z
      · rw [if_pos l, if_pos (by omega)]
      · rw [if_neg l, if_neg (by omega)]
    have keep : oe m w x ≠ z → Wp (E0 L xs) (d + 1) m10_otherHalf 53 [.ref 110, .int (nI ms), .int (nI x), .int (nI (if oe m w x < z then oe m w x else x)), .int (nI z)] [] M (fun v' M' => ∃ r, v' = some (.int r) ∧ (r = nI (oe m w x) ∧ M' = M)) := fun h => by
      refine b10_otherHalf_53 ?_
      rw [nI_1, same h]
      exact ih (z + 1) (by omega)
    refine b10_otherHalf_5 ms rfl hms (fun h => absurd ((nI_leI (a := pN m) (b := z) (by omega) (by omega)).mp (by rw [← eE]; exact h)) (by omega)) (fun _ => b10_otherHalf_15 (fun y => keep (fun e => ?_)) (fun y => ?_))
    · rw [(eq_i (by omega) (by omega)).mp y] at e
      exact a3 e
    · have hzx : z ≠ x := fun e => y (by rw [e])
      refine b10_otherHalf_21 z rfl (by omega) (pVo m z) (h114 z hzN) (pVo_lt hm hzN) (ox z) (nI_ox (by omega)) (by omega) (pVo m (ox z)) (h114 _ hozN) (pVo_lt hm hozN) (fun u => ?_) (fun u => keep (fun e => ?_))
      · have hdn : dnB m w z = true := Classical.byContradiction fun z' => u ((rdn_le hm hrow hzN).mpr z')
        have hzH : Hd m w z = true := Hd_iff.mpr ⟨hzN, dn_iff.mp hdn⟩
        have f1 := pFo_ltF hm hozN
        have f2 := pFo_ltF hm hoxN
        have f3 := pFn_le hm
        refine b10_otherHalf_30 (ox z) (nI_ox (by omega)) (by omega) (ox x) (nI_ox (by omega)) (by omega) (fun t => keep (fun e => ?_)) (fun t => b10_otherHalf_50 (b10_otherHalf_53 ?_))
        · apply t
          rw [show gI M 115 (ox z) = _ from h115 _ hozN, show gI M 115 (ox x) = _ from h115 _ hoxN]
          have : kpF m z = kpF m x := by rw [← e]; exact a4
          exact congrArg nI this
        · rw [show gI M 115 (ox z) = _ from h115 _ hozN, show gI M 115 (ox x) = _ from h115 _ hoxN, eq_i (by omega) (by omega)] at t
          have ez : z = oe m w x := by
            rcases a5 z hzH t.symm with e | e
            · exact absurd e hzx
            · exact e
          have := ih (z + 1) (by omega)
          rw [if_pos (show oe m w x < z + 1 by omega)] at this
          rw [nI_1, congrArg nI ez]
          exact this
      · rw [← e] at u
        have := (rdn_le hm hrow hoN).mp (by rw [e] at u ⊢; exact u)
        exact this (dn_iff.mpr (Hd_iff.mp a1).2)
/-- z is the first dart down, from y on -/
def ND (m : PMp) (w y z : Nat) : Prop := ∃ k, z = it (pX m) k y ∧ (∀ j, j < k → ¬ dnB m w (it (pX m) j y) = true) ∧ dnB m w z = true
theorem ND_dn {y z : Nat} (h : ND m w y z) (hd : dnB m w y = true) : z = y := by
  obtain ⟨k, h1, h2, -⟩ := h
  cases k with
  | zero => exact h1
  | succ k => exact absurd hd (h2 0 (by omega))
theorem ND_up {y z : Nat} (h : ND m w y z) (hd : ¬ dnB m w y = true) : ND m w (pX m y) z := by
  obtain ⟨k, h1, h2, h3⟩ := h
  cases k with
  | zero => rw [h1] at h3; exact absurd h3 hd
  | succ k => exact ⟨k, h1, fun j hj => h2 (j + 1) (by omega), h3⟩
theorem ND_rh (hm : PV m) {x : Nat} (hx : Hd m w x = true) : ND m w (pX m x) (rhM m w x) := by
  obtain ⟨k, k1, k2, k3⟩ := rh_sp hm hx
  exact ⟨k, k1, k3, dn_iff.mpr (Hd_iff.mp k2).2⟩
theorem tGo_120 {j : Nat} (h : j < 16) : tGo ts 120 (16 * ts + j) = true := bleb (by omega) (by omega)
theorem tGo_121 {j : Nat} (h0 : 0 < j) (h : j < 9) : tGo ts 121 (9 * ts + j) = true := bleb (by omega) (by omega)
/-- round one vertex -/
theorem vloop {h p B e0 a0 : Nat} {x2 x5 : Int32} (hms : ms < 5) (hts : ts < 3) (F : Fit4 m w) (T : TT (pN m) (pE m / 2) (pVn m) (Hd m w) (Uv m w) (rhM m w) (oe m w) (pVo m) (kpF m)) (hs : Hd m w s = true) (hB : GB m w ms ts M) (hh : h < pN m) (hhd : dnB m w h = true) (hp : it (pX m) p h = h) (hmin : ∀ e, 0 < e → e < p → it (pX m) e h ≠ h) (hBn : B ≤ 2 * (pE m / 2))
    (hstep : ∀ e a, e0 ≤ e → (e = e0 → a = a0) → e < p → a ≤ B → bkC m w s a = it (pX m) e h → dnB m w (it (pX m) e h) = true → a < B ∧ chd (Hd m w) (oe m w) (pVo m) (pVo m s) (bkC m w s a))
    (hrec : ∀ a M1, a0 ≤ a → a < B → pVo m (bkC m w s a) = pVo m h → chd (Hd m w) (oe m w) (pVo m) (pVo m s) (bkC m w s a) → GB m w ms ts M1 → GS m w s ts M1 (a + 1) → ∃ t, a < t ∧ t + 1 ≤ B ∧ bkC m w s t = oe m w (bkC m w s a) ∧ EvV (E0 L xs) (d + 1) m10_goes [.ref 110, .int (nI ms), .int (nI (pX m (oe m w (bkC m w s a)))), .int (nI (oe m w (bkC m w s a))), .int (nI (lv m w s)), .int 0] M1 (fun M' => Fr (tGo ts) M1 M' ∧ GS m w s ts M' t)) :
    ∀ (q e a : Nat) (M1 : ME), e + q = p → e0 ≤ e → (e = e0 → a = a0) → a0 ≤ a → (e0 < e → dnB m w (it (pX m) e0 h) = true → a0 < a) → a ≤ B → ND m w (it (pX m) e h) (bkC m w s a) → Fr (tGo ts) M M1 → GS m w s ts M1 a → Wp (E0 L xs) (d + 2) m10_goes 20 [.ref 110, .int (nI ms), .int x2, .int (nI h), .int (nI (lv m w s)), .int x5, .int (nI (it (pX m) e h)), .int (if e = p then 0 else 1), .null] [] M1 (fun v' M' => v' = none ∧ (Fr (tGo ts) M M' ∧ ∃ a', a0 ≤ a' ∧ (e0 < p → dnB m w (it (pX m) e0 h) = true → a0 < a') ∧ a' ≤ B ∧ bkC m w s a' = h ∧ GS m w s ts M' a')) := by
  have hm := F.1
  have hN := MV_N hm
  have hE : m.1 ≤ 16 := hm.1
  have n8 : pE m / 2 ≤ 8 := by show m.1 / 2 ≤ 8; omega
  have hD := dyck_J T hs
  intro q
  induction q with
  | zero =>
    intro e a M1 he h1 h0 h2 h3 h4 h5 f1 g1
    have : e = p := by omega
    subst this
    rw [hp] at h5 ⊢
    rw [if_pos rfl]
    exact b10_goes_20 (fun _ => b10_goes_193 ⟨rfl, f1, a, h2, h3, h4, ND_dn h5 hhd, g1⟩) (fun z => absurd rfl z)
  | succ q ih =>
    intro e a M1 he h1 h0 h2 h3 h4 h5 f1 g1
    rw [if_neg (show ¬ e = p by omega)]
    have hB1 := GB_fr hB f1
    obtain ⟨b1, b2, b3, b4, b5⟩ := hB1
    have hyN := it_lt hm.2.1.1 e h hh
    have hoyN : ox (it (pX m) e h) < pN m := ox_lt hyN
    have eX : it (pX m) (e + 1) h = pX m (it (pX m) e h) := it_succ' _ e h
    have hXN := it_lt hm.2.1.1 (e + 1) h hh
    -- on to the next dart
    have next : ∀ (a' : Nat) (M2 : ME), a0 ≤ a' → (dnB m w (it (pX m) e0 h) = true → a0 < a') → a' ≤ B → ND m w (it (pX m) (e + 1) h) (bkC m w s a') → Fr (tGo ts) M M2 → GS m w s ts M2 a' → Wp (E0 L xs) (d + 2) m10_goes 168 [.ref 110, .int (nI ms), .int x2, .int (nI h), .int (nI (lv m w s)), .int x5, .int (nI (it (pX m) e h)), .int 1, .null] [] M2 (fun v' M' => v' = none ∧ (Fr (tGo ts) M M' ∧ ∃ a', a0 ≤ a' ∧ (e0 < p → dnB m w (it (pX m) e0 h) = true → a0 < a') ∧ a' ≤ B ∧ bkC m w s a' = h ∧ GS m w s ts M' a')) := fun a' M2 c1 c2 c3 c4 f2 g2 => by
      have hB2 := GB_fr hB f2
      have e111 : gI M2 111 (32 * ms + it (pX m) e h) = nI (it (pX m) (e + 1) h) := by rw [eX]; exact hB2.1.2.2 _ hyN
      have go := ih (e + 1) a' M2 (by omega) (by omega) (fun z => by omega) c1 (fun _ => c2) c3 c4 f2 g2
      refine b10_goes_168 (32 * ms + it (pX m) e h) (i32m _ _) (by omega) (fun z => b10_goes_187 (b10_goes_188 ?_)) (fun z => b10_goes_183 (b10_goes_188 ?_))
      · rw [e111] at z ⊢
        have z' := (eq_i (by omega) (by omega)).mp z
        have : e + 1 = p := by
          by_cases w' : e + 1 = p
          · exact w'
          · exact absurd z' (hmin (e + 1) (by omega) (by omega))
        rw [if_pos this] at go
        exact go
      · rw [e111] at z ⊢
        have : ¬ e + 1 = p := fun w' => z (by rw [w', hp])
        rw [if_neg this] at go
        exact go
    refine b10_goes_20 (fun z => absurd z (by decide)) (fun _ => b10_goes_25 (it (pX m) e h) rfl (by omega) (pVo m (it (pX m) e h)) (b2 _ hyN) (pVo_lt hm hyN) (ox (it (pX m) e h)) (nI_ox (by omega)) (by omega) (pVo m (ox (it (pX m) e h))) (b2 _ hoyN) (pVo_lt hm hoyN) (fun y => ?_) (fun y => ?_))
    · have hdn : dnB m w (it (pX m) e h) = true := Classical.byContradiction fun z' => y ((rdn_le hm b4 hyN).mpr z')
      have hca := ND_dn h5 hdn
      obtain ⟨hlt, hch⟩ := hstep e a h1 h0 (by omega) h4 hca hdn
      have hcH : Hd m w (bkC m w s a) = true := ph_H T hs a
      have haN : a < 2 * (pE m / 2) := by omega
      have hup : bkU m w s a = true := (up_chd T hs haN).mpr hch
      have hE2 : 1 < m.1 := by have : a < 2 * (m.1 / 2) := haN; omega
      have hcn : cnB (bkU m w s) a < pE m / 2 := by
        have := Dyck_lt hD haN (show stJ (rhM m w) (oe m w) (kpF m) s a = 1 from if_pos hup)
        rw [ups_c] at this
        exact this
      obtain ⟨o1, o2, o3, o4, o5⟩ := oe_all F hcH
      have hoN := (Hd_iff.mp o1).1
      have ecn : cnB (bkU m w s) (a + 1) = cnB (bkU m w s) a + 1 := by
        show cnB (bkU m w s) a + (if bkU m w s a = true then 1 else 0) = _
        rw [if_pos hup]
      obtain ⟨g19, g20, gst, glb⟩ := g1
      refine b10_goes_34 ms rfl hms (fun z => ?_) (fun _ => b10_goes_44 (R' := fun r M' => r = nI (oe m w (it (pX m) e h)) ∧ M' = M1) (rotherHalf_ev (d := d) hms F ⟨b1, b2, b3, b4, b5⟩ (by rw [← hca]; exact hcH)) (fun r M2 hr => ?_))
      · rw [show gI M1 112 ms = _ from b1.1] at z
        have : m.1 ≤ 1 := (nI_leI (a := m.1) (b := 1) (by omega) (by omega)).mp z
        omega
      · obtain ⟨rfl, rfl⟩ := hr
        rw [← hca]
        have e1 : 16 * gI M2 110 18 + gI M2 110 19 = nI (16 * ts + a) := by rw [show gI M2 110 18 = _ from b5, show gI M2 110 19 = _ from g19]; exact i16m ts a
        have e20 : gI M2 110 20 + 1 = nI (cnB (bkU m w s) a + 1) := by rw [show gI M2 110 20 = _ from g20, nI_1]
        have e19 : gI M2 110 19 + 1 = nI (a + 1) := by rw [show gI M2 110 19 = _ from g19, nI_1]
        have e4 : 9 * gI M2 110 18 + gI (sI (sI (sI M2 120 (16 * ts + a) 1) 110 19 (gI M2 110 19 + 1)) 110 20 (gI M2 110 20 + 1)) 110 20 = nI (9 * ts + (cnB (bkU m w s) a + 1)) := by
          rw [show gI (sI (sI (sI M2 120 (16 * ts + a) 1) 110 19 (gI M2 110 19 + 1)) 110 20 (gI M2 110 20 + 1)) 110 20 = _ from sI_eq _ _ _ _, e20, show gI M2 110 18 = _ from b5]
          exact i9m ts _
        have e117 : gI M2 117 (pVo m (oe m w (bkC m w s a))) = nI (lv m w (oe m w (bkC m w s a))) := b4 _ (pVo_ltV hm hoN)
        have e111 : gI M2 111 (32 * ms + oe m w (bkC m w s a)) = nI (pX m (oe m w (bkC m w s a))) := b1.2.2 _ hoN
        generalize hM3 : sI (sI (sI (sI M2 120 (16 * ts + a) 1) 110 19 (gI M2 110 19 + 1)) 110 20 (gI M2 110 20 + 1)) 121 (9 * ts + (cnB (bkU m w s) a + 1)) (gI M2 117 (pVo m (oe m w (bkC m w s a))) - nI (lv m w s)) = M3
        have f3 : Fr (tGo ts) M M3 := by
          subst hM3
          exact Fr_sI (Fr_sI (Fr_sI (Fr_sI f1 (tGo_120 (by omega))) rfl) rfl) (tGo_121 (by omega) (by omega))
        have g3 : GS m w s ts M3 (a + 1) := by
          subst hM3
          refine ⟨?_, ?_, fun j hj => ?_, fun j hj hju => ?_⟩
          · rw [sI_ne (Or.inl (by decide)), sI_ne (Or.inr (by decide)), sI_eq]; exact e19
          · rw [sI_ne (Or.inl (by decide)), sI_eq, ecn]; exact e20
          · rw [sI_ne (Or.inl (by decide)), sI_ne (Or.inl (by decide)), sI_ne (Or.inl (by decide)), sI_at]
            by_cases ej : j = a
            · rw [if_pos ⟨rfl, by rw [ej]⟩, ej, show stJ (rhM m w) (oe m w) (kpF m) s a = 1 from if_pos hup]; rfl
            · rw [if_neg (fun z => ej (by have := z.2; omega))]; exact gst j (by omega)
          · rw [sI_at]
            by_cases ej : j = a
            · rw [if_pos ⟨rfl, by rw [ej]⟩, ej, e117]
            · have := cnB_s (P := bkU m w s) (show j < a by omega) hju
              rw [if_neg (fun z => by have := z.2; omega), sI_ne (Or.inl (by decide)), sI_ne (Or.inl (by decide)), sI_ne (Or.inl (by decide))]
              exact glb j (by omega) hju
        obtain ⟨t, t1, t2, t3, hev⟩ := hrec a M3 h2 hlt (by rw [hca]; exact it_vo hm hh e) hch (GB_fr hB f3) g3
        refine b10_goes_51 (16 * ts + a) e1 (by omega) (oe m w (bkC m w s a)) rfl (by omega) (pVo m (oe m w (bkC m w s a))) (b2 _ hoN) (pVo_lt hm hoN) (9 * ts + (cnB (bkU m w s) a + 1)) e4 (by omega) (32 * ms + oe m w (bkC m w s a)) (i32m _ _) (by omega) (R' := fun M' => Fr (tGo ts) M3 M' ∧ GS m w s ts M' t) (by rw [hM3, e111]; exact hev) (fun M4 h4 => ?_)
        obtain ⟨f4, g19', g20', gst', glb'⟩ := h4
        have f4' := Fr_trans f3 f4
        have b5' : gI M4 110 18 = nI ts := (GB_fr hB f4').2.2.2.2
        have htN : t < 2 * (pE m / 2) := by omega
        have nup : ¬ bkU m w s t = true := fun z => by
          have hct := (up_chd T hs htN).mp z
          rw [show it (ph (rhM m w) (oe m w)) t s = bkC m w s t from rfl, t3] at hct
          exact chd_not T hs hcH hch hct
        have ecn2 : cnB (bkU m w s) (t + 1) = cnB (bkU m w s) t := by
          show cnB (bkU m w s) t + (if bkU m w s t = true then 1 else 0) = _
          rw [if_neg nup]; rfl
        refine b10_goes_140 (16 * ts + t) (by rw [b5', show gI M4 110 19 = _ from g19']; exact i16m ts t) (by omega) ?_
        rw [hca]
        refine next (t + 1) _ (by omega) (fun _ => by omega) t2 ?_ (Fr_sI (Fr_sI f4' (tGo_120 (by omega))) rfl) ⟨?_, ?_, fun j hj => ?_, fun j hj hju => ?_⟩
        · have en : bkC m w s (t + 1) = rhM m w (bkC m w s a) := by
            unfold bkC
            rw [it_succ']
            show rhM m w (oe m w (bkC m w s t)) = _
            rw [t3, o2]; rfl
          rw [en, eX, ← hca]
          exact ND_rh hm hcH
        · rw [sI_eq, show gI M4 110 19 = _ from g19', nI_1]
        · rw [sI_ne (Or.inr (by decide)), sI_ne (Or.inl (by decide)), ecn2]; exact g20'
        · rw [sI_ne (Or.inl (by decide)), sI_at]
          by_cases ej : j = t
          · rw [if_pos ⟨rfl, by rw [ej]⟩, ej, show stJ (rhM m w) (oe m w) (kpF m) s t = 0 from if_neg nup]; rfl
          · rw [if_neg (fun z => ej (by have := z.2; omega))]; exact gst' j (by omega)
        · rw [sI_ne (Or.inl (by decide)), sI_ne (Or.inl (by decide))]
          by_cases ej : j = t
          · rw [ej] at hju; exact absurd hju nup
          · exact glb' j (by omega) hju
    · have hnd := (rdn_le hm b4 hyN).mp y
      refine next a M1 h2 (fun hd0 => ?_) h4 (by rw [eX]; exact ND_up h5 hnd) f1 g1
      by_cases ee : e0 < e
      · exact h3 ee hd0
      · have : e = e0 := by omega
        rw [this] at hnd
        exact absurd hd0 hnd
end RBK
