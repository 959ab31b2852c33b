/-! codes: the reference's laysCode, the class's Namer -/
theorem nml_stop {m : PMp} {s k : Nat} (h : (nml m s k).length ≤ k) : ∀ k', k ≤ k' → nml m s k' = nml m s k := by
  intro k' hk
  induction k' with
  | zero => rw [Nat.le_zero.mp hk]
  | succ n ih =>
    by_cases e : k = n + 1
    · rw [e]
    · have h2 := ih (by omega)
      show rv (pX m) (nml m s n) _ _ = _
      rw [if_neg (by rw [h2]; omega)]
      exact h2
def tCd (r : Nat) (k j : Nat) : Bool := match k with
  | 126 => true
  | 127 => true
  | 128 => Nat.ble (32 * r) j && Nat.ble j (32 * r + 31)
  | _ => false
theorem tCd_t {r j : Nat} (h1 : 32 * r ≤ j) (h2 : j < 32 * r + 32) : tCd r 128 j = true := by
  show (Nat.ble _ _ && Nat.ble _ _) = true
  rw [Nat.ble_eq_true_of_le h1, Nat.ble_eq_true_of_le (by omega)]; rfl
section LC
variable {L : Nat} {xs : Nat → Int32} {d : Nat}
theorem laysCode_wp {s x r : Nat} {m : PMp} {M0 : ME} {R : Option Value → ME → Prop} (hs : s < 5) (hr : r < 2) (hm : PV m) (hrM : rM M0 s m) (hx : x < pN m ∨ (pE m = 0 ∧ x = 0)) (hR : ∀ M, Fr (tCd r) M0 M → (0 < pE m → ∀ i, i < (cdL m x).length → M.1 128 (32 * r + i) = cdV m x i) → R none M) : Wp (E0 L xs) (d + 1) m10_laysCode 0 [.ref 110, .int (nI s), .int (nI x), .int (nI r), .null, .null, .null, .null] [] M0 R := by
  have hN : 2 * m.1 ≤ 32 := by have := hm.1; omega
  have frM : ∀ M, Fr (tCd r) M0 M → rM M s m := fun M hF => rM_fr hrM hF rfl rfl (fun _ _ => rfl)
  refine b10_laysCode_0 ?_
  refine lpN 32 (fun i M => Fr (tCd r) M0 M ∧ ∀ v, v < i → M.1 126 v = -1) (fun i M => Wp (E0 L xs) (d + 1) m10_laysCode 3 [.ref 110, .int (nI s), .int (nI x), .int (nI r), .int (nI i), .null, .null, .null] [] M R) ?_ ?_ 0 _ (by decide) ⟨Fr_refl _ _, fun x hx => absurd hx (Nat.not_lt_zero _)⟩
  · intro M ⟨hF, hz⟩
    refine b10_laysCode_3 (fun _ => ?_) (fun h => absurd (by decide) h)
    have e2 : 2 * gI M 112 s = nI (pN m) := by rw [show gI M 112 s = _ from (frM M hF).1]; exact pk_mul 2 _
    refine b10_laysCode_24 s rfl hs (fun h => ?_) (fun h => ?_)
    · -- no edge
      rw [e2] at h
      have h0 : pN m ≤ 0 := (nI_leI (b := 0) (by show 2 * m.1 < _; omega) (by decide)).mp h
      refine b10_laysCode_70 (b10_laysCode_73 (fun _ => b10_laysCode_195 (b10_laysCode_198 (fun _ => b10_laysCode_240 (hR M hF (fun q => ?_))) (fun h => absurd (by decide) h))) (fun h => absurd (by decide) h))
      have : 2 * m.1 ≤ 0 := h0
      have h9 : 0 < m.1 := q
      omega
    · have hxN : x < pN m := by
        rcases hx with hx | hx
        · exact hx
        · exfalso; apply h; rw [e2]
          have : pN m = 0 := by show 2 * m.1 = 0; have h9 : m.1 = 0 := hx.1; omega
          rw [this]; decide
      have hx2 : x < 2 * m.1 := hxN
      have hox : ox x < 2 * m.1 := ox_lt hx2
      refine b10_laysCode_35 x rfl (by omega) (ox x) (nI_ox (by omega)) (by omega) 0 rfl (by decide) 1 rfl (by decide) (b10_laysCode_70 ?_)
      rw [nI_ox (by omega)]
      -- name by name
      suffices hloop : ∀ (q k : Nat) (M : ME), k + q = pN m → Fr (tCd r) M0 M → NmI (nml m x k) 126 127 M → Wp (E0 L xs) (d + 1) m10_laysCode 73 [.ref 110, .int (nI s), .int (nI x), .int (nI r), .int (nI (nml m x k).length), .int (nI k), .null, .null] [] M R by
        refine hloop (pN m) 0 _ (by omega) (Fr_sI (Fr_sI (Fr_sI (Fr_sI hF rfl) rfl) rfl) rfl) ?_
        refine ⟨fun i hi => ?_, fun y hy => ?_⟩
        · have hi : i < 2 := hi
          have : i = 0 ∨ i = 1 := by omega
          rcases this with rfl | rfl
          · rfl
          · rfl
        · show _ = nmV [x, ox x] y
          have e3 : nmV [x, ox x] y = if y = x then nI 0 else if y = ox x then nI 1 else -1 := nmV_app (l := []) (by simp) (by simp)
          rw [e3]
          show (sI (sI M 126 x 0) 126 (ox x) 1).1 126 y = _
          rw [sI_at, sI_at, hz y hy]
          have := ox_ne x
          by_cases q1 : y = x
          · subst q1
            rw [if_neg (fun q => this q.2.symm), if_pos ⟨rfl, rfl⟩, if_pos rfl]; rfl
          · by_cases q2 : y = ox x
            · rw [if_pos ⟨rfl, q2⟩, if_neg q1, if_pos q2]; rfl
            · rw [if_neg (fun q => q2 q.2), if_neg (fun q => q1 q.2), if_neg q1, if_neg q2]
      -- the end: codes
      have hend : ∀ (k : Nat) (M : ME), Fr (tCd r) M0 M → nml m x k = cdL m x → NmI (nml m x k) 126 127 M → Wp (E0 L xs) (d + 1) m10_laysCode 195 [.ref 110, .int (nI s), .int (nI x), .int (nI r), .int (nI (nml m x k).length), .int (nI k), .null, .null] [] M R := by
        intro k M hF hk hM
        rw [hk] at hM ⊢
        have hl : (cdL m x).length ≤ pN m := nd_le (NL_nml hm.2.1 hxN _).1 (NL_nml hm.2.1 hxN _).2.1
        have hl2 : (cdL m x).length ≤ 2 * m.1 := hl
        refine b10_laysCode_195 ?_
        refine lpN (cdL m x).length (fun i M => Fr (tCd r) M0 M ∧ NmI (cdL m x) 126 127 M ∧ ∀ j, j < i → M.1 128 (32 * r + j) = cdV m x j) (fun i M => Wp (E0 L xs) (d + 1) m10_laysCode 198 [.ref 110, .int (nI s), .int (nI x), .int (nI r), .int (nI (cdL m x).length), .int (nI i), .null, .null] [] M R) ?_ ?_ 0 M (Nat.zero_le _) ⟨hF, hM, fun j hj => absurd hj (Nat.not_lt_zero _)⟩
        · intro M ⟨hF, hM, hc⟩
          exact b10_laysCode_198 (fun _ => b10_laysCode_240 (hR M hF (fun _ => hc))) (fun h => absurd (nI_le (Nat.le_refl _) (by omega)) h)
        · intro i M hi ⟨hF, hM, hc⟩ ih
          have hy := (NL_nml hm.2.1 hxN (pN m)).2.1 _ (getD_mem hi)
          have hy2 : (cdL m x).getD i 0 < 2 * m.1 := hy
          have hfy : pX m ((cdL m x).getD i 0) < 2 * m.1 := hm.2.1.1 _ hy
          refine b10_laysCode_198 (fun h => absurd ((nI_leI (by omega) (by omega)).mp h) (by omega)) (fun _ => ?_)
          refine b10_laysCode_205 i rfl (by omega) (32 * s + (cdL m x).getD i 0) (by rw [show gI M 127 i = _ from hM.1 i hi]; exact i32m _ _) (by omega) (pX m ((cdL m x).getD i 0)) ((frM M hF).2.2 _ hy) (by omega) (32 * r + i) (i32m _ _) (by omega) ?_
          rw [nI_1, show gI M 126 (pX m ((cdL m x).getD i 0)) = cdV m x i from hM.2 _ (by omega)]
          refine ih _ ⟨Fr_sI hF (tCd_t (by omega) (by omega)), ⟨fun j hj => ?_, fun y hy => ?_⟩, fun j hj => ?_⟩
          · exact hM.1 j hj
          · exact hM.2 y hy
          · rw [sI_at]
            by_cases e : j = i
            · subst e; rw [if_pos ⟨rfl, rfl⟩]
            · rw [if_neg (fun q => e (by omega))]; exact hc j (by omega)
      intro q
      induction q with
      | zero =>
        intro k M hk hF hM
        have hl : (nml m x k).length ≤ pN m := nd_le (NL_nml hm.2.1 hxN _).1 (NL_nml hm.2.1 hxN _).2.1
        have hl2 : (nml m x k).length ≤ 2 * m.1 := hl
        have hk2 : k = 2 * m.1 := by have h9 : k + 0 = 2 * m.1 := hk; omega
        refine b10_laysCode_73 (fun _ => hend k M hF (by unfold cdL; rw [show k = pN m from hk2]) hM) (fun h => absurd (nI_le (by omega) (by omega)) h)
      | succ q ih =>
        intro k M hk hF hM
        have hNL := NL_nml hm.2.1 hxN k
        have hl : (nml m x k).length ≤ pN m := nd_le hNL.1 hNL.2.1
        have hl2 : (nml m x k).length ≤ 2 * m.1 := hl
        have hk2 : k + (q + 1) = 2 * m.1 := hk
        refine b10_laysCode_73 (fun h => ?_) (fun h => ?_)
        · have h1 := (nI_leI (by omega) (by omega)).mp h
          exact hend k M hF (by unfold cdL; exact (nml_stop h1 _ (show k ≤ 2 * m.1 by omega)).symm) hM
        · have hkl : k < (nml m x k).length := by
            rcases Nat.lt_or_ge k (nml m x k).length with z | z
            · exact z
            · exact absurd (nI_le z (by omega)) h
          have hy := hNL.2.1 _ (getD_mem hkl)
          generalize hyy : (nml m x k).getD k 0 = y at hy
          have hy2 : y < 2 * m.1 := hy
          obtain ⟨p, hp, p0, ppN, pd, pl⟩ := dgx_per hm.2.1 hy
          have hnx : nml m x (k + 1) = rv (pX m) (nml m x k) y p := by
            show rv (pX m) (nml m x k) ((nml m x k).getD k 0) (if k < (nml m x k).length then dgx m ((nml m x k).getD k 0) else 0) = _
            rw [if_pos hkl, hyy, hp]
          refine b10_laysCode_80 k rfl (by omega) ?_
          rw [show gI M 127 k = nI y from by rw [show gI M 127 k = _ from hM.1 k hkl, hyy]]
          -- the round
          suffices hw : ∀ (w i : Nat) (M : ME), i + w = p → Fr (tCd r) M0 M → NmI (rv (pX m) (nml m x k) y i) 126 127 M → Wp (E0 L xs) (d + 1) m10_laysCode 92 [.ref 110, .int (nI s), .int (nI x), .int (nI r), .int (nI (rv (pX m) (nml m x k) y i).length), .int (nI k), .int (nI (it (pX m) i y)), .int (if i = p then 0 else 1)] [] M R by
            have := hw p 0 M (by omega) hF hM
            rw [if_neg (by omega)] at this
            exact this
          intro w
          induction w with
          | zero =>
            intro i M hi hF hM
            have hip : i = p := by omega
            subst hip
            rw [if_pos rfl]
            refine b10_laysCode_92 (fun _ => b10_laysCode_189 ?_) (fun h => absurd rfl h)
            rw [nI_1, ← hnx]
            exact ih (k + 1) M (by omega) hF (by rw [hnx]; exact hM)
          | succ w ihw =>
            intro i M hi hF hM
            rw [if_neg (show ¬ i = p by omega)]
            have hNLi := NL_rv (n := m.1) rfl hm.2.1.1 hNL hy i
            have hli : (rv (pX m) (nml m x k) y i).length ≤ 2 * m.1 := nd_le hNLi.1 hNLi.2.1
            have hpre := rv_pre (g := pX m) (x := y) hkl i
            have hz : it (pX m) i y < 2 * m.1 := it_lt hm.2.1.1 i y hy
            have hoz : ox (it (pX m) i y) < 2 * m.1 := ox_lt hz
            -- behind the visit
            have hgo : ∀ M : ME, Fr (tCd r) M0 M → NmI (rv (pX m) (nml m x k) y (i + 1)) 126 127 M → Wp (E0 L xs) (d + 1) m10_laysCode 158 [.ref 110, .int (nI s), .int (nI x), .int (nI r), .int (nI (rv (pX m) (nml m x k) y (i + 1)).length), .int (nI k), .int (nI (it (pX m) i y)), .int 1] [] M R := by
              intro M hF hM
              have hpre2 := rv_pre (g := pX m) (x := y) hkl (i + 1)
              have e7 : gI M 127 k = nI y := by
                show M.1 127 k = _
                rw [hM.1 k (by omega)]
                congr 1
                refine Eq.trans ?_ hyy
                show ((rv (pX m) (nml m x k) y (i + 1))[k]?).getD 0 = ((nml m x k)[k]?).getD 0
                rw [hpre2.1]
              have e8 : gI M 111 (32 * s + it (pX m) i y) = nI (it (pX m) (i + 1) y) := by
                rw [it_succ' (pX m) i y]; exact (frM M hF).2.2 _ hz
              have hz2 : it (pX m) (i + 1) y < 2 * m.1 := it_lt hm.2.1.1 _ y hy
              refine b10_laysCode_158 (32 * s + it (pX m) i y) (i32m _ _) (by omega) k rfl (by omega) (fun h => ?_) (fun h => ?_)
              · rw [e8, e7] at h
                have h2 := (nI_eq (by omega) (by omega)).mp h
                have h3 : i + 1 = p := by
                  rw [it_succ' (pX m) i y] at h2
                  exact (wk_last hm.2.1 hy pd pl (by omega)).mp h2
                rw [e8]
                have := ihw (i + 1) M (by omega) hF hM
                rw [if_pos h3] at this
                exact b10_laysCode_183 (b10_laysCode_184 this)
              · rw [e8, e7] at h
                have h3 : ¬ i + 1 = p := fun z => h (by rw [z, pd])
                rw [e8]
                have := ihw (i + 1) M (by omega) hF hM
                rw [if_neg h3] at this
                exact b10_laysCode_179 (b10_laysCode_184 this)
            refine b10_laysCode_92 (fun h => absurd h (by decide)) (fun _ => b10_laysCode_97 (it (pX m) i y) rfl (by omega) (fun h => ?_) (fun h => ?_))
            · have hin : it (pX m) i y ∈ rv (pX m) (nml m x k) y i := Classical.byContradiction fun z => h ((hM.2 _ (by omega)).trans ((nmV_none (by omega)).mpr z))
              have e9 : rv (pX m) (nml m x k) y (i + 1) = rv (pX m) (nml m x k) y i := if_pos hin
              have := hgo M hF (by rw [e9]; exact hM)
              rw [e9] at this
              exact this
            · have hnin : it (pX m) i y ∉ rv (pX m) (nml m x k) y i := (nmV_none (by omega)).mp ((hM.2 _ (by omega)).symm.trans h)
              have e9 : rv (pX m) (nml m x k) y (i + 1) = rv (pX m) (nml m x k) y i ++ [it (pX m) i y, ox (it (pX m) i y)] := if_neg hnin
              have hnin2 : ox (it (pX m) i y) ∉ rv (pX m) (nml m x k) y i := fun z => hnin (by have := hNLi.2.2 _ z; rw [ox_ox] at this; exact this)
              have hNL2 := NL_rv (n := m.1) rfl hm.2.1.1 hNL hy (i + 1)
              have hl3 : (rv (pX m) (nml m x k) y (i + 1)).length ≤ 2 * m.1 := nd_le hNL2.1 hNL2.2.1
              have hl4 : (rv (pX m) (nml m x k) y (i + 1)).length = (rv (pX m) (nml m x k) y i).length + 2 := by rw [e9, List.length_append]; rfl
              refine b10_laysCode_108 (it (pX m) i y) rfl (by omega) (ox (it (pX m) i y)) (nI_ox (by omega)) (by omega) (rv (pX m) (nml m x k) y i).length rfl (by omega) ((rv (pX m) (nml m x k) y i).length + 1) (nI_1 _) (by omega) ?_
              rw [nI_ox (by omega), nI_1, show nI (rv (pX m) (nml m x k) y i).length + 2 = nI ((rv (pX m) (nml m x k) y i).length + 2) from nI_add _ 2, ← hl4]
              refine hgo _ (Fr_sI (Fr_sI (Fr_sI (Fr_sI hF rfl) rfl) rfl) rfl) ?_
              rw [e9]
              refine NmI_app hM hnin hnin2 (fun z => ?_) (fun j => ?_)
              · have := ox_ne (it (pX m) i y)
                rw [sI_ne (Or.inl (by decide)), sI_ne (Or.inl (by decide)), sI_at, sI_at]
                by_cases q1 : z = it (pX m) i y
                · rw [if_neg (fun q => this (q.2.symm.trans q1)), if_pos ⟨rfl, q1⟩, if_pos q1]
                · by_cases q2 : z = ox (it (pX m) i y)
                  · rw [if_pos ⟨rfl, q2⟩, if_neg q1, if_pos q2]
                  · rw [if_neg (fun q => q2 q.2), if_neg (fun q => q1 q.2), if_neg q1, if_neg q2]
              · rw [sI_at, sI_at, sI_ne (Or.inl (by decide)), sI_ne (Or.inl (by decide))]
                by_cases q1 : j = (rv (pX m) (nml m x k) y i).length
                · rw [if_neg (fun q => by have := q.2; omega), if_pos ⟨rfl, q1⟩, if_pos q1]
                · by_cases q2 : j = (rv (pX m) (nml m x k) y i).length + 1
                  · rw [if_pos ⟨rfl, q2⟩, if_neg q1, if_pos q2]
                  · rw [if_neg (fun q => q2 q.2), if_neg (fun q => q1 q.2), if_neg q1, if_neg q2]
  · intro i M hi ⟨hF, hz⟩ ih
    refine b10_laysCode_3 (fun h => absurd ((nI_leI (a := 32) (by decide) (by omega)).mp h) (by omega)) (fun _ => b10_laysCode_10 i rfl hi ?_)
    rw [nI_1]
    refine ih _ ⟨Fr_sI hF rfl, fun v hv => ?_⟩
    rw [sI_at]
    by_cases e : v = i
    · rw [if_pos ⟨rfl, e⟩]
    · rw [if_neg (fun q => e q.2)]; exact hz v (by omega)
theorem laysCode_ev {s x r : Nat} {m : PMp} {M0 : ME} (hs : s < 5) (hr : r < 2) (hm : PV m) (hrM : rM M0 s m) (hx : x < pN m ∨ (pE m = 0 ∧ x = 0)) : EvV (E0 L xs) (d + 1) m10_laysCode [.ref 110, .int (nI s), .int (nI x), .int (nI r)] M0 (fun M => Fr (tCd r) M0 M ∧ (0 < pE m → ∀ i, i < (cdL m x).length → M.1 128 (32 * r + i) = cdV m x i)) :=
  Ev_of k10_laysCode rfl (Nat.le_of_ble_eq_true rfl) (laysCode_wp hs hr hm hrM hx (fun _ h1 h2 => ⟨rfl, h1, h2⟩))
end LC
