/-! the reference: a round is read -/
section RRO
variable {L : Nat} {xs : Nat → Int32} {d : Nat} {M : ME} {tb : Nat → Int32} {len : Nat}
def ChR (l : List Nat) (M : ME) : Prop := ∀ a, a + 1 < l.length → M.1 111 (128 + l.getD a 0) = nI (l.getD (a + 1) 0)
def RnQ (tb : Nat → Int32) (len i : Nat) (M : ME) : ME → Prop := fun M' => Fr tRr M M' ∧ ((∃ i', i < i' ∧ qF (run tb i') = none ∧ qW (run tb i') = 0 ∧ RDR len (run tb i') i' M' ∧ ¬ isBl (sgn tb len i')) ∨ (RFin tb len M' ∧ ∃ i', i' ≤ len ∧ M'.1 110 24 = nI i'))
theorem tRr_n {x : Nat} (h : x < 32) : tRr 111 (128 + x) = true := bleb (by omega) (by omega)
theorem i128 (x : Nat) : 32 * 4 + nI x = nI (128 + x) := by rw [show (32 : Int32) * 4 = nI 128 from rfl, nI_add]
theorem RDR_111 {s : RSt} {i y : Nat} {v : Int32} (h : RDR len s i M) (hy : ∀ r, r ∈ qR s → y ∉ r) : RDR len s i (sI M 111 (128 + y) v) := by
  obtain ⟨h1, h2, h3, h4, h5, h6, h7⟩ := h
  have E : ∀ k j, k ≠ 111 → (sI M 111 (128 + y) v).1 k j = M.1 k j := fun k j hk => sI_ne (Or.inl hk)
  refine ⟨h1, (E _ _ (by decide)).trans h2, RN_fr h3 (fun j _ => E _ _ (by decide)), (E _ _ (by decide)).trans h4, fun u hu => by rw [E _ _ (by decide)]; exact h5 u hu, (E _ _ (by decide)).trans h6, fun r hr x hx => ?_⟩
  rw [sI_ne (Or.inr (fun e => hy r hr (by rw [← show x = y by omega]; exact hx)))]
  exact h7 r hr x hx
theorem readsRound_ev {i : Nat} (hB : Bas tb len M) (hf : qF (run tb i) = none) (hw : qW (run tb i) = 0) (hil : i < len) (hb : ¬ isBl (sgn tb len i)) (hR : RDR len (run tb i) i M) : EvV (E0 L xs) (d + 3) m10_readsRound [.ref 110] M (RnQ tb len i M) := by
  have hl : len ≤ 300 := hB.1
  have a24 : gI M 110 24 = nI i := hR.2.1
  refine Ev_of k10_readsRound rfl (Nat.le_of_ble_eq_true rfl) ?_
  generalize hM0 : sI (sI M 110 28 (gI M 110 24)) 110 29 0 = M0
  have f0 : Fr tRr M M0 := by subst hM0; exact Fr_sI (Fr_sI (Fr_refl _ _) rfl) rfl
  have k0 : ∀ k, k ≠ 28 → k ≠ 29 → M0.1 110 k = M.1 110 k := fun k a b => by subst hM0; rw [sI_ne (Or.inr b), sI_ne (Or.inr a)]
  have m28 : M0.1 110 28 = nI i := by subst hM0; rw [sI_ne (Or.inr (by decide)), sI_eq]; exact a24
  have m29 : M0.1 110 29 = nI 0 := by subst hM0; rw [sI_eq]; rfl
  have m24 : M0.1 110 24 = nI i := (k0 24 (by decide) (by decide)).trans a24
  have m111 : M0.1 111 = M.1 111 := by subst hM0; rw [sI_row (by decide), sI_row (by decide)]
  have hB0 := Bas_fr hB f0
  have F0 : RN M0 := RN_fr hR.2.2.1 (fun j h => k0 j (by omega) (by omega))
  have z25 : gI M0 110 25 = 0 := F0.1
  have quit : ∀ (M1 : ME) (x y : Int32), RFin tb len M1 → Fr tRr M M1 → (∃ i', i' ≤ len ∧ M1.1 110 24 = nI i') → Wp (E0 L xs) (d + 3) m10_readsRound 52 [.ref 110, .int x, .int y, .null] [] M1 (fun v' M' => v' = none ∧ RnQ tb len i M M') := fun M1 x y hF f1 e1 => b10_readsRound_52 (fun z => absurd z hF.2) (fun _ => b10_readsRound_103 (fun z => absurd z hF.2) (fun _ => b10_readsRound_110 ⟨rfl, f1, Or.inr ⟨hF, e1⟩⟩))
  refine b10_readsRound_0 (R' := fun r M' => r = sgn tb len i ∧ M' = M0) (by rw [hM0]; exact see_ev (d := d + 2) hB0 (by omega) m24) (fun r M1 hr => ?_)
  obtain ⟨rfl, rfl⟩ := hr
  refine b10_readsRound_17 (fun h40 => ?_) (fun h40 => b10_readsRound_22 (R' := fun M2 => Fr tFa M1 M2 ∧ M2.1 110 24 = M1.1 110 24 ∧ RF M2 (if 1 = 2 ∨ 1 = 3 then (nI 1, nI i, M1.1 110 27, M1.1 110 28, M1.1 110 29) else flV (some (1, i, none)))) (by rw [show gI M1 110 24 = _ from m24]; exact faulty_ev (d := d + 2) (k := 1) (p := i) (by omega) F0) (fun M2 h2 => ?_))
  · -- opened
    rw [sgn_lt hil] at h40
    have r1 : run tb (i + 1) = (none, qR (run tb i), [], 1, i, 0, 0) := by
      show stp (run tb i) (tb i) i = _
      unfold stp
      rw [if_pos hf, if_neg (by rw [h40]; decide), show eN (run tb i) = run tb i from eN_id (fun q => by omega), if_pos hf]
      exact if_pos ⟨h40, hw⟩
    have fA : Fr tRr M (sI M1 110 24 (gI M1 110 24 + 1)) := Fr_sI f0 rfl
    refine b10_readsRound_31 (R' := fun M2 => Fr t24 (sI M1 110 24 (gI M1 110 24 + 1)) M2 ∧ ∃ k, i + 1 + k ≤ len ∧ M2.1 110 24 = nI (i + 1 + k) ∧ (∀ x, i + 1 ≤ x → x < i + 1 + k → isBl (tb x)) ∧ ¬ isBl (sgn tb len (i + 1 + k))) (skips_ev (d := d + 1) (Bas_fr hB fA) (by omega) (by rw [sI_eq, show gI M1 110 24 = _ from m24, nI_1])) (fun M2 h2 => ?_)
    obtain ⟨f2, k, b1, b2, b3, b4⟩ := h2
    obtain ⟨q1, q2⟩ := run_bl k b3
    have fB : Fr tRr M M2 := Fr_trans fA (t24_r f2)
    have k2 : ∀ x, x ≠ 24 → M2.1 110 x = M1.1 110 x := fun x hx => (f2.1 110 x (t24_f (Or.inr hx))).trans (sI_ne (Or.inr hx))
    have hs1 : eN (run tb (i + 1 + k)) = (none, qR (run tb i), [], 1, i, 0, 0) := by rw [q1, r1]; rfl
    have hI0 := run_RI tb i
    have hC0 : qC (run tb i) = [] := (hI0.2.2 hf).2.1 hw
    have et : toL (none, qR (run tb i), [], 1, i, 0, 0) = toL (run tb i) := by unfold toL; rw [hC0]
    have hR2 : RDR len (eN (run tb (i + 1 + k))) (i + 1 + k) M2 := by
      rw [hs1]
      refine ⟨b1, b2, RN_fr F0 (fun j h => k2 j (by omega)), ?_, fun u hu => ?_, ?_, fun r hr x hx => ?_⟩
      · rw [k2 27 (by decide), k0 27 (by decide) (by decide)]; exact hR.2.2.2.1
      · rw [et, k2 31 (by decide), k0 31 (by decide) (by decide)]; exact hR.2.2.2.2.1 u hu
      · rw [et, k2 32 (by decide), k0 32 (by decide) (by decide)]; exact hR.2.2.2.2.2.1
      · rw [f2.1 111 _ (t24_f (Or.inl (by decide))), sI_ne (Or.inl (by decide)), m111]; exact hR.2.2.2.2.2.2 r hr x hx
    have p2 : Pnd tb len (i + 1 + k) := fun _ _ => by
      by_cases k0 : k = 0
      · subst k0
        rw [Nat.add_zero, r1]; show ¬ 1 = 3; omega
      · rw [q2 (by omega), r1]; show ¬ 1 = 3; omega
    refine b10_readsRound_45 (readsDart_ev (d := d) (Bas_fr hB fB) rfl (by rw [hs1]) (by rw [hs1]; exact Or.inl rfl) b4 (by rw [hs1]; exact fun z => absurd z (by show ¬ 1 = 2; omega)) p2 hR2 (by rw [hs1, k2 28 (by decide)]; exact m28) (by rw [hs1, k2 29 (by decide)]; exact m29)) (fun r M3 h3 => b10_readsRound_49 ?_)
    obtain ⟨f3, h3⟩ := h3
    have fC : Fr tRr M M3 := Fr_trans fB (tRd_r f3)
    have k3 : ∀ x, x = 27 ∨ x = 28 ∨ x = 29 → M3.1 110 x = M2.1 110 x := fun x hx => f3.1 110 x (by rcases hx with rfl | rfl | rfl <;> rfl)
    rcases h3 with ⟨v, j, rfl, hv, hij, c1, c2, c3, c4, c5, c6, c7, c8⟩ | ⟨hF, he⟩
    · rw [hs1] at c2 c3 c5
      -- the loop
      suffices ho : ∀ (q j : Nat) (l : List Nat) (M4 : ME), j + q = len → i < j → Fr tRr M M4 → qF (eN (run tb j)) = none → qR (eN (run tb j)) = qR (run tb i) → qC (eN (run tb j)) = l → l ≠ [] → qW (eN (run tb j)) = 2 → qP (eN (run tb j)) = i → RDR len (eN (run tb j)) j M4 → ¬ isBl (sgn tb len j) → Pnd tb len j → ChR l M4 → M4.1 110 28 = nI i → M4.1 110 29 = nI (l.length - 1) → Wp (E0 L xs) (d + 3) m10_readsRound 52 [.ref 110, .int (nI (l.getD 0 0)), .int (nI (l.getD (l.length - 1) 0)), .null] [] M4 (fun v' M' => v' = none ∧ RnQ tb len i M M') by
        have := ho (len - j) j [v] M3 (by have := c6.1; omega) (by omega) fC c1 c2 c3 (by simp) c4 c5 c6 c7 c8 (fun a ha => absurd ha (by show ¬ a + 1 < 1; omega)) (by rw [k3 28 (by decide), k2 28 (by decide)]; exact m28) (by rw [k3 29 (by decide), k2 29 (by decide)]; exact m29)
        exact this
      intro q
      induction q using Nat.strongRecOn with
      | _ q ih =>
      intro j l M4 hjq hij f4 c1 c2 c3 hl0 c4 c5 c6 c7 c8 hch e28 e29
      have hB4 := Bas_fr hB f4
      have hI4 := eN_RI (run_RI tb j)
      have hnd : (l ++ (qR (run tb i)).flatten).Nodup := by
        have := hI4.1
        unfold toL at this
        rw [c3, c2] at this; exact this
      have hl32 : ∀ z, z ∈ l → z < 32 := fun z hz => hI4.2.1 z (by unfold toL; rw [c3]; exact List.mem_append_left _ hz)
      have hlen : 0 < l.length := List.length_pos_iff.mpr hl0
      have hlast : l.getD (l.length - 1) 0 ∈ l := getD_mem (by omega)
      have hln := (List.nodup_append.mp hnd).1
      have hl33 : l.length ≤ 32 := nd_le hln hl32
      have apart : ∀ x, x ∈ l → ∀ r, r ∈ qR (run tb i) → x ∉ r := fun x hx r hr hxr => (List.nodup_append.mp hnd).2.2 x hx x (List.mem_flatten.mpr ⟨r, hr, hxr⟩) rfl
      refine b10_readsRound_52 (fun _ => b10_readsRound_59 (see_ev (d := d + 2) hB4 c6.1 c6.2.1) (fun r M5 hr => ?_)) (fun z => absurd c6.2.2.1.1 z)
      obtain ⟨rfl, rfl⟩ := hr
      refine b10_readsRound_63 (fun h41 => b10_readsRound_103 (fun _ => ?_) (fun z => absurd c6.2.2.1.1 z)) (fun h41 => ?_)
      · -- closed
        have hjl : j < len := by
          by_cases w : j < len
          · exact w
          · unfold sgn at h41; rw [if_neg w] at h41; exact absurd h41 (by decide)
        rw [sgn_lt hjl] at h41
        have rc : run tb (j + 1) = (none, l :: qR (run tb i), [], 0, i, 0, 0) := by
          show stp (run tb j) (tb j) j = _
          unfold stp
          rw [if_pos (eN_none c1), if_neg (by rw [h41]; decide), if_pos c1]
          unfold stO
          rw [if_neg (fun z => by omega), if_pos ⟨h41, c4⟩, c2, c3, c5]
        generalize hM6 : sI (sI M5 111 (128 + l.getD (l.length - 1) 0) (nI (l.getD 0 0))) 110 24 (nI (j + 1)) = M6
        have f6 : Fr tRr M M6 := by subst hM6; exact Fr_sI (Fr_sI f4 (tRr_n (hl32 _ hlast))) rfl
        have k6 : ∀ x, x ≠ 24 → M6.1 110 x = M5.1 110 x := fun x hx => by subst hM6; rw [sI_ne (Or.inr hx), sI_ne (Or.inl (by decide))]
        refine b10_readsRound_111 (R' := fun M7 => Fr t24 M6 M7 ∧ ∃ k, j + 1 + k ≤ len ∧ M7.1 110 24 = nI (j + 1 + k) ∧ (∀ x, j + 1 ≤ x → x < j + 1 + k → isBl (tb x)) ∧ ¬ isBl (sgn tb len (j + 1 + k))) (128 + l.getD (l.length - 1) 0) (i128 _) (by have := hl32 _ hlast; omega) ?_ (fun M7 h7 => b10_readsRound_132 ⟨rfl, ?_, Or.inl ?_⟩)
        · rw [show gI M5 110 24 = _ from c6.2.1, nI_1, hM6]
          exact skips_ev (d := d + 1) (Bas_fr hB f6) (by omega) (by subst hM6; exact sI_eq _ _ _ _)
        · exact Fr_sI (Fr_trans f6 (t24_r h7.1)) rfl
        · obtain ⟨f7, k, b1, b2, b3, b4⟩ := h7
          obtain ⟨q1, q2⟩ := run_bl k b3
          have rk : run tb (j + 1 + k) = (none, l :: qR (run tb i), [], 0, i, 0, 0) := by
            by_cases k0 : k = 0
            · subst k0; exact rc
            · rw [q2 (by omega), rc]; rfl
          have k7 : ∀ x, x ≠ 24 → M7.1 110 x = M5.1 110 x := fun x hx => (f7.1 110 x (t24_f (Or.inr hx))).trans (k6 x hx)
          have et : toL (none, l :: qR (run tb i), [], 0, i, 0, 0) = toL (eN (run tb j)) := by
            unfold toL; rw [c3, c2]; rfl
          have E : ∀ x, x ≠ 27 → (sI M7 110 27 (gI M7 110 27 + 1)).1 110 x = M7.1 110 x := fun x hx => sI_ne (Or.inr hx)
          refine ⟨j + 1 + k, by omega, by rw [rk], by rw [rk], ?_, b4⟩
          rw [rk]
          refine ⟨b1, (E 24 (by decide)).trans b2, RN_fr c6.2.2.1 (fun x h => (E x (by omega)).trans (k7 x (by omega))), ?_, fun u hu => ?_, ?_, fun r hr x hx => ?_⟩
          · rw [sI_eq, show gI M7 110 27 = M5.1 110 27 from k7 27 (by decide), c6.2.2.2.1, c2, nI_1]; rfl
          · rw [et, E 31 (by decide), k7 31 (by decide)]; exact c6.2.2.2.2.1 u hu
          · rw [et, E 32 (by decide), k7 32 (by decide)]; exact c6.2.2.2.2.2.1
          · rw [sI_ne (Or.inl (by decide)), f7.1 111 _ (t24_f (Or.inl (by decide)))]
            subst hM6
            rw [sI_ne (Or.inl (by decide)), sI_at]
            rcases List.mem_cons.mp hr with er | er
            · rw [er] at hx ⊢
              have hi := List.idxOf_lt_length_of_mem hx
              by_cases ei : l.idxOf x = l.length - 1
              · have ex : x = l.getD (l.length - 1) 0 := by rw [← ei, at_idx hx]
                rw [if_pos ⟨rfl, by rw [← ex]⟩]
                unfold nxL
                rw [ei, show l.length - 1 + 1 = l.length by omega, Nat.mod_self]
              · rw [if_neg (fun z => ei ?_)]
                · have := hch (l.idxOf x) (by omega)
                  rw [at_idx hx] at this
                  rw [this]
                  unfold nxL
                  rw [Nat.mod_eq_of_lt (by omega)]
                · have : x = l.getD (l.length - 1) 0 := by have := z.2; omega
                  rw [this, idx_at hln (by omega)]
            · rw [if_neg (fun z => apart _ hlast r er (by have : x = l.getD (l.length - 1) 0 := by have := z.2; omega
                                                          rw [← this]; exact hx))]
              exact c6.2.2.2.2.2.2 r (by rw [c2]; exact er) x hx
      · -- a further dart
        generalize hM6 : sI M5 110 29 (gI M5 110 29 + 1) = M6
        have f6 : Fr tRr M M6 := by subst hM6; exact Fr_sI f4 rfl
        have k6 : ∀ x, x ≠ 29 → M6.1 110 x = M5.1 110 x := fun x hx => by subst hM6; exact sI_ne (Or.inr hx)
        have m111' : M6.1 111 = M5.1 111 := by subst hM6; exact sI_row (by decide)
        have e29' : M6.1 110 29 = nI l.length := by
          subst hM6
          rw [sI_eq, show gI M5 110 29 = _ from e29, nI_1]; congr 1; omega
        have hR6 : RDR len (eN (run tb j)) j M6 := by
          obtain ⟨h1, h2, h3, h4, h5, h6, h7⟩ := c6
          refine ⟨h1, (k6 24 (by decide)).trans h2, RN_fr h3 (fun x h => k6 x (by omega)), (k6 27 (by decide)).trans h4, fun u hu => by rw [k6 31 (by decide)]; exact h5 u hu, (k6 32 (by decide)).trans h6, by rw [m111']; exact h7⟩
        refine b10_readsRound_68 (R' := DaQ tb len (eN (run tb j)) j M6) (by rw [hM6]; exact readsDart_ev (d := d) (Bas_fr hB f6) rfl c1 (Or.inr c4) c7 (fun _ => h41) c8 hR6 (by rw [c5, k6 28 (by decide)]; exact e28) (by rw [c3]; exact e29')) (fun r M7 h7 => ?_)
        obtain ⟨f7, h7⟩ := h7
        have fD : Fr tRr M M7 := Fr_trans f6 (tRd_r f7)
        rcases h7 with ⟨v, j', rfl, hv, hjj, g1, g2, g3, g4, g5, g6, g7, g8⟩ | ⟨hF, he⟩
        · refine b10_readsRound_82 (fun _ => b10_readsRound_91 (128 + l.getD (l.length - 1) 0) (i128 _) (by have := hl32 _ hlast; omega) ?_) (fun z => absurd g6.2.2.1.1 z)
          rw [c3] at g3
          rw [c2] at g2
          rw [c5] at g5
          have hlen2 : (l ++ [v]).length = l.length + 1 := by simp
          have := ih (len - j') (by have := g6.1; omega) j' (l ++ [v]) (sI M7 111 (128 + l.getD (l.length - 1) 0) (nI v)) (by have := g6.1; omega) (by omega) (Fr_sI fD (tRr_n (hl32 _ hlast))) g1 g2 g3 (by simp) g4 g5 (RDR_111 g6 (fun r hr => apart _ hlast r (by rw [← g2]; exact hr))) g7 g8 (fun a ha => ?_) ?_ ?_
          · rw [getD_app1 hlen, show (l ++ [v]).length - 1 = l.length by rw [hlen2]; rfl, getD_app2] at this
            exact this
          · rw [hlen2] at ha
            have m7 : ∀ y, M7.1 111 y = M5.1 111 y := fun y => (f7.1 111 y (tRd_o (by decide))).trans (by rw [m111'])
            rw [getD_app1 (by omega), sI_at]
            by_cases ea : a = l.length - 1
            · rw [if_pos ⟨rfl, by rw [ea]⟩, show a + 1 = l.length by omega, getD_app2]
            · rw [if_neg (fun z => ea ?_), getD_app1 (by omega), m7]
              · exact hch a (by omega)
              · have e : l.getD a 0 = l.getD (l.length - 1) 0 := by have := z.2; omega
                have : l.idxOf (l.getD a 0) = l.idxOf (l.getD (l.length - 1) 0) := by rw [e]
                rw [idx_at hln (by omega), idx_at hln (by omega)] at this
                exact this
          · rw [sI_ne (Or.inl (by decide)), f7.1 110 28 rfl, k6 28 (by decide)]; exact e28
          · rw [sI_ne (Or.inl (by decide)), f7.1 110 29 rfl, e29', hlen2]; rfl
        · exact b10_readsRound_82 (fun z => absurd z hF.2) (fun _ => b10_readsRound_90 ⟨rfl, fD, Or.inr ⟨hF, he⟩⟩)
    · exact quit M3 _ _ hF fC he
  · -- no opening
    obtain ⟨f2, e2, h2⟩ := h2
    rw [if_neg (by omega)] at h2
    have hF : RFin tb len M2 := by
      refine RFin_of h2 ?_
      have r1 : qF (run tb (i + 1)) = some (1, i, none) := by
        show qF (stp (run tb i) (tb i) i) = _
        unfold stp
        rw [if_pos hf]
        by_cases hd : isDg (tb i) = true
        · rw [if_pos hd]
          unfold stD
          rw [if_pos (Or.inl hw)]
        · rw [if_neg hd, show eN (run tb i) = run tb i from eN_id (fun q => by omega), if_pos hf]
          unfold stO
          rw [sgn_lt hil] at h40 hb
          rw [if_neg (fun z => h40 z.1), if_neg (fun z => by omega), if_neg (show ¬ (tb i = 32 ∨ tb i = 10) from hb)]
      rw [fin_run (i := i + 1) (by rw [r1]; exact fun z => (by cases z)) (by omega), r1]
    have fA : Fr tRr M (sI M2 110 24 (gI M2 110 24 + 1)) := Fr_sI (Fr_trans f0 (tFa_r f2)) rfl
    have e2' : gI M2 110 24 = nI i := e2.trans m24
    refine b10_readsRound_31 (skips_ev (d := d + 1) (i := i + 1) (Bas_fr hB fA) (by omega) (by rw [sI_eq, e2', nI_1])) (fun M3 h3 => ?_)
    obtain ⟨f3, k, b1, b2, -⟩ := h3
    have hF3 : RFin tb len M3 := RFin_24 hF (Fr_trans (Fr_sI (Fr_refl _ _) rfl) f3)
    have fB : Fr tRr M M3 := Fr_trans fA (t24_r f3)
    refine b10_readsRound_45 (readsDart_f (d := d) (Bas_fr hB fB) b1 b2 hF3.2) (fun r M4 h4 => b10_readsRound_49 ?_)
    subst h4
    exact quit M4 _ _ hF3 fB ⟨_, b1, b2⟩
end RRO
