/-! the class: a text is read -/
section CRD
variable {L : Nat} {xs : Nat → Int32} {d : Nat} {M : ME} {s : RSt} {p : Nat}
def tRdr (k _j : Nat) : Bool := match k with
  | 12 => true
  | 13 => true
  | 14 => true
  | 15 => true
  | _ => false
theorem tRdr_f {k j : Nat} (h : k < 12 ∨ 15 < k) : tRdr k j = false := by
  unfold tRdr
  split
  all_goals first | omega | rfl
def FE (M : ME) (F : Int32 × Int32 × Int32 × Int32 × Int32) : Prop := M.1 12 0 = F.1 ∧ M.1 12 1 = F.2.1 ∧ M.1 12 2 = F.2.2.1 ∧ M.1 12 3 = F.2.2.2.1 ∧ M.1 12 4 = F.2.2.2.2
def RDC (M : ME) (s : RSt) : Prop := FE M (flV (qF s)) ∧ (∀ v, v < 32 → M.1 14 v = if v ∈ toL s then 1 else 0) ∧ M.1 12 8 = nI (toL s).length ∧ (qF s = none → M.1 12 9 = nI (qW s) ∧ M.1 12 10 = nI ((qR s).length + if qW s = 0 then 0 else 1) - 1 ∧ (qW s ≠ 0 → M.1 12 11 = nI (qP s) ∧ M.1 12 12 = nI (qC s).length ∧ RmI 15 13 (qC s) M) ∧ (qW s = 3 → M.1 12 13 = nI (qN s) ∧ M.1 12 14 = nI (qn s)) ∧ ∀ r, r ∈ qR s → ∀ x, x ∈ r → M.1 13 x = nI (nxL r x))
theorem RmI_eq {a b : Nat} {l : List Nat} {M M' : ME} (h : RmI a b l M) (e1 : M'.1 a = M.1 a) (e2 : M'.1 b = M.1 b) : RmI a b l M' := by
  unfold RmI at *; rw [e1, e2]; exact h
theorem sI_row {M : ME} {k j a : Nat} {v : Int32} (h : a ≠ k) : (sI M k j v).1 a = M.1 a := funext fun b => sI_ne (Or.inl h)
/-- a fault with no round -/
theorem RDC_ref {k p : Nat} {M1 : ME} (h : RDC M s) (hf : qF s = none) (e0 : M1.1 12 0 = nI k) (e1 : M1.1 12 1 = nI p) (er : ∀ j, 2 ≤ j → M1.1 12 j = M.1 12 j) (e14 : M1.1 14 = M.1 14) : RDC M1 (some (k, p, none), s.2) := by
  obtain ⟨⟨h0, h1, h2, h3, h4⟩, hb, hc, -⟩ := h
  rw [hf] at h0 h1 h2 h3 h4
  exact ⟨⟨e0, e1, (er 2 (by omega)).trans h2, (er 3 (by omega)).trans h3, (er 4 (by omega)).trans h4⟩, by rw [e14]; exact hb, (er 8 (by omega)).trans hc, fun z => (by cases z)⟩
theorem RDC_ref2 {k p : Nat} (h : RDC M s) (hf : qF s = none) : RDC (sI (sI M 12 0 (nI k)) 12 1 (nI p)) (some (k, p, none), s.2) :=
  RDC_ref h hf (by rw [sI_ne (Or.inr (by decide)), sI_eq]) (sI_eq _ _ _ _) (fun j hj => by rw [sI_ne (Or.inr (by omega)), sI_ne (Or.inr (by omega))]) (by rw [sI_row (by decide), sI_row (by decide)])
theorem RDC_0 (h : RDC M s) (hk : FK s) : M.1 12 0 = 0 ↔ qF s = none := by rw [h.1.1]; exact flV_0 hk
theorem takeDigit_ev {c : Int32} (hR : RDC M s) (hI : RI s p) (hf : qF s = none) (hd : isDg c = true) (hp : p < 300) : EvV (E0 L xs) (d + 1) m3_takeDigit [.ref 12, .int (c - 48), .int (nI p)] M (fun M' => RDC M' (stD s c p) ∧ Fr tRdr M M') := by
  obtain ⟨-, -, ec, eg, -⟩ := dg_eq hd
  rw [ec]
  obtain ⟨g1, g2, g3, g4⟩ := hI.2.2 hf
  obtain ⟨w1, w2, w3, w4, w5⟩ := hR.2.2.2 hf
  have e9 : gI M 12 9 = nI (qW s) := w1
  have iw : ∀ k : Nat, k < 4 → (gI M 12 9 = nI k ↔ qW s = k) := fun k hk => by
    rw [e9]
    constructor
    · intro e
      have a := (nI_leI (a := qW s) (b := k) (by omega) (by omega)).mp (by rw [e]; exact nI_le (Nat.le_refl _) (by omega))
      have b := (nI_leI (a := k) (b := qW s) (by omega) (by omega)).mp (by rw [e]; exact nI_le (Nat.le_refl _) (by omega))
      omega
    · intro e; rw [e]
  have ref : (qW s = 0 ∨ (qW s = 3 ∧ 2 ≤ p - qn s)) → Wp (E0 L xs) (d + 1) m3_takeDigit 25 [.ref 12, .int (nI (dgC c)), .int (nI p)] [] M (fun v' M' => v' = none ∧ (RDC M' (stD s c p) ∧ Fr tRdr M M')) := fun q => by
    refine b3_takeDigit_25 (b3_takeDigit_73 ⟨rfl, ?_, Fr_sI (Fr_sI (Fr_refl _ _) rfl) rfl⟩)
    rw [show stD s c p = (some (1, p, none), s.2) from if_pos q]
    exact RDC_ref2 (k := 1) hR hf
  have go : ¬ (qW s = 0 ∨ (qW s = 3 ∧ 2 ≤ p - qn s)) → Wp (E0 L xs) (d + 1) m3_takeDigit 34 [.ref 12, .int (nI (dgC c)), .int (nI p)] [] M (fun v' M' => v' = none ∧ (RDC M' (stD s c p) ∧ Fr tRdr M M')) := fun q => by
    have hw0 : qW s ≠ 0 := fun z => q (Or.inl z)
    obtain ⟨u1, u2, u3⟩ := w3 hw0
    obtain ⟨⟨h0, h1, h2, h3, h4⟩, hb, hc, -⟩ := hR
    rw [hf] at h0 h1 h2 h3 h4
    refine b3_takeDigit_34 (fun z => b3_takeDigit_58 (b3_takeDigit_73 ⟨rfl, ?_, Fr_sI (Fr_sI (Fr_sI (Fr_refl _ _) rfl) rfl) rfl⟩)) (fun z => b3_takeDigit_42 (b3_takeDigit_73 ⟨rfl, ?_, Fr_sI (Fr_refl _ _) rfl⟩))
    · have z' : ¬ qW s = 3 := fun e => z ((iw 3 (by omega)).mpr e)
      rw [show stD s c p = (none, qR s, qC s, 3, qP s, dgC c, p) from (if_neg q).trans (if_neg z')]
      have E : ∀ j, j ≠ 9 → j ≠ 13 → j ≠ 14 → (sI (sI (sI M 12 9 3) 12 13 (nI (dgC c))) 12 14 (nI p)).1 12 j = M.1 12 j := fun j a b c => by rw [sI_ne (Or.inr c), sI_ne (Or.inr b), sI_ne (Or.inr a)]
      have O : ∀ k, k ≠ 12 → (sI (sI (sI M 12 9 3) 12 13 (nI (dgC c))) 12 14 (nI p)).1 k = M.1 k := fun k a => by rw [sI_row a, sI_row a, sI_row a]
      refine ⟨⟨(E 0 (by decide) (by decide) (by decide)).trans h0, (E 1 (by decide) (by decide) (by decide)).trans h1, (E 2 (by decide) (by decide) (by decide)).trans h2, (E 3 (by decide) (by decide) (by decide)).trans h3, (E 4 (by decide) (by decide) (by decide)).trans h4⟩, by rw [O 14 (by decide)]; exact hb, (E 8 (by decide) (by decide) (by decide)).trans hc, fun _ => ⟨?_, ?_, fun _ => ⟨(E 11 (by decide) (by decide) (by decide)).trans u1, (E 12 (by decide) (by decide) (by decide)).trans u2, RmI_eq u3 (O 15 (by decide)) (O 13 (by decide))⟩, fun _ => ⟨?_, ?_⟩, by rw [O 13 (by decide)]; exact w5⟩⟩
      · rw [sI_ne (Or.inr (by decide)), sI_ne (Or.inr (by decide)), sI_eq]; rfl
      · rw [E 10 (by decide) (by decide) (by decide), w2, if_neg hw0, if_neg (by show ¬ 3 = 0; omega)]
      · rw [sI_ne (Or.inr (by decide)), sI_eq]
      · rw [sI_eq]
    · have z' : qW s = 3 := (iw 3 (by omega)).mp z
      rw [show stD s c p = (none, qR s, qC s, 3, qP s, 10 * qN s + dgC c, qn s) from (if_neg q).trans (if_pos z')]
      obtain ⟨v1, v2⟩ := w4 z'
      have en : 10 * gI M 12 13 + nI (dgC c) = nI (10 * qN s + dgC c) := by
        rw [show gI M 12 13 = nI (qN s) from v1, show (10 : Int32) * nI (qN s) = nI (10 * qN s) from pk_mul 10 _, nI_add]
      rw [en]
      have E : ∀ j, j ≠ 13 → (sI M 12 13 (nI (10 * qN s + dgC c))).1 12 j = M.1 12 j := fun j a => sI_ne (Or.inr a)
      have O : ∀ k, k ≠ 12 → (sI M 12 13 (nI (10 * qN s + dgC c))).1 k = M.1 k := fun k a => sI_row a
      refine ⟨⟨(E 0 (by decide)).trans h0, (E 1 (by decide)).trans h1, (E 2 (by decide)).trans h2, (E 3 (by decide)).trans h3, (E 4 (by decide)).trans h4⟩, by rw [O 14 (by decide)]; exact hb, (E 8 (by decide)).trans hc, fun _ => ⟨?_, ?_, fun _ => ⟨(E 11 (by decide)).trans u1, (E 12 (by decide)).trans u2, RmI_eq u3 (O 15 (by decide)) (O 13 (by decide))⟩, fun _ => ⟨sI_eq _ _ _ _, (E 14 (by decide)).trans v2⟩, by rw [O 13 (by decide)]; exact w5⟩⟩
      · rw [E 9 (by decide), w1, z']
      · rw [E 10 (by decide), w2, if_neg hw0, if_neg (by show ¬ 3 = 0; omega)]
  refine Ev_of k3_takeDigit rfl (Nat.le_of_ble_eq_true rfl) (b3_takeDigit_0 (fun z => ref (Or.inl ((iw 0 (by omega)).mp z))) (fun z0 => b3_takeDigit_7 (fun z => go (fun q => ?_)) (fun z => b3_takeDigit_15 (fun y => go (fun q => ?_)) (fun y => ref (Or.inr ⟨(iw 3 (by omega)).mp z, ?_⟩)))))
  · rcases q with q | q
    · exact z0 ((iw 0 (by omega)).mpr q)
    · exact z ((iw 3 (by omega)).mpr q.1)
  · have z3 := (iw 3 (by omega)).mp z
    rcases q with q | q
    · omega
    · rw [show gI M 12 14 = nI (qn s) from (w4 z3).2, i_sub (by have := g4 z3; omega)] at y
      have := (nI_ltI (a := p - qn s) (b := 2) (by omega) (by omega)).mp y
      omega
  · have z3 := (iw 3 (by omega)).mp z
    rw [show gI M 12 14 = nI (qn s) from (w4 z3).2, i_sub (by have := g4 z3; omega)] at y
    by_cases w : 2 ≤ p - qn s
    · exact w
    · exact absurd ((nI_ltI (a := p - qn s) (b := 2) (by omega) (by omega)).mpr (by omega)) y
theorem endNumber_ev (hR : RDC M s) (hI : RI s p) (hf : qF s = none) : EvV (E0 L xs) (d + 2) m3_endNumber [.ref 12] M (fun M' => RDC M' (eN s) ∧ Fr tRdr M M') := by
  obtain ⟨g1, g2, g3, g4⟩ := hI.2.2 hf
  obtain ⟨w1, w2, w3, w4, w5⟩ := hR.2.2.2 hf
  have e9 : gI M 12 9 = nI (qW s) := w1
  refine Ev_of k3_endNumber rfl (Nat.le_of_ble_eq_true rfl) (b3_endNumber_0 (fun z => ?_) (fun z => b3_endNumber_8 ⟨rfl, ?_, Fr_refl _ _⟩))
  · have z3 : qW s = 3 := by
      rw [e9] at z
      have b := (nI_leI (a := 3) (b := qW s) (by omega) (by omega)).mp (by rw [z]; exact nI_le (a := 3) (b := 3) (by omega) (by omega))
      omega
    have hw0 : qW s ≠ 0 := by omega
    obtain ⟨u1, u2, u3⟩ := w3 hw0
    obtain ⟨v1, v2⟩ := w4 z3
    obtain ⟨⟨h0, h1, h2, h3, h4⟩, hb, hc, -⟩ := hR
    rw [hf] at h0 h1 h2 h3 h4
    have hN : qN s < 100 := by have := g4 z3; omega
    have er : nI ((qR s).length + if qW s = 0 then 0 else 1) - 1 = nI (qR s).length := by
      rw [if_neg hw0]; exact nI_m1 _
    rw [er] at w2
    have n13 : gI (sI M 12 9 2) 12 13 = nI (qN s) := (sI_ne (Or.inr (by decide))).trans v1
    have bad : ∀ k, RDC (sI (sI (sI (sI (sI (sI M 12 9 2) 12 0 (nI k)) 12 1 (gI (sI M 12 9 2) 12 14)) 12 2 (gI (sI M 12 9 2) 12 10)) 12 3 (gI (sI M 12 9 2) 12 11)) 12 4 (gI (sI M 12 9 2) 12 12)) (some (k, qn s, some ((qR s).length, qP s, (qC s).length)), qR s, qC s, 2, qP s, qN s, qn s) := fun k => by
      refine ⟨⟨?_, ?_, ?_, ?_, ?_⟩, ?_, ?_, fun y => (by cases y)⟩
      · rw [sI_ne (Or.inr (by decide)), sI_ne (Or.inr (by decide)), sI_ne (Or.inr (by decide)), sI_ne (Or.inr (by decide)), sI_eq]; rfl
      · rw [sI_ne (Or.inr (by decide)), sI_ne (Or.inr (by decide)), sI_ne (Or.inr (by decide)), sI_eq]; exact (sI_ne (Or.inr (by decide))).trans v2
      · rw [sI_ne (Or.inr (by decide)), sI_ne (Or.inr (by decide)), sI_eq]; exact (sI_ne (Or.inr (by decide))).trans w2
      · rw [sI_ne (Or.inr (by decide)), sI_eq]; exact (sI_ne (Or.inr (by decide))).trans u1
      · rw [sI_eq]; exact (sI_ne (Or.inr (by decide))).trans u2
      · rw [sI_row (by decide), sI_row (by decide), sI_row (by decide), sI_row (by decide), sI_row (by decide), sI_row (by decide)]; exact hb
      · rw [sI_ne (Or.inr (by decide)), sI_ne (Or.inr (by decide)), sI_ne (Or.inr (by decide)), sI_ne (Or.inr (by decide)), sI_ne (Or.inr (by decide)), sI_ne (Or.inr (by decide))]; exact hc
    have fr5 : ∀ k : Int32, Fr tRdr M (sI (sI (sI (sI (sI (sI M 12 9 2) 12 0 k) 12 1 (gI (sI M 12 9 2) 12 14)) 12 2 (gI (sI M 12 9 2) 12 10)) 12 3 (gI (sI M 12 9 2) 12 11)) 12 4 (gI (sI M 12 9 2) 12 12)) := fun k => Fr_sI (Fr_sI (Fr_sI (Fr_sI (Fr_sI (Fr_sI (Fr_refl _ _) rfl) rfl) rfl) rfl) rfl) rfl
    refine b3_endNumber_9 (fun y => ?_) (fun y => b3_endNumber_23 (b3_endNumber_96 ⟨rfl, ?_, fr5 _⟩))
    · rw [show gI M 12 13 = nI (qN s) from v1] at y
      have hN32 : qN s < 32 := (nI_ltI (a := qN s) (b := 32) (by omega) (by omega)).mp y
      have n14 : gI (sI M 12 9 2) 14 (qN s) = if qN s ∈ toL s then 1 else 0 := (sI_ne (Or.inl (by decide))).trans (hb (qN s) hN32)
      refine b3_endNumber_31 (qN s) n13 hN32 (fun x => ?_) (fun x => b3_endNumber_43 (b3_endNumber_96 ⟨rfl, ?_, fr5 _⟩))
      · have hm : qN s ∉ toL s := fun m => by
          rw [n14, if_pos m] at x; exact absurd x (by decide)
        have hcl : ∀ z, z ∈ qC s → z < 32 := fun z hz => hI.2.1 z (List.mem_append_left _ hz)
        have hcn : (qC s).Nodup := (List.nodup_append.mp hI.1).1
        refine b3_endNumber_51 (R' := fun M' => RDC M' (eN s) ∧ Fr tRdr M M') (qN s) n13 hN32 ?_ (fun M' h => b3_endNumber_96 ⟨rfl, h⟩)
        have F0 : Fr tRdr M (sI (sI (sI (sI M 12 9 2) 14 (qN s) 1) 12 8 (gI (sI M 12 9 2) 12 8 + 1)) 12 12 (gI (sI M 12 9 2) 12 12 + 1)) := Fr_sI (Fr_sI (Fr_sI (Fr_sI (Fr_refl _ _) rfl) rfl) rfl) rfl
        rw [n13]
        have q8 : gI (sI M 12 9 2) 12 8 = nI (toL s).length := (sI_ne (Or.inr (by decide))).trans hc
        have q12 : gI (sI M 12 9 2) 12 12 = nI (qC s).length := (sI_ne (Or.inr (by decide))).trans u2
        rw [q8, q12, nI_1, nI_1] at F0 ⊢
        have hE : eN s = (none, qR s, qC s ++ [qN s], 2, qP s, qN s, qn s) := by
          unfold eN; rw [if_pos ⟨hf, z3⟩, if_neg (by omega), if_neg hm]
        rw [hE]
        have hRm : RmI 15 13 (qC s) (sI (sI (sI (sI M 12 9 2) 14 (qN s) 1) 12 8 (nI ((toL s).length + 1))) 12 12 (nI ((qC s).length + 1))) := RmI_eq u3 (by rw [sI_row (by decide), sI_row (by decide), sI_row (by decide), sI_row (by decide)]) (by rw [sI_row (by decide), sI_row (by decide), sI_row (by decide), sI_row (by decide)])
        refine EvV_post (add_ev (x := qN s) (n := 32) rfl rfl (by decide) (by decide) hcl hcn hRm) (fun M' h => ⟨?_, ?_⟩)
        · obtain ⟨a1, a2, a3⟩ := h
          have O : ∀ k, k ≠ 15 → k ≠ 13 → M'.1 k = (sI (sI (sI (sI M 12 9 2) 14 (qN s) 1) 12 8 (nI ((toL s).length + 1))) 12 12 (nI ((qC s).length + 1))).1 k := fun k hk hk2 => funext fun j => a2.1 k j (tRk2_f hk hk2)
          have E : ∀ j, j ≠ 9 → j ≠ 8 → j ≠ 12 → M'.1 12 j = M.1 12 j := fun j a b c => by rw [O 12 (by decide) (by decide), sI_ne (Or.inr c), sI_ne (Or.inr b), sI_ne (Or.inl (by decide)), sI_ne (Or.inr a)]
          have hpm : ∀ v, v ∈ toL (none, qR s, qC s ++ [qN s], 2, qP s, qN s, qn s) ↔ v = qN s ∨ v ∈ toL s := fun v => by
            unfold toL
            show v ∈ qC s ++ [qN s] ++ (qR s).flatten ↔ _
            rw [List.append_assoc, List.mem_append, List.mem_append, List.mem_append, List.mem_singleton]
            constructor
            · rintro (a | a | a)
              · exact Or.inr (Or.inl a)
              · exact Or.inl a
              · exact Or.inr (Or.inr a)
            · rintro (a | a | a)
              · exact Or.inr (Or.inl a)
              · exact Or.inl a
              · exact Or.inr (Or.inr a)
          refine ⟨⟨(E 0 (by decide) (by decide) (by decide)).trans h0, (E 1 (by decide) (by decide) (by decide)).trans h1, (E 2 (by decide) (by decide) (by decide)).trans h2, (E 3 (by decide) (by decide) (by decide)).trans h3, (E 4 (by decide) (by decide) (by decide)).trans h4⟩, fun v hv => ?_, ?_, fun _ => ⟨?_, ?_, fun _ => ⟨(E 11 (by decide) (by decide) (by decide)).trans u1, ?_, a1⟩, fun y => absurd y (by show ¬ 2 = 3; omega), fun r hr x hx => ?_⟩⟩
          · rw [O 14 (by decide) (by decide), sI_ne (Or.inl (by decide)), sI_ne (Or.inl (by decide)), sI_at]
            by_cases y : v = qN s
            · rw [if_pos ⟨rfl, y⟩, if_pos ((hpm v).mpr (Or.inl y))]
            · rw [if_neg (fun w => y w.2), sI_ne (Or.inl (by decide)), hb v hv]
              by_cases t : v ∈ toL s
              · rw [if_pos t, if_pos ((hpm v).mpr (Or.inr t))]
              · rw [if_neg t, if_neg (fun w => ((hpm v).mp w).elim y t)]
          · rw [O 12 (by decide) (by decide), sI_ne (Or.inr (by decide)), sI_eq]
            unfold toL
            show nI (_ + 1) = nI ((qC s ++ [qN s] ++ (qR s).flatten).length)
            simp only [List.length_append, List.length_singleton]
            congr 1; omega
          · rw [O 12 (by decide) (by decide), sI_ne (Or.inr (by decide)), sI_ne (Or.inr (by decide)), sI_ne (Or.inl (by decide)), sI_eq]; rfl
          · rw [E 10 (by decide) (by decide) (by decide), w2, if_neg (by show ¬ 2 = 0; omega)]
            exact (nI_m1 _).symm
          · rw [O 12 (by decide) (by decide), sI_eq]
            show _ = nI ((qC s ++ [qN s]).length)
            rw [List.length_append]; rfl
          · have nx : x ∉ qC s := fun hxc => by
              have := (List.nodup_append.mp hI.1).2.2 x hxc x (List.mem_flatten.mpr ⟨r, hr, hx⟩)
              exact this rfl
            rw [a3 x nx, sI_ne (Or.inl (by decide)), sI_ne (Or.inl (by decide)), sI_ne (Or.inl (by decide)), sI_ne (Or.inl (by decide))]
            exact w5 r hr x hx
        · refine Fr_trans F0 (Fr_mono h.2.1 (fun k j q => ?_))
          refine tRk2_f (fun e => ?_) (fun e => ?_)
          · rw [e] at q; cases q
          · rw [e] at q; cases q
      · have hm : qN s ∈ toL s := by
          by_cases m : qN s ∈ toL s
          · exact m
          · exact absurd (by rw [n14, if_neg m]) x
        rw [show eN s = _ from (if_pos ⟨hf, z3⟩).trans ((if_neg (by omega)).trans (if_pos hm))]
        exact bad 3
    · have h32 : 32 ≤ qN s := by
        by_cases w : 32 ≤ qN s
        · exact w
        · exact absurd (by rw [show gI M 12 13 = nI (qN s) from v1]; exact nI_lt (a := qN s) (b := 32) (by omega) (by omega)) y
      rw [show eN s = _ from (if_pos ⟨hf, z3⟩).trans (if_pos h32)]
      exact bad 2
  · rw [eN_id (fun q => z (by rw [e9, q.2]; rfl))]; exact hR
end CRD
