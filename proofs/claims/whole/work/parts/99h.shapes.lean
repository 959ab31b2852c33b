/-! the maker of Shapes: how many ways lead down -/
theorem r_35 : rsOK [35, 1] := rs_cons r_1 (by decide)
/-- rows below l stand, of row l the first h places -/
def shI (M1 M : ME) (l h : Nat) : Prop := M.2 = M1.2 ∧ (∀ k, k < 37 ∨ 54 ≤ k → M.1 k = M1.1 k) ∧ (∀ q, q < l → ∀ j, j < 18 → M.1 (37 + q) j = nI (wz q (j + 1))) ∧ (∀ j, j < h → M.1 (37 + l) j = nI (wz l (j + 1))) ∧ (l ≤ 16 → ∀ j, h ≤ j → M.1 (37 + l) j = 0) ∧ ∀ q, l < q → q ≤ 16 → ∀ j, M.1 (37 + q) j = 0
section SHP
variable {L : Nat} {xs : Nat → Int32} {d : Nat} {M M1 : ME} {R : Option Value → ME → Prop} {F : EN}
theorem sh_36 : shp (Wd L xs 54 [35, 1]) 36 = (5, 17) := wd_in (by decide) (by decide)
theorem sh_row {q : Nat} (h : q < 17) : shp (Wd L xs 54 [35, 1]) (36 + 1 + q) = (1, 18) := by
  have key : ∀ q, q < 17 → SH0 (36 + 1 + q) = (1, 18) := by decide
  exact (wd_in (by omega) (nrs_of r_35 (key q h) (by decide))).trans (key q h)
theorem sh_35 : (shp (Wd L xs 54 [35, 1]) 35).1 = 6 + 30 := raw_sh (by decide) rfl
theorem sh_body {l h : Nat} {w : Value} (hl : l < 16) (hh : h < 17) (hM : M1.2.2 35 0 = 36) (I : shI M1 M (l + 1) h) (K : ∀ (w : Value) (M' : ME), shI M1 M' (l + 1) (h + 1) → Wx (Wd L xs 54 [35, 1]) F d m6_init 35 [.ref 35, .int (nI (l + 1)), .int (nI (h + 1)), w] [] M' R) :
    Wx (Wd L xs 54 [35, 1]) F d m6_init 61 [.ref 35, .int (nI (l + 1)), .int (nI h), w] [.int (nI (wz l h))] M R := by
  obtain ⟨i1, i2, i3, i4, i5, i6⟩ := I
  have hg : gR M 35 0 = 36 := by
    show M.2.2 35 0 = 36
    rw [i1]; exact hM
  refine x_istore_n rfl (by decide) rfl <| x_aload_n rfl rfl <| x_getFe (y := 36) rfl f6_11 sh_35 (by decide) hg (by decide) <| x_iload_n rfl rfl <| x_aal5 (l + 1) rfl sh_36 (by decide) rfl (by omega) <| x_iload_n rfl rfl <| x_iload_n rfl rfl <| x_aload_n rfl rfl <| x_getFe (y := 36) rfl f6_11 sh_35 (by decide) hg (by decide) <| x_iload_n rfl rfl <| x_iconst (1) rfl (by decide) <| x_isub rfl <| x_aal5 l rfl sh_36 (by decide) (nI_m1 l) (by omega) <| x_iload_n rfl rfl <| x_iconst (1) rfl (by decide) <| x_iadd rfl <| x_ial (h + 1) rfl (sh_row (by omega)) (by decide) (nI_add h 1) (by omega) <| x_iadd rfl <| x_ias h rfl (sh_row (by omega)) (by decide) rfl (by omega) <| x_iinc rfl (by decide) rfl (nI_add h 1) rfl <| x_goto rfl rfl <| ?_
  have e1 : gI M (36 + 1 + l) (h + 1) = nI (wz l (h + 2)) := i3 l (by omega) (h + 1) (by omega)
  rw [e1]
  have e2 : nI (wz l h) + nI (wz l (h + 2)) = nI (wz (l + 1) (h + 1)) := nI_add _ _
  rw [e2]
  refine K _ _ ⟨i1, fun k hk => ?_, fun q hq j hj => ?_, fun j hj => ?_, fun hl2 j hj => ?_, fun q hq hq2 j => ?_⟩
  · rw [sI_row (by omega)]; exact i2 k hk
  · rw [sI_row (by omega)]; exact i3 q hq j hj
  · show up2 M.1 (36 + 1 + (l + 1)) h _ (37 + (l + 1)) j = _
    rw [show 37 + (l + 1) = 36 + 1 + (l + 1) by omega, up2_eq]
    by_cases e : j = h
    · rw [e]; exact if_pos rfl
    · exact (if_neg e).trans (i4 j (by omega))
  · show up2 M.1 (36 + 1 + (l + 1)) h _ (37 + (l + 1)) j = _
    rw [show 37 + (l + 1) = 36 + 1 + (l + 1) by omega, up2_eq]
    exact (if_neg (by omega)).trans (i5 hl2 j (by omega))
  · rw [sI_row (by omega)]; exact i6 q hq hq2 j
theorem sh_inner {l : Nat} (hl : l < 16) (hM : M1.2.2 35 0 = 36) (K : ∀ (w2 w3 : Value) (M' : ME), shI M1 M' (l + 1) 17 → Wx (Wd L xs 54 [35, 1]) F d m6_init 90 [.ref 35, .int (nI (l + 1)), w2, w3] [] M' R) : ∀ (q h : Nat) (w : Value) (M : ME), h + q = 17 → shI M1 M (l + 1) h → Wx (Wd L xs 54 [35, 1]) F d m6_init 35 [.ref 35, .int (nI (l + 1)), .int (nI h), w] [] M R
  | 0, h, w, M, hq, I => by
    have e : h = 17 := by omega
    subst e
    refine x_iload_n rfl rfl <| x_bipush (16) rfl (by decide) <| x_icmp_gt rfl rfl (fun _ => K _ _ _ I) (fun z => absurd (show (16 : Int32) < nI 17 by decide) z)
  | q + 1, h, w, M, hq, I => by
    obtain ⟨i1, i2, i3, i4, i5, i6⟩ := id I
    have hg : gR M 35 0 = 36 := by
      show M.2.2 35 0 = 36
      rw [i1]; exact hM
    refine x_iload_n rfl rfl <| x_bipush (16) rfl (by decide) <| x_icmp_gt rfl rfl (fun z => absurd ((nI_ltI (a := 16) (b := h) (by decide) (by omega)).mp z) (by omega)) (fun _ => x_iload_n rfl rfl <| x_if_ne rfl rfl (fun z => ?_) (fun z => ?_))
    · cases h with
      | zero => exact absurd rfl z
      | succ h =>
        refine x_aload_n rfl rfl <| x_getFe (y := 36) rfl f6_11 sh_35 (by decide) hg (by decide) <| x_iload_n rfl rfl <| x_iconst (1) rfl (by decide) <| x_isub rfl <| x_aal5 l rfl sh_36 (by decide) (nI_m1 l) (by omega) <| x_iload_n rfl rfl <| x_iconst (1) rfl (by decide) <| x_isub rfl <| x_ial h rfl (sh_row (by omega)) (by decide) (nI_m1 h) (by omega) <| ?_
        have e1 : gI M (36 + 1 + l) h = nI (wz l (h + 1)) := i3 l (by omega) h (by omega)
        rw [e1]
        exact sh_body hl (by omega) hM I (fun w M' I' => sh_inner hl hM K q (h + 1 + 1) w M' (by omega) I')
    · have e : h = 0 := (nI_eq (b := 0) (by omega) (by decide)).mp z
      subst e
      refine x_iconst (0) rfl (by decide) <| x_goto rfl rfl <| ?_
      have e2 : (0 : Int32) = nI (wz l 0) := by rw [wz_0]; rfl
      rw [e2]
      exact sh_body hl (by omega) hM I (fun w M' I' => sh_inner hl hM K q (0 + 1) w M' (by omega) I')
theorem sh_outer (hM : M1.2.2 35 0 = 36) (K : ∀ (w1 w2 w3 : Value) (M' : ME), shI M1 M' 17 0 → Wx (Wd L xs 54 [35, 1]) F d m6_init 96 [.ref 35, w1, w2, w3] [] M' R) : ∀ (q l : Nat) (w2 w3 : Value) (M : ME), l + q = 16 → shI M1 M (l + 1) 0 → Wx (Wd L xs 54 [35, 1]) F d m6_init 27 [.ref 35, .int (nI (l + 1)), w2, w3] [] M R
  | 0, l, w2, w3, M, hq, I => by
    have e : l = 16 := by omega
    subst e
    refine x_iload_n rfl rfl <| x_bipush (16) rfl (by decide) <| x_icmp_gt rfl rfl (fun _ => K _ _ _ _ I) (fun z => absurd (show (16 : Int32) < nI (16 + 1) by decide) z)
  | q + 1, l, w2, w3, M, hq, I => by
    refine x_iload_n rfl rfl <| x_bipush (16) rfl (by decide) <| x_icmp_gt rfl rfl (fun z => absurd ((nI_ltI (a := 16) (b := l + 1) (by decide) (by omega)).mp z) (by omega)) (fun _ => x_iconst (0) rfl (by decide) <| x_istore_n rfl (by decide) rfl <| ?_)
    refine sh_inner (l := l) (by omega) hM (fun w2 w3 M' I' => x_iinc rfl (by decide) rfl (nI_add (l + 1) 1) rfl <| x_goto rfl rfl <| sh_outer hM K q (l + 1) w2 w3 M' (by omega) ?_) 17 0 w3 M rfl I
    obtain ⟨i1, i2, i3, i4, i5, i6⟩ := I'
    refine ⟨i1, i2, fun x hx j hj => ?_, fun j hj => absurd hj (Nat.not_lt_zero _), fun e j _ => i6 (l + 1 + 1) (by omega) e j, fun x hx hx2 j => i6 x (by omega) hx2 j⟩
    by_cases e : x = l + 1
    · subst e
      by_cases e2 : j < 17
      · exact i4 j e2
      · rw [i5 (by omega) j (by omega), wz_big (l + 1) (j + 1) (by omega)]; rfl
    · exact i3 x (by omega) j hj
theorem init6_ev (hz : Zr 36 M) : EvC (Wd L xs 36 [35, 1]) (Wd L xs 54 [1]) (d + 1) m6_init [.ref 35] M (fun M' => FrX 35 54 M M' ∧ cW M') := by
  refine w_EvC k6_init rfl (Nat.le_of_ble_eq_true rfl) (by decide) r_35 r_1 ?_
  have h4 : ∀ j, j < 17 → SH0 (36 + 1 + j) = (1, 18) := by decide
  refine x_aload_n rfl rfl <| x_obj rfl wObj6 wObjI wObjC (Nat.le_of_ble_eq_true rfl) <| x_aload_n rfl rfl <| x_bipush (17) rfl (by decide) <| x_bipush (18) rfl (by decide) <| w_multi (N := 17) (K := 18) (o := 5) (i := 1) rfl (Or.inl ⟨rfl, rfl, rfl⟩) (by decide +kernel) wMI wOI wArrI (by decide) (by decide) (by decide) rfl h4 (by decide) r_35 r_1 hz <| x_putF rfl rfl g6_11 sh_35 (by decide) (fun _ => rfl) (fun _ => rfl) (by decide) <| ?_
  have hg : (sR M 35 0 36).2.2 35 0 = 36 := by simp [sR, up2]
  refine x_aload_n rfl rfl <| x_getFe (y := 36) rfl f6_11 sh_35 (by decide) hg (by decide) <| x_iconst (0) rfl (by decide) <| x_aal5 0 rfl sh_36 (by decide) rfl (by decide) <| x_iconst (0) rfl (by decide) <| x_iconst (1) rfl (by decide) <| x_ias 0 rfl (sh_row (by decide)) (by decide) rfl (by decide) <| x_iconst (1) rfl (by decide) <| x_istore_n rfl (by decide) rfl <| ?_
  refine sh_outer (M1 := sR M 35 0 36) hg (fun w1 w2 w3 M' I => ?_) 16 0 _ _ _ rfl ⟨rfl, fun k hk => sI_row (by omega), fun q hq j hj => ?_, fun j hj => absurd hj (Nat.not_lt_zero _), fun _ j _ => ?_, fun q hq hq2 j => ?_⟩
  · obtain ⟨i1, i2, i3, i4, i5, i6⟩ := I
    refine w_made (by decide) (by decide) (by decide) rfl (by decide) (fun j o hj h => ?_) <| x_ret rfl rfl ⟨rfl, fun k hk => ⟨i2 k (by omega), by rw [i1]; exact ⟨rfl, up2_ne (by omega)⟩⟩, fun l hl h hh => i3 l (by omega) h hh⟩
    have hj' : j < 1 := hj
    have e0 : j = 0 := by omega
    subst e0
    have h' : 3 = o + 2 := h
    have e : o = 1 := by omega
    subst e
    show M'.2.2 35 0 = 36
    rw [i1]; exact hg
  · have e0 : q = 0 := by omega
    subst e0
    show up2 M.1 (36 + 1 + 0) 0 1 (36 + 1 + 0) j = _
    rw [up2_eq]
    by_cases e : j = 0
    · subst e; rfl
    · refine (if_neg e).trans ((hz _ (by decide) j).1.trans ?_)
      rw [show wz 0 (j + 1) = 0 from if_neg (by omega)]; rfl
  · rw [sI_row (by omega)]; exact (hz _ (by omega) j).1
  · rw [sI_row (by omega)]; exact (hz _ (by omega) j).1
end SHP
