/-! the maker of a Tree -/
def trS (a : Nat) : Prop := SH0 a = (8 + 10, 0) ∧ SH0 (a + 1) = (1, 16) ∧ SH0 (a + 2) = (1, 9) ∧ SH0 (a + 3) = (1, 9) ∧ SH0 (a + 4) = (1, 16) ∧ SH0 (a + 5) = (1, 16)
abbrev t00 : PTr := (0, fun _ => 0, fun _ => 0)
theorem FrX_Fr {a b : Nat} {t : Nat → Nat → Bool} {M M1 M2 : ME} (h : FrX a b M M1) (f : Fr t M1 M2) (ht : ∀ k j, k < a ∨ b ≤ k → t k j = false) : FrX a b M M2 := fun k hk => by
  obtain ⟨h1, h2, h3⟩ := h k hk
  refine ⟨(funext fun j => f.1 k j (ht k j hk)).trans h1, ?_, ?_⟩
  · rw [f.2]; exact h2
  · rw [f.2]; exact h3
section TRM
variable {L : Nat} {xs : Nat → Int32} {d a : Nat} {rs : List Nat} {M : ME}
theorem init8_ev (hT : trS a) (ha : a ≠ 0) (hr : rsOK rs) (har : a ∉ rs) (hz : Zr (a + 1) M) : EvC (Wd L xs (a + 1) (a :: rs)) (Wd L xs (a + 6) rs) (d + 3) m8_init [.ref a] M (fun M' => FrX a (a + 6) M M' ∧ cT M' a t00) := by
  obtain ⟨h0, h1, h2, h3, h4, h5⟩ := hT
  have hr1 : rsOK (a :: rs) := rs_cons hr (by rw [h0]; decide)
  refine w_EvC k8_init rfl (Nat.le_of_ble_eq_true rfl) (by omega) hr1 hr ?_
  have z1 : Zr (a + 1) (sI M a 0 0) := Zr_sI hz (by omega)
  have z2 : Zr (a + 2) (sR (sI M a 0 0) a 1 (a + 1)) := Zr_sR (Zr_mono z1 (by omega)) (by omega)
  have z3 : Zr (a + 3) (sR (sR (sI M a 0 0) a 1 (a + 1)) a 2 (a + 2)) := Zr_sR (Zr_mono z2 (by omega)) (by omega)
  have z4 : Zr (a + 4) (sR (sR (sR (sI M a 0 0) a 1 (a + 1)) a 2 (a + 2)) a 3 (a + 3)) := Zr_sR (Zr_mono z3 (by omega)) (by omega)
  have z5 : Zr (a + 5) (sR (sR (sR (sR (sI M a 0 0) a 1 (a + 1)) a 2 (a + 2)) a 3 (a + 3)) a 4 (a + 4)) := Zr_sR (Zr_mono z4 (by omega)) (by omega)
  refine x_aload_n rfl rfl <| x_obj rfl wObj8 wObjI wObjC (Nat.le_of_ble_eq_true rfl) <| x_aload_n rfl rfl <| x_iconst (0) rfl (by decide) <| x_putIr rfl p8_9 (raw_sh (by omega) h0) rfl (vp_nar_int _) rfl <|
    x_aload_n rfl rfl <| x_bipush (16) rfl (by decide) <| w_newI (N := 16) rfl h1 (by decide) (by omega) (by omega) hr1 hr z1 <| x_putF rfl rfl g8_15 (raw_sh (by omega) h0) (by decide) (fun _ => rfl) (fun _ => rfl) (by omega) <|
    x_aload_n rfl rfl <| x_bipush (9) rfl (by decide) <| w_newI (N := 9) rfl h2 (by decide) (by omega) (by omega) hr1 hr z2 <| x_putF rfl rfl g8_19 (raw_sh (by omega) h0) (by decide) (fun _ => rfl) (fun _ => rfl) (by omega) <|
    x_aload_n rfl rfl <| x_bipush (9) rfl (by decide) <| w_newI (N := 9) rfl h3 (by decide) (by omega) (by omega) hr1 hr z3 <| x_putF rfl rfl g8_22 (raw_sh (by omega) h0) (by decide) (fun _ => rfl) (fun _ => rfl) (by omega) <|
    x_aload_n rfl rfl <| x_bipush (16) rfl (by decide) <| w_newI (N := 16) rfl h4 (by decide) (by omega) (by omega) hr1 hr z4 <| x_putF rfl rfl g8_25 (raw_sh (by omega) h0) (by decide) (fun _ => rfl) (fun _ => rfl) (by omega) <|
    x_aload_n rfl rfl <| x_bipush (16) rfl (by decide) <| w_newI (N := 16) rfl h5 (by decide) (by omega) (by omega) hr1 hr z5 <| x_putF rfl rfl g8_28 (raw_sh (by omega) h0) (by decide) (fun _ => rfl) (fun _ => rfl) (by omega) <| ?_
  refine w_made (a := a) (ci := 8) (n := a + 6) (by omega) ha (by decide) h0 har (fun j o hj h => ?_) ?_
  · match j, hj, h with
    | 0, _, h => exact absurd h (by show ¬ 0 = o + 2; omega)
    | 1, _, h =>
      have h' : 3 = o + 2 := h
      have e : o = 1 := by omega
      subst e
      simp [gR, sR, sI, up2]
    | 2, _, h =>
      have h' : 4 = o + 2 := h
      have e : o = 2 := by omega
      subst e
      simp [gR, sR, sI, up2]
    | 3, _, h =>
      have h' : 5 = o + 2 := h
      have e : o = 3 := by omega
      subst e
      simp [gR, sR, sI, up2]
    | 4, _, h =>
      have h' : 6 = o + 2 := h
      have e : o = 4 := by omega
      subst e
      simp [gR, sR, sI, up2]
    | 5, _, h =>
      have h' : 7 = o + 2 := h
      have e : o = 5 := by omega
      subst e
      simp [gR, sR, sI, up2]
    | j + 6, hj, _ => exact absurd hj (by show ¬ j + 6 < 6; omega)
  generalize hMM : sR (sR (sR (sR (sR (sI M a 0 0) a 1 (a + 1)) a 2 (a + 2)) a 3 (a + 3)) a 4 (a + 4)) a 5 (a + 5) = MM
  have hfx : FrX a (a + 6) M MM := by
    rw [← hMM]
    exact FrX_sR (FrX_sR (FrX_sR (FrX_sR (FrX_sR (FrX_sI (FrX_refl _) (by omega) (by omega)) (by omega) (by omega)) (by omega) (by omega)) (by omega) (by omega)) (by omega) (by omega)) (by omega) (by omega)
  have i0 : (shp (Wd L xs (a + 6) rs) a).1 = 8 + 10 := by rw [wd_in (by omega) har, h0]
  have isT : isTR (Wd L xs (a + 6) rs) a := ⟨i0, (wd_in (by omega) (nrs_of hr h1 (by decide))).trans h1, (wd_in (by omega) (nrs_of hr h2 (by decide))).trans h2, (wd_in (by omega) (nrs_of hr h3 (by decide))).trans h3, (wd_in (by omega) (nrs_of hr h4 (by decide))).trans h4, (wd_in (by omega) (nrs_of hr h5 (by decide))).trans h5⟩
  have hv : TV t00 := (st0_ok.2.1 0 (by decide)).1
  have c0 : cT0 MM a t00 := by
    refine ⟨?_, fun i hi => absurd hi (Nat.not_lt_zero _), fun v hv => ?_⟩
    · rw [← hMM]; simp [sR, sI, up2]; rfl
    · rw [← hMM]
      show up2 M.1 a 0 0 (a + 2) v = 0
      rw [up2_ne (by omega)]
      exact (hz (a + 2) (by omega) v).1
  refine x_aload_n rfl rfl <| x_cV (as := []) rfl v8_31 rfl rfl i0 (Nat.le_of_ble_eq_true rfl) (placeCorners_ev (d := d + 2) isT hv c0) (fun v M1 q1 => ?_)
  obtain ⟨rfl, f1, c1⟩ := q1
  have c01 : cT0 M1 a t00 := cT0_fr c0 f1 (fun k j hk => tR2_f (by omega) (by omega))
  refine x_aload_n rfl rfl <| x_cV (as := []) rfl v8_34 rfl rfl i0 (Nat.le_of_ble_eq_true rfl) (findHeirs_ev (d := d) isT hv c01 c1) (fun v M2 q2 => ?_)
  obtain ⟨rfl, f2, c2⟩ := q2
  exact x_ret rfl rfl ⟨rfl, FrX_Fr (FrX_Fr hfx f1 (fun k j hk => tR2_f (by omega) (by omega))) f2 (fun k j hk => tR1_f (by omega)), c2⟩
end TRM
