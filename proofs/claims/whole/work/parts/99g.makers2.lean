/-! the makers of Reader, Counts, Shapes, Tree -/
theorem wObj3 : Cond.methodLink "PlaneMaps$Reader" 3 Lib.objectInit ∈ TB := tb_in 180 (by decide +kernel) (by decide +kernel)
theorem g3_27 : LkG "PlaneMaps$Reader" 27 3 5 (.array (.int)) := ⟨_, rfl, by decide, tb_in 204 (by decide +kernel) (by decide +kernel), rfl, rfl, by decide +kernel⟩
theorem g3_31 : LkG "PlaneMaps$Reader" 31 3 6 (.array (.int)) := ⟨_, rfl, by decide, tb_in 205 (by decide +kernel) (by decide +kernel), rfl, rfl, by decide +kernel⟩
theorem g3_37 : LkG "PlaneMaps$Reader" 37 3 7 (.object "PlaneMaps$RoundMaker") := ⟨_, rfl, by decide, tb_in 206 (by decide +kernel) (by decide +kernel), rfl, rfl, by decide +kernel⟩
theorem nw3_34 : LkNew "PlaneMaps$Reader" 34 5 := ⟨_, rfl, tb_in 181 (by decide +kernel) (by decide +kernel), tb_in 182 (by decide +kernel) (by decide +kernel), tb_in 94 (by decide +kernel) (by decide +kernel), by decide +kernel⟩
theorem lk3_36 : LkN "PlaneMaps$Reader" 36 m5_init "PlaneMaps" := ⟨nb_in 183 (by decide +kernel) (by decide +kernel), tb_in 185 (by decide +kernel) (by decide +kernel), tb_in 94 (by decide +kernel) (by decide +kernel), by decide +kernel, by decide⟩
theorem li3_36 : Cond.instanceMethod (mY m5_init) ∈ TB := tb_in 184 (by decide +kernel) (by decide +kernel)
theorem wObj0 : Cond.methodLink "PlaneMaps$Counts" 3 Lib.objectInit ∈ TB := tb_in 265 (by decide +kernel) (by decide +kernel)
theorem g0_11 : LkG "PlaneMaps$Counts" 11 0 0 (.array (.array (.long))) := ⟨_, rfl, by decide, tb_in 268 (by decide +kernel) (by decide +kernel), rfl, rfl, by decide +kernel⟩
theorem wObj6 : Cond.methodLink "PlaneMaps$Shapes" 3 Lib.objectInit ∈ TB := tb_in 281 (by decide +kernel) (by decide +kernel)
theorem g6_11 : LkG "PlaneMaps$Shapes" 11 6 0 (.array (.array (.int))) := ⟨_, rfl, by decide, tb_in 284 (by decide +kernel) (by decide +kernel), rfl, rfl, by decide +kernel⟩
theorem wObj8 : Cond.methodLink "PlaneMaps$Tree" 3 Lib.objectInit ∈ TB := tb_in 328 (by decide +kernel) (by decide +kernel)
theorem g8_15 : LkG "PlaneMaps$Tree" 15 8 1 (.array (.int)) := ⟨_, rfl, by decide, tb_in 347 (by decide +kernel) (by decide +kernel), rfl, rfl, by decide +kernel⟩
theorem g8_19 : LkG "PlaneMaps$Tree" 19 8 2 (.array (.int)) := ⟨_, rfl, by decide, tb_in 349 (by decide +kernel) (by decide +kernel), rfl, rfl, by decide +kernel⟩
theorem g8_22 : LkG "PlaneMaps$Tree" 22 8 3 (.array (.int)) := ⟨_, rfl, by decide, tb_in 351 (by decide +kernel) (by decide +kernel), rfl, rfl, by decide +kernel⟩
theorem g8_25 : LkG "PlaneMaps$Tree" 25 8 4 (.array (.int)) := ⟨_, rfl, by decide, tb_in 353 (by decide +kernel) (by decide +kernel), rfl, rfl, by decide +kernel⟩
theorem g8_28 : LkG "PlaneMaps$Tree" 28 8 5 (.array (.int)) := ⟨_, rfl, by decide, tb_in 355 (by decide +kernel) (by decide +kernel), rfl, rfl, by decide +kernel⟩
theorem wMJ : Cond.classLink "PlaneMaps$Counts" 9 "[[J" ∈ TB := tb_in 266 (by decide +kernel) (by decide +kernel)
theorem wOJ : Cond.arrayOver (.array .long) ∈ NB := nb_in 267 (by decide +kernel) (by decide +kernel)
theorem wMI : Cond.classLink "PlaneMaps$Shapes" 9 "[[I" ∈ TB := tb_in 282 (by decide +kernel) (by decide +kernel)
theorem wOI : Cond.arrayOver (.array .int) ∈ NB := nb_in 283 (by decide +kernel) (by decide +kernel)
theorem r_1 : rsOK [1] := rs_cons rs_nil (by decide)
section MKW2
variable {L : Nat} {xs : Nat → Int32} {d : Nat} {M : ME}
theorem r_12 : rsOK [12, 1] := rs_cons r_1 (by decide)
theorem r_15 : rsOK [15, 12, 1] := rs_cons r_12 (by decide)
theorem ev15 (M : ME) : EvC (Wd L xs 16 [15, 12, 1]) (Wd L xs 16 [12, 1]) (d + 1) m5_init [.ref 15] M (fun M' => M' = sI (sI M 15 0 (-1)) 15 1 (-1)) := by
  have h := init5_ev (E := Wd L xs 16 [15, 12, 1]) (a := 15) (d := d) (M := M) (wd_raw (by decide) (by decide)) (by decide)
  rw [wd_made (by decide) rfl (by decide)] at h
  exact h
theorem init3_ev (hz : Zr 13 M) : EvC (Wd L xs 13 [12, 1]) (Wd L xs 16 [1]) (d + 2) m3_init [.ref 12] M (fun M' => FrX 12 16 M M' ∧ M'.1 12 0 = 0 ∧ M'.1 12 1 = -1 ∧ M'.1 12 2 = -1 ∧ M'.1 12 3 = -1 ∧ M'.1 12 4 = -1) := by
  refine w_EvC k3_init rfl (Nat.le_of_ble_eq_true rfl) (by decide) r_12 r_1 ?_
  refine x_aload_n rfl rfl <| x_obj rfl wObj3 wObjI wObjC (Nat.le_of_ble_eq_true rfl) <| x_aload_n rfl rfl <| x_iconst (0) rfl (by decide) <| x_putIr rfl p3_9 (raw_sh (by decide) rfl) rfl (vp_nar_int _) rfl <| x_aload_n rfl rfl <| x_iconst (-1) rfl (by decide) <| x_putIr rfl p3_15 (raw_sh (by decide) rfl) rfl (vp_nar_int _) rfl <| x_aload_n rfl rfl <| x_iconst (-1) rfl (by decide) <| x_putIr rfl p3_18 (raw_sh (by decide) rfl) rfl (vp_nar_int _) rfl <| x_aload_n rfl rfl <| x_iconst (-1) rfl (by decide) <| x_putIr rfl p3_21 (raw_sh (by decide) rfl) rfl (vp_nar_int _) rfl <| x_aload_n rfl rfl <| x_iconst (-1) rfl (by decide) <| x_putIr rfl p3_24 (raw_sh (by decide) rfl) rfl (vp_nar_int _) rfl <| x_aload_n rfl rfl <| x_bipush (32) rfl (by decide) <| w_newI (N := 32) rfl rfl (by decide) (by decide) (by decide) r_12 r_1 (by repeat (first | exact Zr_mono hz (by decide) | refine Zr_sI ?_ (by decide) | refine Zr_sR ?_ (by decide) | refine Zr_sL ?_ (by decide))) <| x_putF rfl rfl g3_27 (raw_sh (by decide) rfl) (by decide) (fun _ => rfl) (fun _ => rfl) (by decide) <| x_aload_n rfl rfl <| x_bipush (32) rfl (by decide) <| w_newI (N := 32) rfl rfl (by decide) (by decide) (by decide) r_12 r_1 (by repeat (first | exact Zr_mono hz (by decide) | refine Zr_sI ?_ (by decide) | refine Zr_sR ?_ (by decide) | refine Zr_sL ?_ (by decide))) <| x_putF rfl rfl g3_31 (raw_sh (by decide) rfl) (by decide) (fun _ => rfl) (fun _ => rfl) (by decide) <| x_aload_n rfl rfl <| w_new rfl nw3_34 rfl (by decide) (by decide) r_12 r_1 (by repeat (first | exact Zr_mono hz (by decide) | refine Zr_sI ?_ (by decide) | refine Zr_sR ?_ (by decide) | refine Zr_sL ?_ (by decide))) <| x_dup rfl rfl <| w_cIN (n1 := 16) (rs1 := [12, 1]) rfl lk3_36 rfl rfl li3_36 (Nat.le_of_ble_eq_true rfl) (by decide) (by decide) (by decide) r_15 r_12 r_1 (ev15 _) (fun M1 hM1 => ?_)
  subst hM1
  refine x_putF rfl rfl g3_37 (raw_sh (by decide) rfl) (by decide) (fun _ => rfl) (fun _ => rfl) (by decide) <| x_aload_n rfl rfl <| x_iconst (0) rfl (by decide) <| x_putIr rfl p3_41 (raw_sh (by decide) rfl) rfl (vp_nar_int _) rfl <| x_aload_n rfl rfl <| x_iconst (0) rfl (by decide) <| x_putIr rfl p3_44 (raw_sh (by decide) rfl) rfl (vp_nar_int _) rfl <| x_aload_n rfl rfl <| x_iconst (-1) rfl (by decide) <| x_putIr rfl p3_47 (raw_sh (by decide) rfl) rfl (vp_nar_int _) rfl <| x_aload_n rfl rfl <| x_iconst (-1) rfl (by decide) <| x_putIr rfl p3_50 (raw_sh (by decide) rfl) rfl (vp_nar_int _) rfl <| x_aload_n rfl rfl <| x_iconst (0) rfl (by decide) <| x_putIr rfl p3_53 (raw_sh (by decide) rfl) rfl (vp_nar_int _) rfl <| x_aload_n rfl rfl <| x_iconst (0) rfl (by decide) <| x_putIr rfl p3_56 (raw_sh (by decide) rfl) rfl (vp_nar_int _) rfl <| x_aload_n rfl rfl <| x_iconst (0) rfl (by decide) <| x_putIr rfl p3_59 (raw_sh (by decide) rfl) rfl (vp_nar_int _) rfl <| w_made (by decide) (by decide) (by decide) rfl (by decide) (fun j o hj h => ?_) <| x_ret rfl rfl ⟨rfl, (by repeat (first | exact FrX_refl _ | refine FrX_sI ?_ (by decide) (by decide) | refine FrX_sR ?_ (by decide) (by decide) | refine FrX_sL ?_ (by decide) (by decide))), by simp [sI, sR, up2], by simp [sI, sR, up2], by simp [sI, sR, up2], by simp [sI, sR, up2], by simp [sI, sR, up2]⟩
  match j, hj, h with
  | 0, _, h => exact absurd h (by show ¬ 0 = o + 2; omega)
  | 1, _, h => exact absurd h (by show ¬ 0 = o + 2; omega)
  | 2, _, h => exact absurd h (by show ¬ 0 = o + 2; omega)
  | 3, _, h => exact absurd h (by show ¬ 0 = o + 2; omega)
  | 4, _, h => exact absurd h (by show ¬ 0 = o + 2; omega)
  | 5, _, h =>
    have e : o = 1 := by
      have h' : 3 = o + 2 := h
      omega
    subst e
    simp [gR, sR, sI, up2]
  | 6, _, h =>
    have e : o = 2 := by
      have h' : 4 = o + 2 := h
      omega
    subst e
    simp [gR, sR, sI, up2]
  | 7, _, h =>
    have e : o = 3 := by
      have h' : 5 = o + 2 := h
      omega
    subst e
    simp [gR, sR, sI, up2]
  | 8, _, h => exact absurd h (by show ¬ 0 = o + 2; omega)
  | 9, _, h => exact absurd h (by show ¬ 0 = o + 2; omega)
  | 10, _, h => exact absurd h (by show ¬ 0 = o + 2; omega)
  | 11, _, h => exact absurd h (by show ¬ 0 = o + 2; omega)
  | 12, _, h => exact absurd h (by show ¬ 0 = o + 2; omega)
  | 13, _, h => exact absurd h (by show ¬ 0 = o + 2; omega)
  | 14, _, h => exact absurd h (by show ¬ 0 = o + 2; omega)
  | j + 15, hj, _ => exact absurd hj (by show ¬ j + 15 < 15; omega)
theorem r_18 : rsOK [18, 1] := rs_cons r_1 (by decide)
theorem init0_ev (hz : Zr 19 M) : EvC (Wd L xs 19 [18, 1]) (Wd L xs 35 [1]) (d + 1) m0_init [.ref 18] M (fun M' => FrX 18 35 M M' ∧ M'.1 18 1 = 1 ∧ ∀ k j, 20 ≤ k → k < 35 → M'.2.1 k j = if k = 20 ∧ j = 0 then 1 else 0) := by
  refine w_EvC k0_init rfl (Nat.le_of_ble_eq_true rfl) (by decide) r_18 r_1 ?_
  have h4 : ∀ j, j < 15 → SH0 (19 + 1 + j) = (2, 29) := by decide
  refine x_aload_n rfl rfl <| x_obj rfl wObj0 wObjI wObjC (Nat.le_of_ble_eq_true rfl) <| x_aload_n rfl rfl <| x_bipush (15) rfl (by decide) <| x_bipush (29) rfl (by decide) <| w_multi (N := 15) (K := 29) (o := 6) (i := 2) rfl (Or.inr ⟨rfl, rfl, rfl⟩) (by decide +kernel) wMJ wOJ wArrL (by decide) (by decide) (by decide) rfl h4 (by decide) r_18 r_1 hz <| x_putF rfl rfl g0_11 (raw_sh (by decide) rfl) (by decide) (fun _ => rfl) (fun _ => rfl) (by decide) <| x_aload_n rfl rfl <| x_iconst (1) rfl (by decide) <| x_putIr rfl p0_16 (raw_sh (by decide) rfl) rfl (vp_nar_int _) rfl <| x_aload_n rfl rfl <| x_getFe (y := 19) rfl f0_11 (raw_sh (by decide) rfl) (by decide) (by simp [gR, sR, sI, up2]) (by decide) <| x_iconst (0) rfl (by decide) <| x_aal6 0 rfl (wd_in (by decide) (by decide)) (by decide) rfl (by decide) <| x_iconst (0) rfl (by decide) <| x_lconst (1) rfl (by decide) <| x_las 0 rfl (wd_in (by decide) (by decide)) (by decide) rfl (by decide) <| w_made (by decide) (by decide) (by decide) rfl (by decide) (fun j o hj h => ?_) <| x_ret rfl rfl ⟨rfl, (by repeat (first | exact FrX_refl _ | refine FrX_sI ?_ (by decide) (by decide) | refine FrX_sR ?_ (by decide) (by decide) | refine FrX_sL ?_ (by decide) (by decide))), by simp [sI, sL, sR, up2], fun k j h1 h2 => ?_⟩
  · match j, hj, h with
    | 0, _, h =>
      have e : o = 1 := by
        have h' : 3 = o + 2 := h
        omega
      subst e
      simp [gR, sR, sI, sL, up2]
    | 1, _, h => exact absurd h (by show ¬ 0 = o + 2; omega)
    | j + 2, hj, _ => exact absurd hj (by show ¬ j + 2 < 2; omega)
  · show up2 M.2.1 (19 + 1 + 0) 0 1 k j = _
    by_cases e : k = 20
    · subst e
      have e0 : up2 M.2.1 (19 + 1 + 0) 0 1 20 j = if j = 0 then 1 else M.2.1 20 j := congrFun (up2_eq (f := M.2.1) (k := 20) (j := 0) (v := 1)) j
      rw [e0]
      by_cases e2 : j = 0
      · rw [if_pos e2, if_pos (show 20 = 20 ∧ j = 0 from ⟨rfl, e2⟩)]
      · rw [if_neg e2, if_neg (show ¬ (20 = 20 ∧ j = 0) from fun q => e2 q.2)]; exact (hz 20 (by decide) j).2.1
    · rw [if_neg (fun q => e q.1)]
      exact (congrFun (up2_ne e) j).trans (hz k (by omega) j).2.1
end MKW2
