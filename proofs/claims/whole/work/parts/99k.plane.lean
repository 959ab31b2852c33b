/-! the maker of PlaneMaps, step by step -/
theorem wObj9 : Cond.methodLink "PlaneMaps" 3 Lib.objectInit ∈ TB := tb_in 109 (by decide +kernel) (by decide +kernel)
theorem g9_9 : LkG "PlaneMaps" 9 9 0 (.array (.int)) := ⟨_, rfl, by decide, tb_in 370 (by decide +kernel) (by decide +kernel), rfl, rfl, by decide +kernel⟩
theorem g9_19 : LkG "PlaneMaps" 19 9 2 (.array (.object "PlaneMaps$Tree")) := ⟨_, rfl, by decide, tb_in 372 (by decide +kernel) (by decide +kernel), rfl, rfl, by decide +kernel⟩
theorem g9_25 : LkG "PlaneMaps" 25 9 3 (.array (.object "PlaneMaps$RootedMap")) := ⟨_, rfl, by decide, tb_in 373 (by decide +kernel) (by decide +kernel), rfl, rfl, by decide +kernel⟩
theorem g9_37 : LkG "PlaneMaps" 37 9 5 (.object "PlaneMaps$Reader") := ⟨_, rfl, by decide, tb_in 375 (by decide +kernel) (by decide +kernel), rfl, rfl, by decide +kernel⟩
theorem g9_44 : LkG "PlaneMaps" 44 9 6 (.object "PlaneMaps$TextWriter") := ⟨_, rfl, by decide, tb_in 376 (by decide +kernel) (by decide +kernel), rfl, rfl, by decide +kernel⟩
theorem g9_51 : LkG "PlaneMaps" 51 9 7 (.object "PlaneMaps$Counts") := ⟨_, rfl, by decide, tb_in 377 (by decide +kernel) (by decide +kernel), rfl, rfl, by decide +kernel⟩
theorem g9_58 : LkG "PlaneMaps" 58 9 8 (.object "PlaneMaps$Shapes") := ⟨_, rfl, by decide, tb_in 378 (by decide +kernel) (by decide +kernel), rfl, rfl, by decide +kernel⟩
theorem g9_65 : LkG "PlaneMaps" 65 9 9 (.object "PlaneMaps$Distances") := ⟨_, rfl, by decide, tb_in 379 (by decide +kernel) (by decide +kernel), rfl, rfl, by decide +kernel⟩
theorem g9_72 : LkG "PlaneMaps" 72 9 10 (.object "PlaneMaps$RoundMaker") := ⟨_, rfl, by decide, tb_in 380 (by decide +kernel) (by decide +kernel), rfl, rfl, by decide +kernel⟩
theorem g9_79 : LkG "PlaneMaps" 79 9 11 (.object "PlaneMaps$Namer") := ⟨_, rfl, by decide, tb_in 381 (by decide +kernel) (by decide +kernel), rfl, rfl, by decide +kernel⟩
theorem g9_83 : LkG "PlaneMaps" 83 9 12 (.array (.int)) := ⟨_, rfl, by decide, tb_in 382 (by decide +kernel) (by decide +kernel), rfl, rfl, by decide +kernel⟩
theorem g9_86 : LkG "PlaneMaps" 86 9 13 (.array (.int)) := ⟨_, rfl, by decide, tb_in 383 (by decide +kernel) (by decide +kernel), rfl, rfl, by decide +kernel⟩
theorem g9_89 : LkG "PlaneMaps" 89 9 14 (.array (.int)) := ⟨_, rfl, by decide, tb_in 384 (by decide +kernel) (by decide +kernel), rfl, rfl, by decide +kernel⟩
theorem nw9_17 : LkNew "PlaneMaps" 17 8 := ⟨_, rfl, tb_in 112 (by decide +kernel) (by decide +kernel), tb_in 324 (by decide +kernel) (by decide +kernel), tb_in 100 (by decide +kernel) (by decide +kernel), by decide +kernel⟩
theorem nw9_23 : LkNew "PlaneMaps" 23 4 := ⟨_, rfl, tb_in 114 (by decide +kernel) (by decide +kernel), tb_in 116 (by decide +kernel) (by decide +kernel), tb_in 92 (by decide +kernel) (by decide +kernel), by decide +kernel⟩
theorem nw9_34 : LkNew "PlaneMaps" 34 3 := ⟨_, rfl, tb_in 175 (by decide +kernel) (by decide +kernel), tb_in 176 (by decide +kernel) (by decide +kernel), tb_in 93 (by decide +kernel) (by decide +kernel), by decide +kernel⟩
theorem nw9_41 : LkNew "PlaneMaps" 41 7 := ⟨_, rfl, tb_in 245 (by decide +kernel) (by decide +kernel), tb_in 246 (by decide +kernel) (by decide +kernel), tb_in 95 (by decide +kernel) (by decide +kernel), by decide +kernel⟩
theorem nw9_48 : LkNew "PlaneMaps" 48 0 := ⟨_, rfl, tb_in 260 (by decide +kernel) (by decide +kernel), tb_in 261 (by decide +kernel) (by decide +kernel), tb_in 96 (by decide +kernel) (by decide +kernel), by decide +kernel⟩
theorem nw9_55 : LkNew "PlaneMaps" 55 6 := ⟨_, rfl, tb_in 276 (by decide +kernel) (by decide +kernel), tb_in 277 (by decide +kernel) (by decide +kernel), tb_in 97 (by decide +kernel) (by decide +kernel), by decide +kernel⟩
theorem nw9_62 : LkNew "PlaneMaps" 62 1 := ⟨_, rfl, tb_in 288 (by decide +kernel) (by decide +kernel), tb_in 289 (by decide +kernel) (by decide +kernel), tb_in 98 (by decide +kernel) (by decide +kernel), by decide +kernel⟩
theorem nw9_69 : LkNew "PlaneMaps" 69 5 := ⟨_, rfl, tb_in 303 (by decide +kernel) (by decide +kernel), tb_in 182 (by decide +kernel) (by decide +kernel), tb_in 94 (by decide +kernel) (by decide +kernel), by decide +kernel⟩
theorem nw9_76 : LkNew "PlaneMaps" 76 2 := ⟨_, rfl, tb_in 305 (by decide +kernel) (by decide +kernel), tb_in 306 (by decide +kernel) (by decide +kernel), tb_in 99 (by decide +kernel) (by decide +kernel), by decide +kernel⟩
theorem lk9_50 : LkC "PlaneMaps" 50 m0_init 0 := ⟨tb_in 262 (by decide +kernel) (by decide +kernel), tb_in 264 (by decide +kernel) (by decide +kernel), tb_in 96 (by decide +kernel) (by decide +kernel), by decide +kernel, by decide⟩
theorem li9_50 : Cond.instanceMethod (mY m0_init) ∈ TB := tb_in 263 (by decide +kernel) (by decide +kernel)
theorem lk9_57 : LkC "PlaneMaps" 57 m6_init 0 := ⟨tb_in 278 (by decide +kernel) (by decide +kernel), tb_in 280 (by decide +kernel) (by decide +kernel), tb_in 97 (by decide +kernel) (by decide +kernel), by decide +kernel, by decide⟩
theorem li9_57 : Cond.instanceMethod (mY m6_init) ∈ TB := tb_in 279 (by decide +kernel) (by decide +kernel)
theorem lk9_92 : LkC "PlaneMaps" 92 m8_init 0 := ⟨tb_in 325 (by decide +kernel) (by decide +kernel), tb_in 327 (by decide +kernel) (by decide +kernel), tb_in 100 (by decide +kernel) (by decide +kernel), by decide +kernel, by decide⟩
theorem li9_92 : Cond.instanceMethod (mY m8_init) ∈ TB := tb_in 326 (by decide +kernel) (by decide +kernel)
theorem lk9_29 : LkN "PlaneMaps" 29 m4_init "PlaneMaps" := ⟨nb_in 117 (by decide +kernel) (by decide +kernel), tb_in 119 (by decide +kernel) (by decide +kernel), tb_in 92 (by decide +kernel) (by decide +kernel), by decide +kernel, by decide⟩
theorem li9_29 : Cond.instanceMethod (mY m4_init) ∈ TB := tb_in 118 (by decide +kernel) (by decide +kernel)
theorem lk9_36 : LkN "PlaneMaps" 36 m3_init "PlaneMaps" := ⟨nb_in 177 (by decide +kernel) (by decide +kernel), tb_in 179 (by decide +kernel) (by decide +kernel), tb_in 93 (by decide +kernel) (by decide +kernel), by decide +kernel, by decide⟩
theorem li9_36 : Cond.instanceMethod (mY m3_init) ∈ TB := tb_in 178 (by decide +kernel) (by decide +kernel)
theorem lk9_43 : LkN "PlaneMaps" 43 m7_init "PlaneMaps" := ⟨nb_in 247 (by decide +kernel) (by decide +kernel), tb_in 249 (by decide +kernel) (by decide +kernel), tb_in 95 (by decide +kernel) (by decide +kernel), by decide +kernel, by decide⟩
theorem li9_43 : Cond.instanceMethod (mY m7_init) ∈ TB := tb_in 248 (by decide +kernel) (by decide +kernel)
theorem lk9_64 : LkN "PlaneMaps" 64 m1_init "PlaneMaps" := ⟨nb_in 290 (by decide +kernel) (by decide +kernel), tb_in 292 (by decide +kernel) (by decide +kernel), tb_in 98 (by decide +kernel) (by decide +kernel), by decide +kernel, by decide⟩
theorem li9_64 : Cond.instanceMethod (mY m1_init) ∈ TB := tb_in 291 (by decide +kernel) (by decide +kernel)
theorem lk9_71 : LkN "PlaneMaps" 71 m5_init "PlaneMaps" := ⟨nb_in 304 (by decide +kernel) (by decide +kernel), tb_in 185 (by decide +kernel) (by decide +kernel), tb_in 94 (by decide +kernel) (by decide +kernel), by decide +kernel, by decide⟩
theorem li9_71 : Cond.instanceMethod (mY m5_init) ∈ TB := tb_in 184 (by decide +kernel) (by decide +kernel)
theorem lk9_78 : LkN "PlaneMaps" 78 m2_init "PlaneMaps" := ⟨nb_in 307 (by decide +kernel) (by decide +kernel), tb_in 309 (by decide +kernel) (by decide +kernel), tb_in 99 (by decide +kernel) (by decide +kernel), by decide +kernel, by decide⟩
theorem li9_78 : Cond.instanceMethod (mY m2_init) ∈ TB := tb_in 308 (by decide +kernel) (by decide +kernel)
theorem wOT : Cond.arrayOver (.object "PlaneMaps$Tree") ∈ NB := nb_in 113 (by decide +kernel) (by decide +kernel)
theorem wOM : Cond.arrayOver (.object "PlaneMaps$RootedMap") ∈ NB := nb_in 115 (by decide +kernel) (by decide +kernel)
theorem wLT : Cond.classLink "PlaneMaps" 17 "PlaneMaps$Tree" ∈ TB := tb_in 112 (by decide +kernel) (by decide +kernel)
theorem wLM : Cond.classLink "PlaneMaps" 23 "PlaneMaps$RootedMap" ∈ TB := tb_in 114 (by decide +kernel) (by decide +kernel)
section PMK
variable {L : Nat} {xs : Nat → Int32} {d : Nat} {M : ME} {R : Option Value → ME → Prop} {w : Value}
theorem pm_4 (I : CT 2 0 0 0 M) (K : ∀ M', CT 3 1 0 0 M' → Wx (Wd L xs 3 [1]) (Wd L xs 110 []) (d + 4) m9_init 13 [.ref 1, .null] [] M' R) : Wx (Wd L xs 2 [1]) (Wd L xs 110 []) (d + 4) m9_init 4 [.ref 1, .null] [] M R := by
  refine x_aload_n rfl rfl <| x_sipush (300) rfl (by decide) <| w_newI (N := 300) rfl rfl (by decide) (by decide) (by decide) r_1 rs_nil I.1.1 <| x_putF rfl rfl g9_9 (raw_sh (a := 1) (rs := []) (by decide) rfl) (by decide) (fun _ => rfl) (fun _ => rfl) (by decide) <| ?_
  exact K _ (CT_put (CT_cell I (by decide)) (by decide) rfl)
theorem pm_13 (I : CT 3 1 0 0 M) (K : ∀ M', CT 3 2 0 0 M' → Wx (Wd L xs 3 [1]) (Wd L xs 110 []) (d + 4) m9_init 18 [.ref 1, .null] [] M' R) : Wx (Wd L xs 3 [1]) (Wd L xs 110 []) (d + 4) m9_init 13 [.ref 1, .null] [] M R := by
  refine x_aload_n rfl rfl <| x_iconst (0) rfl (by decide) <| x_putIr rfl p9_13 (raw_sh (a := 1) (rs := []) (by decide) rfl) rfl (vp_nar_int _) rfl <| ?_
  exact K _ (CT_tape I (by decide))
theorem pm_18 (I : CT 3 2 0 0 M) (K : ∀ M', CT 4 3 0 0 M' → Wx (Wd L xs 4 [1]) (Wd L xs 110 []) (d + 4) m9_init 26 [.ref 1, .null] [] M' R) : Wx (Wd L xs 3 [1]) (Wd L xs 110 []) (d + 4) m9_init 18 [.ref 1, .null] [] M R := by
  refine x_aload_n rfl rfl <| x_iconst (3) rfl (by decide) <| w_newQ (t := 3) (N := 3) (T0 := "PlaneMaps$Tree") rfl (Or.inl rfl) (fun G => rfl) wLT wOT rfl (by decide) (by decide) (by decide) r_1 rs_nil I.1.1 <| x_putF rfl rfl g9_19 (raw_sh (a := 1) (rs := []) (by decide) rfl) (by decide) (fun _ => rfl) (fun _ => rfl) (by decide) <| ?_
  exact K _ (CT_put (CT_cell I (by decide)) (by decide) rfl)
theorem pm_26 (I : CT 4 3 0 0 M) (K : ∀ M', CT 5 4 0 0 M' → Wx (Wd L xs 5 [1]) (Wd L xs 110 []) (d + 4) m9_init 34 [.ref 1, .null] [] M' R) : Wx (Wd L xs 4 [1]) (Wd L xs 110 []) (d + 4) m9_init 26 [.ref 1, .null] [] M R := by
  refine x_aload_n rfl rfl <| x_iconst (4) rfl (by decide) <| w_newQ (t := 4) (N := 4) (T0 := "PlaneMaps$RootedMap") rfl (Or.inr rfl) (fun G => rfl) wLM wOM rfl (by decide) (by decide) (by decide) r_1 rs_nil I.1.1 <| x_putF rfl rfl g9_25 (raw_sh (a := 1) (rs := []) (by decide) rfl) (by decide) (fun _ => rfl) (fun _ => rfl) (by decide) <| ?_
  exact K _ (CT_put (CT_cell I (by decide)) (by decide) rfl)
theorem pm_34 (I : CT 5 4 0 0 M) (K : ∀ M', CT 12 5 0 0 M' → Wx (Wd L xs 12 [1]) (Wd L xs 110 []) (d + 4) m9_init 45 [.ref 1, .null] [] M' R) : Wx (Wd L xs 5 [1]) (Wd L xs 110 []) (d + 4) m9_init 34 [.ref 1, .null] [] M R := by
  have hr : rsOK [5, 1] := rs_cons r_1 (by decide)
  have hz : Zr 6 M := Zr_mono I.1.1 (by decide)
  have ev := map_ev (L := L) (xs := xs) (a := 5) (rs := [1]) (d := d + 2) (M := M) ⟨rfl, rfl, rfl, rfl, rfl, rfl, rfl⟩ (by decide) r_1 (by decide) hz
  refine x_aload_n rfl rfl <| w_new rfl nw9_23 rfl (by decide) (by decide) r_1 rs_nil I.1.1 <| x_dup rfl rfl <| w_cIN (n1 := 12) (rs1 := [1]) rfl lk9_29 rfl rfl li9_29 (Nat.le_of_ble_eq_true rfl) (by decide) (by decide) (by decide) hr r_1 rs_nil ev (fun M1 q1 => ?_)
  subst q1
  have f := mpM_fr M 5
  refine x_putRr rfl p9_30 (raw_sh (a := 1) (rs := []) (by decide) rfl) (by decide) (fun _ => rfl) (fun _ => rfl) (by decide) <| ?_
  exact K _ (CT_put (CT_make I (by decide) (by decide) f (fun _ _ => mpM_cM hz) (fun a b => by omega) (fun a b => by omega) (fun a b => by omega) (fun s hs a b => by omega) (fun s hs a b => by omega)) (by decide) rfl)
theorem pm_45 (I : CT 12 5 0 0 M) (K : ∀ M', CT 16 6 0 0 M' → Wx (Wd L xs 16 [1]) (Wd L xs 110 []) (d + 4) m9_init 56 [.ref 1, .null] [] M' R) : Wx (Wd L xs 12 [1]) (Wd L xs 110 []) (d + 4) m9_init 45 [.ref 1, .null] [] M R := by
  have hr : rsOK [12, 1] := rs_cons r_1 (by decide)
  have hz : Zr 13 M := Zr_mono I.1.1 (by decide)
  have ev := init3_ev (L := L) (xs := xs) (d := d + 1) (M := M) hz
  refine x_aload_n rfl rfl <| w_new rfl nw9_34 rfl (by decide) (by decide) r_1 rs_nil I.1.1 <| x_dup rfl rfl <| w_cIN (n1 := 16) (rs1 := [1]) rfl lk9_36 rfl rfl li9_36 (Nat.le_of_ble_eq_true rfl) (by decide) (by decide) (by decide) hr r_1 rs_nil ev (fun M1 q1 => ?_)
  obtain ⟨f, q2⟩ := q1
  refine x_putF rfl rfl g9_37 (raw_sh (a := 1) (rs := []) (by decide) rfl) (by decide) (fun _ => rfl) (fun _ => rfl) (by decide) <| ?_
  exact K _ (CT_put (CT_make I (by decide) (by decide) f (fun a b => by omega) (fun _ _ => q2) (fun a b => by omega) (fun a b => by omega) (fun s hs a b => by omega) (fun s hs a b => by omega)) (by decide) rfl)
theorem pm_56 (I : CT 16 6 0 0 M) (K : ∀ M', CT 18 7 0 0 M' → Wx (Wd L xs 18 [1]) (Wd L xs 110 []) (d + 4) m9_init 67 [.ref 1, .null] [] M' R) : Wx (Wd L xs 16 [1]) (Wd L xs 110 []) (d + 4) m9_init 56 [.ref 1, .null] [] M R := by
  have hr : rsOK [16, 1] := rs_cons r_1 (by decide)
  have hz : Zr 17 M := Zr_mono I.1.1 (by decide)
  have ev := init7_ev (E := Wd L xs 17 [16, 1]) (a := 16) (d := d + 2) (M := M) rfl (wd_raw (by decide) (by decide)) (by decide) (fun k hk j => (hz _ (by show 17 ≤ 17 + k; omega) j).1)
  rw [wd_grow (n := 17) (q := (1, 128)) rfl (by decide), wd_made (by decide) rfl (by decide)] at ev
  refine x_aload_n rfl rfl <| w_new rfl nw9_41 rfl (by decide) (by decide) r_1 rs_nil I.1.1 <| x_dup rfl rfl <| w_cIN (n1 := 18) (rs1 := [1]) rfl lk9_43 rfl rfl li9_43 (Nat.le_of_ble_eq_true rfl) (by decide) (by decide) (by decide) hr r_1 rs_nil ev (fun M1 q1 => ?_)
  have f : FrX 16 18 M M1 := (by subst q1; repeat (first | exact FrX_refl _ | refine FrX_sI ?_ (by decide) (by decide) | refine FrX_sR ?_ (by decide) (by decide)))
  refine x_putF rfl rfl g9_44 (raw_sh (a := 1) (rs := []) (by decide) rfl) (by decide) (fun _ => rfl) (fun _ => rfl) (by decide) <| ?_
  exact K _ (CT_put (CT_make I (by decide) (by decide) f (fun a b => by omega) (fun a b => by omega) (fun a b => by omega) (fun a b => by omega) (fun s hs a b => by omega) (fun s hs a b => by omega)) (by decide) rfl)
theorem pm_67 (I : CT 18 7 0 0 M) (K : ∀ M', CT 35 8 0 0 M' → Wx (Wd L xs 35 [1]) (Wd L xs 110 []) (d + 4) m9_init 78 [.ref 1, .null] [] M' R) : Wx (Wd L xs 18 [1]) (Wd L xs 110 []) (d + 4) m9_init 67 [.ref 1, .null] [] M R := by
  have hr : rsOK [18, 1] := rs_cons r_1 (by decide)
  have hz : Zr 19 M := Zr_mono I.1.1 (by decide)
  have ev := init0_ev (L := L) (xs := xs) (d := d + 2) (M := M) hz
  refine x_aload_n rfl rfl <| w_new rfl nw9_48 rfl (by decide) (by decide) r_1 rs_nil I.1.1 <| x_dup rfl rfl <| w_cI (n1 := 35) (rs1 := [1]) rfl lk9_50 rfl rfl li9_50 (Nat.le_of_ble_eq_true rfl) (by decide) (by decide) (by decide) hr r_1 rs_nil ev (fun M1 q1 => ?_)
  obtain ⟨f, q2⟩ := q1
  refine x_putF rfl rfl g9_51 (raw_sh (a := 1) (rs := []) (by decide) rfl) (by decide) (fun _ => rfl) (fun _ => rfl) (by decide) <| ?_
  exact K _ (CT_put (CT_make I (by decide) (by decide) f (fun a b => by omega) (fun a b => by omega) (fun _ _ => q2) (fun a b => by omega) (fun s hs a b => by omega) (fun s hs a b => by omega)) (by decide) rfl)
theorem pm_78 (I : CT 35 8 0 0 M) (K : ∀ M', CT 54 9 0 0 M' → Wx (Wd L xs 54 [1]) (Wd L xs 110 []) (d + 4) m9_init 89 [.ref 1, .null] [] M' R) : Wx (Wd L xs 35 [1]) (Wd L xs 110 []) (d + 4) m9_init 78 [.ref 1, .null] [] M R := by
  have hr : rsOK [35, 1] := rs_cons r_1 (by decide)
  have hz : Zr 36 M := Zr_mono I.1.1 (by decide)
  have ev := init6_ev (L := L) (xs := xs) (d := d + 2) (M := M) hz
  refine x_aload_n rfl rfl <| w_new rfl nw9_55 rfl (by decide) (by decide) r_1 rs_nil I.1.1 <| x_dup rfl rfl <| w_cI (n1 := 54) (rs1 := [1]) rfl lk9_57 rfl rfl li9_57 (Nat.le_of_ble_eq_true rfl) (by decide) (by decide) (by decide) hr r_1 rs_nil ev (fun M1 q1 => ?_)
  obtain ⟨f, q2⟩ := q1
  refine x_putF rfl rfl g9_58 (raw_sh (a := 1) (rs := []) (by decide) rfl) (by decide) (fun _ => rfl) (fun _ => rfl) (by decide) <| ?_
  exact K _ (CT_put (CT_make I (by decide) (by decide) f (fun a b => by omega) (fun a b => by omega) (fun a b => by omega) (fun _ _ => q2) (fun s hs a b => by omega) (fun s hs a b => by omega)) (by decide) rfl)
theorem pm_89 (I : CT 54 9 0 0 M) (K : ∀ M', CT 56 10 0 0 M' → Wx (Wd L xs 56 [1]) (Wd L xs 110 []) (d + 4) m9_init 100 [.ref 1, .null] [] M' R) : Wx (Wd L xs 54 [1]) (Wd L xs 110 []) (d + 4) m9_init 89 [.ref 1, .null] [] M R := by
  have hr : rsOK [54, 1] := rs_cons r_1 (by decide)
  have hz : Zr 55 M := Zr_mono I.1.1 (by decide)
  have ev := init1_ev (E := Wd L xs 55 [54, 1]) (a := 54) (d := d + 2) (M := M) rfl (wd_raw (by decide) (by decide)) (by decide) (fun k hk j => (hz _ (by show 55 ≤ 55 + k; omega) j).1)
  rw [wd_grow (n := 55) (q := (1, 32)) rfl (by decide), wd_made (by decide) rfl (by decide)] at ev
  refine x_aload_n rfl rfl <| w_new rfl nw9_62 rfl (by decide) (by decide) r_1 rs_nil I.1.1 <| x_dup rfl rfl <| w_cIN (n1 := 56) (rs1 := [1]) rfl lk9_64 rfl rfl li9_64 (Nat.le_of_ble_eq_true rfl) (by decide) (by decide) (by decide) hr r_1 rs_nil ev (fun M1 q1 => ?_)
  have f : FrX 54 56 M M1 := (by subst q1; repeat (first | exact FrX_refl _ | refine FrX_sI ?_ (by decide) (by decide) | refine FrX_sR ?_ (by decide) (by decide)))
  refine x_putF rfl rfl g9_65 (raw_sh (a := 1) (rs := []) (by decide) rfl) (by decide) (fun _ => rfl) (fun _ => rfl) (by decide) <| ?_
  exact K _ (CT_put (CT_make I (by decide) (by decide) f (fun a b => by omega) (fun a b => by omega) (fun a b => by omega) (fun a b => by omega) (fun s hs a b => by omega) (fun s hs a b => by omega)) (by decide) rfl)
theorem pm_100 (I : CT 56 10 0 0 M) (K : ∀ M', CT 57 11 0 0 M' → Wx (Wd L xs 57 [1]) (Wd L xs 110 []) (d + 4) m9_init 111 [.ref 1, .null] [] M' R) : Wx (Wd L xs 56 [1]) (Wd L xs 110 []) (d + 4) m9_init 100 [.ref 1, .null] [] M R := by
  have hr : rsOK [56, 1] := rs_cons r_1 (by decide)
  have hz : Zr 57 M := Zr_mono I.1.1 (by decide)
  have ev := init5_ev (E := Wd L xs 57 [56, 1]) (a := 56) (d := d + 2) (M := M) (wd_raw (by decide) (by decide)) (by decide)
  rw [wd_made (by decide) rfl (by decide)] at ev
  refine x_aload_n rfl rfl <| w_new rfl nw9_69 rfl (by decide) (by decide) r_1 rs_nil I.1.1 <| x_dup rfl rfl <| w_cIN (n1 := 57) (rs1 := [1]) rfl lk9_71 rfl rfl li9_71 (Nat.le_of_ble_eq_true rfl) (by decide) (by decide) (by decide) hr r_1 rs_nil ev (fun M1 q1 => ?_)
  have f : FrX 56 57 M M1 := (by subst q1; repeat (first | exact FrX_refl _ | refine FrX_sI ?_ (by decide) (by decide) | refine FrX_sR ?_ (by decide) (by decide)))
  refine x_putF rfl rfl g9_72 (raw_sh (a := 1) (rs := []) (by decide) rfl) (by decide) (fun _ => rfl) (fun _ => rfl) (by decide) <| ?_
  exact K _ (CT_put (CT_make I (by decide) (by decide) f (fun a b => by omega) (fun a b => by omega) (fun a b => by omega) (fun a b => by omega) (fun s hs a b => by omega) (fun s hs a b => by omega)) (by decide) rfl)
theorem pm_111 (I : CT 57 11 0 0 M) (K : ∀ M', CT 61 12 0 0 M' → Wx (Wd L xs 61 [1]) (Wd L xs 110 []) (d + 4) m9_init 122 [.ref 1, .null] [] M' R) : Wx (Wd L xs 57 [1]) (Wd L xs 110 []) (d + 4) m9_init 111 [.ref 1, .null] [] M R := by
  have hr : rsOK [57, 1] := rs_cons r_1 (by decide)
  have hz : Zr 58 M := Zr_mono I.1.1 (by decide)
  have ev := init2_ev (E := Wd L xs 58 [57, 1]) (a := 57) (d := d + 2) (M := M) rfl (wd_raw (by decide) (by decide)) (by decide) (fun k hk j => (hz _ (by show 58 ≤ 58 + k; omega) j).1)
  rw [wd_grow (n := 58) (q := (1, 32)) rfl (by decide), wd_grow (n := 58 + 1) (q := (1, 32)) rfl (by decide), wd_grow (n := 58 + 1 + 1) (q := (1, 32)) rfl (by decide), wd_made (by decide) rfl (by decide)] at ev
  refine x_aload_n rfl rfl <| w_new rfl nw9_76 rfl (by decide) (by decide) r_1 rs_nil I.1.1 <| x_dup rfl rfl <| w_cIN (n1 := 61) (rs1 := [1]) rfl lk9_78 rfl rfl li9_78 (Nat.le_of_ble_eq_true rfl) (by decide) (by decide) (by decide) hr r_1 rs_nil ev (fun M1 q1 => ?_)
  have f : FrX 57 61 M M1 := (by subst q1; repeat (first | exact FrX_refl _ | refine FrX_sI ?_ (by decide) (by decide) | refine FrX_sR ?_ (by decide) (by decide)))
  refine x_putF rfl rfl g9_79 (raw_sh (a := 1) (rs := []) (by decide) rfl) (by decide) (fun _ => rfl) (fun _ => rfl) (by decide) <| ?_
  exact K _ (CT_put (CT_make I (by decide) (by decide) f (fun a b => by omega) (fun a b => by omega) (fun a b => by omega) (fun a b => by omega) (fun s hs a b => by omega) (fun s hs a b => by omega)) (by decide) rfl)
theorem pm_122 (I : CT 61 12 0 0 M) (K : ∀ M', CT 62 13 0 0 M' → Wx (Wd L xs 62 [1]) (Wd L xs 110 []) (d + 4) m9_init 130 [.ref 1, .null] [] M' R) : Wx (Wd L xs 61 [1]) (Wd L xs 110 []) (d + 4) m9_init 122 [.ref 1, .null] [] M R := by
  refine x_aload_n rfl rfl <| x_bipush (32) rfl (by decide) <| w_newI (N := 32) rfl rfl (by decide) (by decide) (by decide) r_1 rs_nil I.1.1 <| x_putF rfl rfl g9_83 (raw_sh (a := 1) (rs := []) (by decide) rfl) (by decide) (fun _ => rfl) (fun _ => rfl) (by decide) <| ?_
  exact K _ (CT_put (CT_cell I (by decide)) (by decide) rfl)
theorem pm_130 (I : CT 62 13 0 0 M) (K : ∀ M', CT 63 14 0 0 M' → Wx (Wd L xs 63 [1]) (Wd L xs 110 []) (d + 4) m9_init 138 [.ref 1, .null] [] M' R) : Wx (Wd L xs 62 [1]) (Wd L xs 110 []) (d + 4) m9_init 130 [.ref 1, .null] [] M R := by
  refine x_aload_n rfl rfl <| x_bipush (32) rfl (by decide) <| w_newI (N := 32) rfl rfl (by decide) (by decide) (by decide) r_1 rs_nil I.1.1 <| x_putF rfl rfl g9_86 (raw_sh (a := 1) (rs := []) (by decide) rfl) (by decide) (fun _ => rfl) (fun _ => rfl) (by decide) <| ?_
  exact K _ (CT_put (CT_cell I (by decide)) (by decide) rfl)
theorem pm_138 (I : CT 63 14 0 0 M) (K : ∀ M', CT 64 15 0 0 M' → Wx (Wd L xs 64 [1]) (Wd L xs 110 []) (d + 4) m9_init 146 [.ref 1, .null] [] M' R) : Wx (Wd L xs 63 [1]) (Wd L xs 110 []) (d + 4) m9_init 138 [.ref 1, .null] [] M R := by
  refine x_aload_n rfl rfl <| x_bipush (32) rfl (by decide) <| w_newI (N := 32) rfl rfl (by decide) (by decide) (by decide) r_1 rs_nil I.1.1 <| x_putF rfl rfl g9_89 (raw_sh (a := 1) (rs := []) (by decide) rfl) (by decide) (fun _ => rfl) (fun _ => rfl) (by decide) <| ?_
  exact K _ (CT_put (CT_cell I (by decide)) (by decide) rfl)
theorem hs1 {n : Nat} (h : 1 < n) : (shp (Wd L xs n [1]) 1).1 = 9 + 30 := raw_sh (a := 1) (rs := []) h rfl
theorem pm_trees (K : ∀ M', CT 82 15 3 0 M' → Wx (Wd L xs 82 [1]) (Wd L xs 110 []) (d + 4) m9_init 172 [.ref 1, .int (nI 3)] [] M' R) : ∀ (q s a : Nat) (M : ME), s + q = 3 → a = 64 + 6 * s → CT a 15 s 0 M → Wx (Wd L xs a [1]) (Wd L xs 110 []) (d + 4) m9_init 148 [.ref 1, .int (nI s)] [] M R
  | 0, s, a, M, hq, ha, I => by
    have e : s = 3 := by omega
    subst e
    have e2 : a = 82 := by omega
    subst e2
    exact x_iload_n rfl rfl <| x_iconst (3) rfl (by decide) <| x_icmp_ge rfl rfl (fun _ => K M I) (fun z => absurd (show (3 : Int32) ≤ nI 3 by decide) z)
  | q + 1, s, a, M, hq, ha, I => by
    have hT : trS a := by
      rcases (show s = 0 ∨ s = 1 ∨ s = 2 by omega) with rfl | rfl | rfl <;> subst ha <;> exact ⟨rfl, rfl, rfl, rfl, rfl, rfl⟩
    have har : a ∉ [1] := by
      intro h
      have := List.mem_singleton.mp h
      omega
    have hr : rsOK [a, 1] := rs_cons r_1 (by rw [hT.1]; decide)
    have hz : Zr (a + 1) M := Zr_mono I.1.1 (by omega)
    have ev := init8_ev (L := L) (xs := xs) (a := a) (rs := [1]) (d := d) (M := M) hT (by omega) r_1 har hz
    refine x_iload_n rfl rfl <| x_iconst (3) rfl (by decide) <| x_icmp_ge rfl rfl (fun z => absurd ((nI_leI (a := 3) (b := s) (by decide) (by omega)).mp z) (by omega)) (fun _ => ?_)
    refine x_aload_n rfl rfl <| x_getFe (y := 3) rfl f9_19 (hs1 (by omega)) (by decide) (I.2.1 2 (by decide) (by decide)) (by decide) <| x_iload_n rfl rfl <| w_new rfl nw9_17 hT.1 (by omega) (by omega) r_1 rs_nil I.1.1 <| x_dup rfl rfl <| w_cI (n1 := a + 6) (rs1 := [1]) rfl lk9_92 rfl rfl li9_92 (Nat.le_of_ble_eq_true rfl) (by omega) (by omega) (by omega) hr r_1 rs_nil ev (fun M1 q1 => ?_)
    obtain ⟨f, q2⟩ := q1
    refine x_aas3 s rfl ((wd_in (by omega) (by decide)).trans rfl) (by decide) rfl (by omega) (by rw [wd_in (by omega) har, hT.1]) <| x_iinc rfl (by decide) rfl (nI_add s 1) rfl <| x_goto rfl rfl <| ?_
    refine pm_trees K q (s + 1) (a + 6) _ (by omega) (by omega) ?_
    exact CT_tree (CT_make I (by omega) (by omega) f (fun a b => by omega) (fun a b => by omega) (fun a b => by omega) (fun a b => by omega) (fun s' hs' a' b' => by
      have e : s' = s := by omega
      subst e
      rw [← ha]; exact q2) (fun s hs a b => by omega)) (by omega) ha.symm
theorem pm_maps (K : ∀ M', CT 110 15 3 4 M' → Wx (Wd L xs 110 [1]) (Wd L xs 110 []) (d + 4) m9_init 198 [.ref 1, .int (nI 4)] [] M' R) : ∀ (q s a : Nat) (M : ME), s + q = 4 → a = 82 + 7 * s → CT a 15 3 s M → Wx (Wd L xs a [1]) (Wd L xs 110 []) (d + 4) m9_init 174 [.ref 1, .int (nI s)] [] M R
  | 0, s, a, M, hq, ha, I => by
    have e : s = 4 := by omega
    subst e
    have e2 : a = 110 := by omega
    subst e2
    exact x_iload_n rfl rfl <| x_iconst (4) rfl (by decide) <| x_icmp_ge rfl rfl (fun _ => K M I) (fun z => absurd (show (4 : Int32) ≤ nI 4 by decide) z)
  | q + 1, s, a, M, hq, ha, I => by
    have hT : mpS a := by
      rcases (show s = 0 ∨ s = 1 ∨ s = 2 ∨ s = 3 by omega) with rfl | rfl | rfl | rfl <;> subst ha <;> exact ⟨rfl, rfl, rfl, rfl, rfl, rfl, rfl⟩
    have har : a ∉ [1] := by
      intro h
      have := List.mem_singleton.mp h
      omega
    have hr : rsOK [a, 1] := rs_cons r_1 (by rw [hT.1]; decide)
    have hz : Zr (a + 1) M := Zr_mono I.1.1 (by omega)
    have ev := map_ev (L := L) (xs := xs) (a := a) (rs := [1]) (d := d + 2) (M := M) hT (by omega) r_1 har hz
    refine x_iload_n rfl rfl <| x_iconst (4) rfl (by decide) <| x_icmp_ge rfl rfl (fun z => absurd ((nI_leI (a := 4) (b := s) (by decide) (by omega)).mp z) (by omega)) (fun _ => ?_)
    refine x_aload_n rfl rfl <| x_getFe (y := 4) rfl f9_25 (hs1 (by omega)) (by decide) (I.2.1 3 (by decide) (by decide)) (by decide) <| x_iload_n rfl rfl <| w_new rfl nw9_23 hT.1 (by omega) (by omega) r_1 rs_nil I.1.1 <| x_dup rfl rfl <| w_cIN (n1 := a + 7) (rs1 := [1]) rfl lk9_29 rfl rfl li9_29 (Nat.le_of_ble_eq_true rfl) (by omega) (by omega) (by omega) hr r_1 rs_nil ev (fun M1 q1 => ?_)
    subst q1
    refine x_aas4 s rfl ((wd_in (by omega) (by decide)).trans rfl) (by decide) rfl (by omega) (by rw [wd_in (by omega) har, hT.1]) <| x_iinc rfl (by decide) rfl (nI_add s 1) rfl <| x_goto rfl rfl <| ?_
    refine pm_maps K q (s + 1) (a + 7) _ (by omega) (by omega) ?_
    exact CT_map (CT_make I (by omega) (by omega) (mpM_fr M a) (fun a b => by omega) (fun a b => by omega) (fun a b => by omega) (fun a b => by omega) (fun s hs a b => by omega) (fun s' hs' a' b' => by
      have e : s' = s := by omega
      subst e
      rw [← ha]; exact mpM_cM hz)) (by omega) ha.symm
theorem init9_ev (hz : Zr 1 M) : EvC (Wd L xs 2 [1]) (Wd L xs 110 []) (d + 4) m9_init [.ref 1] M (fun M' => CT 110 15 3 4 M') := by
  refine w_EvC k9_init rfl (Nat.le_of_ble_eq_true rfl) (by decide) r_1 rs_nil ?_
  have I0 : CT 2 0 0 0 M := ⟨⟨Zr_mono hz (by decide), fun q => by omega, fun q => by omega, fun q => by omega, fun q => by omega, fun s hs q => by omega, fun s hs q => by omega⟩, fun j hj => absurd hj (Nat.not_lt_zero _), (hz 1 (by decide) 1).1, fun s hs => absurd hs (Nat.not_lt_zero _), fun s hs => absurd hs (Nat.not_lt_zero _)⟩
  refine x_aload_n rfl rfl <| x_obj rfl wObj9 wObjI wObjC (Nat.le_of_ble_eq_true rfl) <| pm_4 I0 (fun M1 I1 =>  pm_13 I1 (fun M2 I2 =>  pm_18 I2 (fun M3 I3 =>  pm_26 I3 (fun M4 I4 =>  pm_34 I4 (fun M5 I5 =>  pm_45 I5 (fun M6 I6 =>  pm_56 I6 (fun M7 I7 =>  pm_67 I7 (fun M8 I8 =>  pm_78 I8 (fun M9 I9 =>  pm_89 I9 (fun M10 I10 =>  pm_100 I10 (fun M11 I11 =>  pm_111 I11 (fun M12 I12 =>  pm_122 I12 (fun M13 I13 =>  pm_130 I13 (fun M14 I14 =>  pm_138 I14 (fun M15 I15 => ?_)))))))))))))))
  refine x_iconst (0) rfl (by decide) <| x_istore_n rfl (by decide) rfl <| pm_trees (fun M16 I16 => x_iconst (0) rfl (by decide) <| x_istore_n rfl (by decide) rfl <| pm_maps (fun M17 I17 => w_made (a := 1) (ci := 9) (rs := []) (by decide) (by decide) (by decide) rfl (by decide) (fun j o hj h => ?_) <| x_ret rfl rfl ⟨rfl, I17⟩) 4 0 82 M16 rfl rfl I16) 3 0 64 M15 rfl rfl I15
  have P := I17.2.1
  match j, hj, h with
  | 0, _, h =>
    have e : o = 1 := by
      have h' : 3 = o + 2 := h
      omega
    subst e
    exact P 0 (by decide) (by decide)
  | 1, _, h => exact absurd h (by show ¬ 0 = o + 2; omega)
  | 2, _, h =>
    have e : o = 2 := by
      have h' : 4 = o + 2 := h
      omega
    subst e
    exact P 2 (by decide) (by decide)
  | 3, _, h =>
    have e : o = 3 := by
      have h' : 5 = o + 2 := h
      omega
    subst e
    exact P 3 (by decide) (by decide)
  | 4, _, h => exact absurd h (by show ¬ 1 = o + 2; omega)
  | 5, _, h =>
    have e : o = 11 := by
      have h' : 13 = o + 2 := h
      omega
    subst e
    exact P 5 (by decide) (by decide)
  | 6, _, h =>
    have e : o = 15 := by
      have h' : 17 = o + 2 := h
      omega
    subst e
    exact P 6 (by decide) (by decide)
  | 7, _, h =>
    have e : o = 17 := by
      have h' : 19 = o + 2 := h
      omega
    subst e
    exact P 7 (by decide) (by decide)
  | 8, _, h =>
    have e : o = 34 := by
      have h' : 36 = o + 2 := h
      omega
    subst e
    exact P 8 (by decide) (by decide)
  | 9, _, h =>
    have e : o = 53 := by
      have h' : 55 = o + 2 := h
      omega
    subst e
    exact P 9 (by decide) (by decide)
  | 10, _, h =>
    have e : o = 55 := by
      have h' : 57 = o + 2 := h
      omega
    subst e
    exact P 10 (by decide) (by decide)
  | 11, _, h =>
    have e : o = 56 := by
      have h' : 58 = o + 2 := h
      omega
    subst e
    exact P 11 (by decide) (by decide)
  | 12, _, h =>
    have e : o = 60 := by
      have h' : 62 = o + 2 := h
      omega
    subst e
    exact P 12 (by decide) (by decide)
  | 13, _, h =>
    have e : o = 61 := by
      have h' : 63 = o + 2 := h
      omega
    subst e
    exact P 13 (by decide) (by decide)
  | 14, _, h =>
    have e : o = 62 := by
      have h' : 64 = o + 2 := h
      omega
    subst e
    exact P 14 (by decide) (by decide)
  | j + 15, hj, _ => exact absurd hj (by show ¬ j + 15 < 15; omega)
end PMK
