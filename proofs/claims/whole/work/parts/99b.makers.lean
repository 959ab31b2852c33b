/-! makers, one by one -/
theorem wObjI : Cond.instanceMethod Lib.objectInit ∈ TB := tb_in 110 (by decide +kernel) (by decide +kernel)
theorem wObjC : Cond.code Lib.objectInit { data := #[177] } 1 none ∈ TB := tb_in 111 (by decide +kernel) (by decide +kernel)
theorem wArrI : Cond.arrayClass (newarray.typeOf .int) ∈ TB := tb_in 174 (by decide +kernel) (by decide +kernel)
theorem wObj5 : Cond.methodLink "PlaneMaps$RoundMaker" 3 Lib.objectInit ∈ TB := tb_in 186 (by decide +kernel) (by decide +kernel)
section MK1
variable {E : EN} {d a : Nat} {M : ME}
theorem init5_ev (hs : shp E a = (35, 0)) (ha : a ≠ 0) : EvC E (made E a 5) (d + 1) m5_init [.ref a] M (fun M' => M' = sI (sI M a 0 (-1)) a 1 (-1)) := by
  have h5 : (shp E a).1 = 5 + 30 := by rw [hs]
  refine EvC_of k5_init rfl (Nat.le_of_ble_eq_true rfl) (Nat.le_refl _) (Nat.le_of_eq (sz_made h5 (by decide)).symm) ?_
  refine x_aload_n rfl rfl <| x_obj rfl wObj5 wObjI wObjC (Nat.le_of_ble_eq_true rfl) <| x_aload_n rfl rfl <| x_iconst (-1) rfl (by decide) <| x_putIr rfl p5_9 h5 rfl (vp_nar_int _) rfl <| x_aload_n rfl rfl <| x_iconst (-1) rfl (by decide) <| x_putIr rfl p5_15 h5 rfl (vp_nar_int _) rfl <| x_made h5 (by decide) ha (fun j o h => ?_) <| x_ret rfl rfl ⟨rfl, rfl⟩
  exact absurd h (by unfold kdF; simp)
end MK1
theorem sR_1 {M : ME} {k j x : Nat} : (sR M k j x).1 = M.1 := rfl
theorem shp_g {E : EN} {q : Nat × Nat} {k : Nat} (h : k ≠ E.1) : shp (grow E q) k = shp E k := if_neg h
section MK2
variable {E : EN} {d a : Nat} {M : ME}
theorem wObj1 : Cond.methodLink "PlaneMaps$Distances" 3 Lib.objectInit ∈ TB := tb_in 293 (by decide +kernel) (by decide +kernel)
theorem g1_9 : LkG "PlaneMaps$Distances" 9 1 0 (.array .int) := ⟨_, rfl, by decide, tb_in 294 (by decide +kernel) (by decide +kernel), rfl, rfl, by decide +kernel⟩
theorem init1_ev (hE : E.1 = a + 1) (hs : shp E a = (31, 0)) (ha : a ≠ 0) (hz : ∀ k, k < 1 → ∀ j, M.1 (E.1 + k) j = 0) : EvC E (made (grow E (1, 32)) a 1) (d + 1) m1_init [.ref a] M (fun M' => M' = (sI (sR M a 0 (E.1)) a 1 (0))) := by
  have hs0 : (shp E a).1 = 1 + 30 := by rw [hs]
  have hs1 : (shp (grow E (1, 32)) a).1 = 1 + 30 := by rw [shp_g (show a ≠ E.1 by omega)]; exact hs0
  have z1 : szE (grow E (1, 32)) = szE E + 32 := by rw [sz_grow (show 1 ≤ E.1 by omega)]; rfl
  have zF : szE (made (grow E (1, 32)) a 1) = szE E + 32 := by rw [sz_made hs1 (by decide)]; exact z1
  refine EvC_of k1_init rfl (Nat.le_of_ble_eq_true rfl) (by show E.1 ≤ E.1 + 1; omega) (by rw [zF]; omega) ?_
  refine x_aload_n rfl rfl <| x_obj rfl wObj1 wObjI wObjC (Nat.le_of_ble_eq_true rfl) <| x_aload_n rfl rfl <| x_bipush (32) rfl (by decide) <| x_newI (N := 32) rfl wArrI (by decide) (by show 1 ≤ E.1; omega) (by show E.1 + 1 ≤ E.1 + 1; omega) (by rw [zF]; omega) (fun j => by show M.1 (E.1 + 0) j = 0; first | exact hz 0 (by omega) j | (simp only [sR_1, sI_row (show E.1 + 0 ≠ a by omega)]; exact hz 0 (by omega) j)) <| x_putF rfl rfl g1_9 (hs1) (by decide) (fun _ => rfl) (fun _ => rfl) (by show E.1 ≠ 0; omega) <| x_aload_n rfl rfl <| x_iconst (0) rfl (by decide) <| x_putIr rfl p1_15 (hs1) rfl (vp_nar_int _) rfl <| x_made hs1 (by decide) ha (fun j o h => ?_) <| x_ret rfl rfl ⟨rfl, rfl⟩
  match j, h with
  | 0, h =>
    have e : o = 1 := by
      have h' : 3 = o + 2 := h
      omega
    subst e
    simp [gR, sR, sI, up2, grow, hE]
  | 1, h => exact absurd h (by show ¬ 0 = o + 2; omega)
  | j + 2, h => exact absurd h (by show ¬ 0 = o + 2; omega)
theorem wObj2 : Cond.methodLink "PlaneMaps$Namer" 3 Lib.objectInit ∈ TB := tb_in 310 (by decide +kernel) (by decide +kernel)
theorem g2_9 : LkG "PlaneMaps$Namer" 9 2 0 (.array .int) := ⟨_, rfl, by decide, tb_in 311 (by decide +kernel) (by decide +kernel), rfl, rfl, by decide +kernel⟩
theorem g2_15 : LkG "PlaneMaps$Namer" 15 2 1 (.array .int) := ⟨_, rfl, by decide, tb_in 312 (by decide +kernel) (by decide +kernel), rfl, rfl, by decide +kernel⟩
theorem g2_18 : LkG "PlaneMaps$Namer" 18 2 2 (.array .int) := ⟨_, rfl, by decide, tb_in 313 (by decide +kernel) (by decide +kernel), rfl, rfl, by decide +kernel⟩
theorem init2_ev (hE : E.1 = a + 1) (hs : shp E a = (32, 0)) (ha : a ≠ 0) (hz : ∀ k, k < 3 → ∀ j, M.1 (E.1 + k) j = 0) : EvC E (made (grow (grow (grow E (1, 32)) (1, 32)) (1, 32)) a 2) (d + 1) m2_init [.ref a] M (fun M' => M' = (sI (sR (sR (sR M a 0 (E.1)) a 1 (E.1 + 1)) a 2 (E.1 + 1 + 1)) a 3 (0))) := by
  have hs0 : (shp E a).1 = 2 + 30 := by rw [hs]
  have hs1 : (shp (grow E (1, 32)) a).1 = 2 + 30 := by rw [shp_g (show a ≠ E.1 by omega)]; exact hs0
  have z1 : szE (grow E (1, 32)) = szE E + 32 := by rw [sz_grow (show 1 ≤ E.1 by omega)]; rfl
  have hs2 : (shp (grow (grow E (1, 32)) (1, 32)) a).1 = 2 + 30 := by rw [shp_g (show a ≠ E.1 + 1 by omega)]; exact hs1
  have z2 : szE (grow (grow E (1, 32)) (1, 32)) = szE E + 64 := by rw [sz_grow (show 1 ≤ E.1 + 1 by omega), z1]; rfl
  have hs3 : (shp (grow (grow (grow E (1, 32)) (1, 32)) (1, 32)) a).1 = 2 + 30 := by rw [shp_g (show a ≠ E.1 + 1 + 1 by omega)]; exact hs2
  have z3 : szE (grow (grow (grow E (1, 32)) (1, 32)) (1, 32)) = szE E + 96 := by rw [sz_grow (show 1 ≤ E.1 + 1 + 1 by omega), z2]; rfl
  have zF : szE (made (grow (grow (grow E (1, 32)) (1, 32)) (1, 32)) a 2) = szE E + 96 := by rw [sz_made hs3 (by decide)]; exact z3
  refine EvC_of k2_init rfl (Nat.le_of_ble_eq_true rfl) (by show E.1 ≤ E.1 + 1 + 1 + 1; omega) (by rw [zF]; omega) ?_
  refine x_aload_n rfl rfl <| x_obj rfl wObj2 wObjI wObjC (Nat.le_of_ble_eq_true rfl) <| x_aload_n rfl rfl <| x_bipush (32) rfl (by decide) <| x_newI (N := 32) rfl wArrI (by decide) (by show 1 ≤ E.1; omega) (by show E.1 + 1 ≤ E.1 + 1 + 1 + 1; omega) (by rw [zF]; omega) (fun j => by show M.1 (E.1 + 0) j = 0; first | exact hz 0 (by omega) j | (simp only [sR_1, sI_row (show E.1 + 0 ≠ a by omega)]; exact hz 0 (by omega) j)) <| x_putF rfl rfl g2_9 (hs1) (by decide) (fun _ => rfl) (fun _ => rfl) (by show E.1 ≠ 0; omega) <| x_aload_n rfl rfl <| x_bipush (32) rfl (by decide) <| x_newI (N := 32) rfl wArrI (by decide) (by show 1 ≤ E.1 + 1; omega) (by show E.1 + 1 + 1 ≤ E.1 + 1 + 1 + 1; omega) (by rw [zF, z1]; omega) (fun j => by show (sR M a 0 (E.1)).1 (E.1 + 1) j = 0; first | exact hz 1 (by omega) j | (simp only [sR_1, sI_row (show E.1 + 1 ≠ a by omega)]; exact hz 1 (by omega) j)) <| x_putF rfl rfl g2_15 (hs2) (by decide) (fun _ => rfl) (fun _ => rfl) (by show E.1 + 1 ≠ 0; omega) <| x_aload_n rfl rfl <| x_bipush (32) rfl (by decide) <| x_newI (N := 32) rfl wArrI (by decide) (by show 1 ≤ E.1 + 1 + 1; omega) (by show E.1 + 1 + 1 + 1 ≤ E.1 + 1 + 1 + 1; omega) (by rw [zF, z2]; omega) (fun j => by show (sR (sR M a 0 (E.1)) a 1 (E.1 + 1)).1 (E.1 + 2) j = 0; first | exact hz 2 (by omega) j | (simp only [sR_1, sI_row (show E.1 + 2 ≠ a by omega)]; exact hz 2 (by omega) j)) <| x_putF rfl rfl g2_18 (hs3) (by decide) (fun _ => rfl) (fun _ => rfl) (by show E.1 + 1 + 1 ≠ 0; omega) <| x_aload_n rfl rfl <| x_iconst (0) rfl (by decide) <| x_putIr rfl p2_21 (hs3) rfl (vp_nar_int _) rfl <| x_made hs3 (by decide) ha (fun j o h => ?_) <| x_ret rfl rfl ⟨rfl, rfl⟩
  match j, h with
  | 0, h =>
    have e : o = 1 := by
      have h' : 3 = o + 2 := h
      omega
    subst e
    simp [gR, sR, sI, up2, grow, hE]
  | 1, h =>
    have e : o = 2 := by
      have h' : 4 = o + 2 := h
      omega
    subst e
    simp [gR, sR, sI, up2, grow, hE]
  | 2, h =>
    have e : o = 3 := by
      have h' : 5 = o + 2 := h
      omega
    subst e
    simp [gR, sR, sI, up2, grow, hE]
  | 3, h => exact absurd h (by show ¬ 0 = o + 2; omega)
  | j + 4, h => exact absurd h (by show ¬ 0 = o + 2; omega)
theorem wObj4 : Cond.methodLink "PlaneMaps$RootedMap" 3 Lib.objectInit ∈ TB := tb_in 120 (by decide +kernel) (by decide +kernel)
theorem g4_24 : LkG "PlaneMaps$RootedMap" 24 4 4 (.array .int) := ⟨_, rfl, by decide, tb_in 133 (by decide +kernel) (by decide +kernel), rfl, rfl, by decide +kernel⟩
theorem g4_28 : LkG "PlaneMaps$RootedMap" 28 4 5 (.array .int) := ⟨_, rfl, by decide, tb_in 138 (by decide +kernel) (by decide +kernel), rfl, rfl, by decide +kernel⟩
theorem g4_31 : LkG "PlaneMaps$RootedMap" 31 4 6 (.array .int) := ⟨_, rfl, by decide, tb_in 140 (by decide +kernel) (by decide +kernel), rfl, rfl, by decide +kernel⟩
theorem g4_34 : LkG "PlaneMaps$RootedMap" 34 4 7 (.array .int) := ⟨_, rfl, by decide, tb_in 145 (by decide +kernel) (by decide +kernel), rfl, rfl, by decide +kernel⟩
theorem g4_37 : LkG "PlaneMaps$RootedMap" 37 4 8 (.array .int) := ⟨_, rfl, by decide, tb_in 147 (by decide +kernel) (by decide +kernel), rfl, rfl, by decide +kernel⟩
theorem g4_40 : LkG "PlaneMaps$RootedMap" 40 4 9 (.array .int) := ⟨_, rfl, by decide, tb_in 151 (by decide +kernel) (by decide +kernel), rfl, rfl, by decide +kernel⟩
theorem init4_ev (hE : E.1 = a + 1) (hs : shp E a = (34, 0)) (ha : a ≠ 0) (hz : ∀ k, k < 6 → ∀ j, M.1 (E.1 + k) j = 0) : EvC E (made (grow (grow (grow (grow (grow (grow E (1, 32)) (1, 32)) (1, 32)) (1, 32)) (1, 32)) (1, 32)) a 4) (d + 1) m4_init [.ref a] M (fun M' => M' = (sR (sR (sR (sR (sR (sR (sI (sI (sI (sI M a 0 (0)) a 1 (0)) a 2 (1)) a 3 (1)) a 4 (E.1)) a 5 (E.1 + 1)) a 6 (E.1 + 1 + 1)) a 7 (E.1 + 1 + 1 + 1)) a 8 (E.1 + 1 + 1 + 1 + 1)) a 9 (E.1 + 1 + 1 + 1 + 1 + 1))) := by
  have hs0 : (shp E a).1 = 4 + 30 := by rw [hs]
  have hs1 : (shp (grow E (1, 32)) a).1 = 4 + 30 := by rw [shp_g (show a ≠ E.1 by omega)]; exact hs0
  have z1 : szE (grow E (1, 32)) = szE E + 32 := by rw [sz_grow (show 1 ≤ E.1 by omega)]; rfl
  have hs2 : (shp (grow (grow E (1, 32)) (1, 32)) a).1 = 4 + 30 := by rw [shp_g (show a ≠ E.1 + 1 by omega)]; exact hs1
  have z2 : szE (grow (grow E (1, 32)) (1, 32)) = szE E + 64 := by rw [sz_grow (show 1 ≤ E.1 + 1 by omega), z1]; rfl
  have hs3 : (shp (grow (grow (grow E (1, 32)) (1, 32)) (1, 32)) a).1 = 4 + 30 := by rw [shp_g (show a ≠ E.1 + 1 + 1 by omega)]; exact hs2
  have z3 : szE (grow (grow (grow E (1, 32)) (1, 32)) (1, 32)) = szE E + 96 := by rw [sz_grow (show 1 ≤ E.1 + 1 + 1 by omega), z2]; rfl
  have hs4 : (shp (grow (grow (grow (grow E (1, 32)) (1, 32)) (1, 32)) (1, 32)) a).1 = 4 + 30 := by rw [shp_g (show a ≠ E.1 + 1 + 1 + 1 by omega)]; exact hs3
  have z4 : szE (grow (grow (grow (grow E (1, 32)) (1, 32)) (1, 32)) (1, 32)) = szE E + 128 := by rw [sz_grow (show 1 ≤ E.1 + 1 + 1 + 1 by omega), z3]; rfl
  have hs5 : (shp (grow (grow (grow (grow (grow E (1, 32)) (1, 32)) (1, 32)) (1, 32)) (1, 32)) a).1 = 4 + 30 := by rw [shp_g (show a ≠ E.1 + 1 + 1 + 1 + 1 by omega)]; exact hs4
  have z5 : szE (grow (grow (grow (grow (grow E (1, 32)) (1, 32)) (1, 32)) (1, 32)) (1, 32)) = szE E + 160 := by rw [sz_grow (show 1 ≤ E.1 + 1 + 1 + 1 + 1 by omega), z4]; rfl
  have hs6 : (shp (grow (grow (grow (grow (grow (grow E (1, 32)) (1, 32)) (1, 32)) (1, 32)) (1, 32)) (1, 32)) a).1 = 4 + 30 := by rw [shp_g (show a ≠ E.1 + 1 + 1 + 1 + 1 + 1 by omega)]; exact hs5
  have z6 : szE (grow (grow (grow (grow (grow (grow E (1, 32)) (1, 32)) (1, 32)) (1, 32)) (1, 32)) (1, 32)) = szE E + 192 := by rw [sz_grow (show 1 ≤ E.1 + 1 + 1 + 1 + 1 + 1 by omega), z5]; rfl
  have zF : szE (made (grow (grow (grow (grow (grow (grow E (1, 32)) (1, 32)) (1, 32)) (1, 32)) (1, 32)) (1, 32)) a 4) = szE E + 192 := by rw [sz_made hs6 (by decide)]; exact z6
  refine EvC_of k4_init rfl (Nat.le_of_ble_eq_true rfl) (by show E.1 ≤ E.1 + 1 + 1 + 1 + 1 + 1 + 1; omega) (by rw [zF]; omega) ?_
  refine x_aload_n rfl rfl <| x_obj rfl wObj4 wObjI wObjC (Nat.le_of_ble_eq_true rfl) <| x_aload_n rfl rfl <| x_iconst (0) rfl (by decide) <| x_putIr rfl p4_9 (hs0) rfl (vp_nar_int _) rfl <| x_aload_n rfl rfl <| x_iconst (0) rfl (by decide) <| x_putIr rfl p4_15 (hs0) rfl (vp_nar_int _) rfl <| x_aload_n rfl rfl <| x_iconst (1) rfl (by decide) <| x_putIr rfl p4_18 (hs0) rfl (vp_nar_int _) rfl <| x_aload_n rfl rfl <| x_iconst (1) rfl (by decide) <| x_putIr rfl p4_21 (hs0) rfl (vp_nar_int _) rfl <| x_aload_n rfl rfl <| x_bipush (32) rfl (by decide) <| x_newI (N := 32) rfl wArrI (by decide) (by show 1 ≤ E.1; omega) (by show E.1 + 1 ≤ E.1 + 1 + 1 + 1 + 1 + 1 + 1; omega) (by rw [zF]; omega) (fun j => by show (sI (sI (sI (sI M a 0 (0)) a 1 (0)) a 2 (1)) a 3 (1)).1 (E.1 + 0) j = 0; first | exact hz 0 (by omega) j | (simp only [sR_1, sI_row (show E.1 + 0 ≠ a by omega)]; exact hz 0 (by omega) j)) <| x_putF rfl rfl g4_24 (hs1) (by decide) (fun _ => rfl) (fun _ => rfl) (by show E.1 ≠ 0; omega) <| x_aload_n rfl rfl <| x_bipush (32) rfl (by decide) <| x_newI (N := 32) rfl wArrI (by decide) (by show 1 ≤ E.1 + 1; omega) (by show E.1 + 1 + 1 ≤ E.1 + 1 + 1 + 1 + 1 + 1 + 1; omega) (by rw [zF, z1]; omega) (fun j => by show (sR (sI (sI (sI (sI M a 0 (0)) a 1 (0)) a 2 (1)) a 3 (1)) a 4 (E.1)).1 (E.1 + 1) j = 0; first | exact hz 1 (by omega) j | (simp only [sR_1, sI_row (show E.1 + 1 ≠ a by omega)]; exact hz 1 (by omega) j)) <| x_putF rfl rfl g4_28 (hs2) (by decide) (fun _ => rfl) (fun _ => rfl) (by show E.1 + 1 ≠ 0; omega) <| x_aload_n rfl rfl <| x_bipush (32) rfl (by decide) <| x_newI (N := 32) rfl wArrI (by decide) (by show 1 ≤ E.1 + 1 + 1; omega) (by show E.1 + 1 + 1 + 1 ≤ E.1 + 1 + 1 + 1 + 1 + 1 + 1; omega) (by rw [zF, z2]; omega) (fun j => by show (sR (sR (sI (sI (sI (sI M a 0 (0)) a 1 (0)) a 2 (1)) a 3 (1)) a 4 (E.1)) a 5 (E.1 + 1)).1 (E.1 + 2) j = 0; first | exact hz 2 (by omega) j | (simp only [sR_1, sI_row (show E.1 + 2 ≠ a by omega)]; exact hz 2 (by omega) j)) <| x_putF rfl rfl g4_31 (hs3) (by decide) (fun _ => rfl) (fun _ => rfl) (by show E.1 + 1 + 1 ≠ 0; omega) <| x_aload_n rfl rfl <| x_bipush (32) rfl (by decide) <| x_newI (N := 32) rfl wArrI (by decide) (by show 1 ≤ E.1 + 1 + 1 + 1; omega) (by show E.1 + 1 + 1 + 1 + 1 ≤ E.1 + 1 + 1 + 1 + 1 + 1 + 1; omega) (by rw [zF, z3]; omega) (fun j => by show (sR (sR (sR (sI (sI (sI (sI M a 0 (0)) a 1 (0)) a 2 (1)) a 3 (1)) a 4 (E.1)) a 5 (E.1 + 1)) a 6 (E.1 + 1 + 1)).1 (E.1 + 3) j = 0; first | exact hz 3 (by omega) j | (simp only [sR_1, sI_row (show E.1 + 3 ≠ a by omega)]; exact hz 3 (by omega) j)) <| x_putF rfl rfl g4_34 (hs4) (by decide) (fun _ => rfl) (fun _ => rfl) (by show E.1 + 1 + 1 + 1 ≠ 0; omega) <| x_aload_n rfl rfl <| x_bipush (32) rfl (by decide) <| x_newI (N := 32) rfl wArrI (by decide) (by show 1 ≤ E.1 + 1 + 1 + 1 + 1; omega) (by show E.1 + 1 + 1 + 1 + 1 + 1 ≤ E.1 + 1 + 1 + 1 + 1 + 1 + 1; omega) (by rw [zF, z4]; omega) (fun j => by show (sR (sR (sR (sR (sI (sI (sI (sI M a 0 (0)) a 1 (0)) a 2 (1)) a 3 (1)) a 4 (E.1)) a 5 (E.1 + 1)) a 6 (E.1 + 1 + 1)) a 7 (E.1 + 1 + 1 + 1)).1 (E.1 + 4) j = 0; first | exact hz 4 (by omega) j | (simp only [sR_1, sI_row (show E.1 + 4 ≠ a by omega)]; exact hz 4 (by omega) j)) <| x_putF rfl rfl g4_37 (hs5) (by decide) (fun _ => rfl) (fun _ => rfl) (by show E.1 + 1 + 1 + 1 + 1 ≠ 0; omega) <| x_aload_n rfl rfl <| x_bipush (32) rfl (by decide) <| x_newI (N := 32) rfl wArrI (by decide) (by show 1 ≤ E.1 + 1 + 1 + 1 + 1 + 1; omega) (by show E.1 + 1 + 1 + 1 + 1 + 1 + 1 ≤ E.1 + 1 + 1 + 1 + 1 + 1 + 1; omega) (by rw [zF, z5]; omega) (fun j => by show (sR (sR (sR (sR (sR (sI (sI (sI (sI M a 0 (0)) a 1 (0)) a 2 (1)) a 3 (1)) a 4 (E.1)) a 5 (E.1 + 1)) a 6 (E.1 + 1 + 1)) a 7 (E.1 + 1 + 1 + 1)) a 8 (E.1 + 1 + 1 + 1 + 1)).1 (E.1 + 5) j = 0; first | exact hz 5 (by omega) j | (simp only [sR_1, sI_row (show E.1 + 5 ≠ a by omega)]; exact hz 5 (by omega) j)) <| x_putF rfl rfl g4_40 (hs6) (by decide) (fun _ => rfl) (fun _ => rfl) (by show E.1 + 1 + 1 + 1 + 1 + 1 ≠ 0; omega) <| x_made hs6 (by decide) ha (fun j o h => ?_) <| x_ret rfl rfl ⟨rfl, rfl⟩
  match j, h with
  | 0, h => exact absurd h (by show ¬ 0 = o + 2; omega)
  | 1, h => exact absurd h (by show ¬ 0 = o + 2; omega)
  | 2, h => exact absurd h (by show ¬ 0 = o + 2; omega)
  | 3, h => exact absurd h (by show ¬ 0 = o + 2; omega)
  | 4, h =>
    have e : o = 1 := by
      have h' : 3 = o + 2 := h
      omega
    subst e
    simp [gR, sR, sI, up2, grow, hE]
  | 5, h =>
    have e : o = 2 := by
      have h' : 4 = o + 2 := h
      omega
    subst e
    simp [gR, sR, sI, up2, grow, hE]
  | 6, h =>
    have e : o = 3 := by
      have h' : 5 = o + 2 := h
      omega
    subst e
    simp [gR, sR, sI, up2, grow, hE]
  | 7, h =>
    have e : o = 4 := by
      have h' : 6 = o + 2 := h
      omega
    subst e
    simp [gR, sR, sI, up2, grow, hE]
  | 8, h =>
    have e : o = 5 := by
      have h' : 7 = o + 2 := h
      omega
    subst e
    simp [gR, sR, sI, up2, grow, hE]
  | 9, h =>
    have e : o = 6 := by
      have h' : 8 = o + 2 := h
      omega
    subst e
    simp [gR, sR, sI, up2, grow, hE]
  | j + 10, h => exact absurd h (by show ¬ 0 = o + 2; omega)
theorem wObj7 : Cond.methodLink "PlaneMaps$TextWriter" 3 Lib.objectInit ∈ TB := tb_in 250 (by decide +kernel) (by decide +kernel)
theorem g7_9 : LkG "PlaneMaps$TextWriter" 9 7 0 (.array .int) := ⟨_, rfl, by decide, tb_in 251 (by decide +kernel) (by decide +kernel), rfl, rfl, by decide +kernel⟩
theorem init7_ev (hE : E.1 = a + 1) (hs : shp E a = (37, 0)) (ha : a ≠ 0) (hz : ∀ k, k < 1 → ∀ j, M.1 (E.1 + k) j = 0) : EvC E (made (grow E (1, 128)) a 7) (d + 1) m7_init [.ref a] M (fun M' => M' = (sI (sR M a 0 (E.1)) a 1 (0))) := by
  have hs0 : (shp E a).1 = 7 + 30 := by rw [hs]
  have hs1 : (shp (grow E (1, 128)) a).1 = 7 + 30 := by rw [shp_g (show a ≠ E.1 by omega)]; exact hs0
  have z1 : szE (grow E (1, 128)) = szE E + 128 := by rw [sz_grow (show 1 ≤ E.1 by omega)]; rfl
  have zF : szE (made (grow E (1, 128)) a 7) = szE E + 128 := by rw [sz_made hs1 (by decide)]; exact z1
  refine EvC_of k7_init rfl (Nat.le_of_ble_eq_true rfl) (by show E.1 ≤ E.1 + 1; omega) (by rw [zF]; omega) ?_
  refine x_aload_n rfl rfl <| x_obj rfl wObj7 wObjI wObjC (Nat.le_of_ble_eq_true rfl) <| x_aload_n rfl rfl <| x_sipush (128) rfl (by decide) <| x_newI (N := 128) rfl wArrI (by decide) (by show 1 ≤ E.1; omega) (by show E.1 + 1 ≤ E.1 + 1; omega) (by rw [zF]; omega) (fun j => by show M.1 (E.1 + 0) j = 0; first | exact hz 0 (by omega) j | (simp only [sR_1, sI_row (show E.1 + 0 ≠ a by omega)]; exact hz 0 (by omega) j)) <| x_putF rfl rfl g7_9 (hs1) (by decide) (fun _ => rfl) (fun _ => rfl) (by show E.1 ≠ 0; omega) <| x_aload_n rfl rfl <| x_iconst (0) rfl (by decide) <| x_putIr rfl p7_15 (hs1) rfl (vp_nar_int _) rfl <| x_made hs1 (by decide) ha (fun j o h => ?_) <| x_ret rfl rfl ⟨rfl, rfl⟩
  match j, h with
  | 0, h =>
    have e : o = 1 := by
      have h' : 3 = o + 2 := h
      omega
    subst e
    simp [gR, sR, sI, up2, grow, hE]
  | 1, h => exact absurd h (by show ¬ 0 = o + 2; omega)
  | j + 2, h => exact absurd h (by show ¬ 0 = o + 2; omega)
end MK2
