/-! BLOCKS (printed by a program) -/
theorem b9_withoutEdge_0 {E : EN} {d : Nat} {R : Option Value → ME → Prop} {M : ME} {x0 : Int32} {x1 : Int32} (kt : x0 ≤ x1 → Wp E d m9_withoutEdge 11 [.int x0, .int x1] [] M R) (kf : ¬ x0 ≤ x1 → Wp E d m9_withoutEdge 5 [.int x0, .int x1] [] M R) : Wp E d m9_withoutEdge 0 [.int x0, .int x1] [] M R :=
  r_iload_n rfl rfl <| r_iload_n rfl rfl <| r_icmp_le rfl (by decide) kt kf
theorem b9_withoutEdge_5 {E : EN} {d : Nat} {R : Option Value → ME → Prop} {M : ME} {x0 : Int32} {x1 : Int32} (k : Wp E d m9_withoutEdge 12 [.int x0, .int x1] [.int (x0 - 2)] M R) : Wp E d m9_withoutEdge 5 [.int x0, .int x1] [] M R :=
  r_iload_n rfl rfl <| r_iconst 2 rfl (by decide) <| r_isub rfl <| r_goto rfl (by decide) <| k
theorem b9_withoutEdge_11 {E : EN} {d : Nat} {R : Option Value → ME → Prop} {M : ME} {x0 : Int32} {x1 : Int32} (k : Wp E d m9_withoutEdge 12 [.int x0, .int x1] [.int x0] M R) : Wp E d m9_withoutEdge 11 [.int x0, .int x1] [] M R :=
  r_iload_n rfl rfl <| k
theorem b9_withoutEdge_12 {E : EN} {d : Nat} {R : Option Value → ME → Prop} {M : ME} {x0 : Int32} {x1 : Int32} {s0 : Int32} (hR : R (some (.int s0)) M) : Wp E d m9_withoutEdge 12 [.int x0, .int x1] [.int s0] M R :=
  r_iret rfl rfl (vp_nar_int _) hR
theorem b9_finishDraft_0 {L : Nat} {xs : Nat → Int32} {d : Nat} {R : Option Value → ME → Prop} {M : ME} {x1 : Int32} (z1 : (gR M 1 4) ≠ 0) (T1 : isRM (E0 L xs) (gR M 1 4)) {R' : ME → Prop} (ev : EvV (E0 L xs) d m4_numberRounds [.ref (gR M 1 4)] M R') (k : ∀ M' : ME, R' M' → Wp (E0 L xs) (d + 1) m9_finishDraft 7 [.ref 1, .int x1] [] M' R) : Wp (E0 L xs) (d + 1) m9_finishDraft 0 [.ref 1, .int x1] [] M R :=
  r_aload_n rfl rfl <| r_getR rfl f9_30 rfl rfl z1 <| r_cVv (st := []) (as := []) rfl v9_112 rfl rfl T1.1 (Nat.le_of_ble_eq_true rfl) ev k
theorem b9_finishDraft_7 {L : Nat} {xs : Nat → Int32} {d : Nat} {R : Option Value → ME → Prop} {M : ME} {x1 : Int32} {R' : Int32 → ME → Prop} (ev : EvI (E0 L xs) d m9_keepDraft [.ref 1, .int x1] M R') (k : ∀ (r : Int32) (M' : ME), R' r M' → Wp (E0 L xs) (d + 1) m9_finishDraft 12 [.ref 1, .int x1] [.int r] M' R) : Wp (E0 L xs) (d + 1) m9_finishDraft 7 [.ref 1, .int x1] [] M R :=
  r_aload_n rfl rfl <| r_iload_n rfl rfl <| r_cVi (st := []) (as := [.int x1]) rfl v9_123 rfl rfl rfl (Nat.le_of_ble_eq_true rfl) ev k
theorem b9_finishDraft_12 {L : Nat} {xs : Nat → Int32} {d : Nat} {R : Option Value → ME → Prop} {M : ME} {x1 : Int32} {s0 : Int32} (hR : R (some (.int s0)) M) : Wp (E0 L xs) d m9_finishDraft 12 [.ref 1, .int x1] [.int s0] M R :=
  r_iret rfl rfl (vp_nar_int _) hR
theorem b9_keepDraft_0 {L : Nat} {xs : Nat → Int32} {d : Nat} {R : Option Value → ME → Prop} {M : ME} {x1 : Int32} (z1 : (gR M 1 4) ≠ 0) (j1 : Nat) (e1 : x1 = nI j1) (l1 : j1 < 4) (z2 : (gR M 4 j1) ≠ 0) (z3 : (gR M 4 j1) ≠ 0) (j2 : Nat) (e2 : x1 = nI j2) (l2 : j2 < 4) (T1 : isRM (E0 L xs) (gR M 1 4)) (hR : R (some (.int (gI M (gR M 1 4) 0))) (sR (sR M 1 4 (gR M 4 j1)) 4 j2 (gR M 1 4))) : Wp (E0 L xs) d m9_keepDraft 0 [.ref 1, .int x1, .null] [] M R :=
  r_aload_n rfl rfl <| r_getR rfl f9_30 rfl rfl z1 <| r_astore_n rfl (by decide) rfl <| r_aload_n rfl rfl <| r_aload_n rfl rfl <| r_getF rfl f9_25 rfl rfl <| r_iload_n rfl rfl <| r_aal4 j1 rfl rfl (by decide) e1 l1 z2 <| r_putR rfl p9_30 rfl rfl (fun _ => rfl) (fun _ => rfl) z3 <| r_aload_n rfl rfl <| r_getF rfl f9_25 rfl rfl <| r_iload_n rfl rfl <| r_aload_n rfl rfl <| r_aas4 j2 rfl rfl (by decide) e2 l2 T1 <| r_aload_n rfl rfl <| r_getI rfl f9_140 T1.1 rfl <| r_iret rfl rfl (vp_nar_int _) hR
theorem b9_shown_0 {L : Nat} {xs : Nat → Int32} {d : Nat} {R : Option Value → ME → Prop} {M : ME} {x1 : Int32} {x2 : Int32} {R' : Int32 → ME → Prop} (ev : EvI (E0 L xs) d m9_noMap [.int x1] M R') (k : ∀ (r : Int32) (M' : ME), R' r M' → Wp (E0 L xs) (d + 1) m9_shown 4 [.ref 1, .int x1, .int x2] [.int r] M' R) : Wp (E0 L xs) (d + 1) m9_shown 0 [.ref 1, .int x1, .int x2] [] M R :=
  r_iload_n rfl rfl <| r_cSi (st := []) (as := [.int x1]) rfl s9_100 rfl rfl (Nat.le_of_ble_eq_true rfl) ev k
theorem b9_shown_4 {L : Nat} {xs : Nat → Int32} {d : Nat} {R : Option Value → ME → Prop} {M : ME} {x1 : Int32} {x2 : Int32} {s0 : Int32} (kt : ¬ s0 = 0 → Wp (E0 L xs) d m9_shown 12 [.ref 1, .int x1, .int x2] [] M R) (kf : s0 = 0 → Wp (E0 L xs) d m9_shown 7 [.ref 1, .int x1, .int x2] [] M R) : Wp (E0 L xs) d m9_shown 4 [.ref 1, .int x1, .int x2] [.int s0] M R :=
  r_if_ne rfl (by decide) kt kf
theorem b9_shown_7 {L : Nat} {xs : Nat → Int32} {d : Nat} {R : Option Value → ME → Prop} {M : ME} {x1 : Int32} {x2 : Int32} (kt : (-1) ≤ x2 → Wp (E0 L xs) d m9_shown 14 [.ref 1, .int x1, .int x2] [] M R) (kf : ¬ (-1) ≤ x2 → Wp (E0 L xs) d m9_shown 12 [.ref 1, .int x1, .int x2] [] M R) : Wp (E0 L xs) d m9_shown 7 [.ref 1, .int x1, .int x2] [] M R :=
  r_iload_n rfl rfl <| r_iconst (-1) rfl (by decide) <| r_icmp_ge rfl (by decide) kt kf
theorem b9_shown_12 {L : Nat} {xs : Nat → Int32} {d : Nat} {R : Option Value → ME → Prop} {M : ME} {x1 : Int32} {x2 : Int32} (hR : R (some (.int (-1))) M) : Wp (E0 L xs) d m9_shown 12 [.ref 1, .int x1, .int x2] [] M R :=
  r_iconst (-1) rfl (by decide) <| r_iret rfl rfl (vp_nar_int _) hR
theorem b9_shown_14 {L : Nat} {xs : Nat → Int32} {d : Nat} {R : Option Value → ME → Prop} {M : ME} {x1 : Int32} {x2 : Int32} (j1 : Nat) (e1 : x1 = nI j1) (l1 : j1 < 4) (z1 : (gR M 4 j1) ≠ 0) {R' : ME → Prop} (ev : EvV (E0 L xs) d m7_write [.ref 16, .ref (gR M 4 j1)] M R') (k : ∀ M' : ME, R' M' → Wp (E0 L xs) (d + 1) m9_shown 27 [.ref 1, .int x1, .int x2] [] M' R) : Wp (E0 L xs) (d + 1) m9_shown 14 [.ref 1, .int x1, .int x2] [] M R :=
  r_aload_n rfl rfl <| r_getF rfl f9_44 rfl rfl <| r_aload_n rfl rfl <| r_getF rfl f9_25 rfl rfl <| r_iload_n rfl rfl <| r_aal4 j1 rfl rfl (by decide) e1 l1 z1 <| r_cVv (st := []) (as := [.ref (gR M 4 j1)]) rfl v9_357 rfl rfl rfl (Nat.le_of_ble_eq_true rfl) ev k
theorem b9_shown_27 {L : Nat} {xs : Nat → Int32} {d : Nat} {R : Option Value → ME → Prop} {M : ME} {x1 : Int32} {x2 : Int32} (kt : ¬ x2 = (-1) → Wp (E0 L xs) d m9_shown 40 [.ref 1, .int x1, .int x2] [] M R) (kf : x2 = (-1) → Wp (E0 L xs) d m9_shown 32 [.ref 1, .int x1, .int x2] [] M R) : Wp (E0 L xs) d m9_shown 27 [.ref 1, .int x1, .int x2] [] M R :=
  r_iload_n rfl rfl <| r_iconst (-1) rfl (by decide) <| r_icmp_ne rfl (by decide) kt kf
theorem b9_shown_32 {L : Nat} {xs : Nat → Int32} {d : Nat} {R : Option Value → ME → Prop} {M : ME} {x1 : Int32} {x2 : Int32} (hR : R (some (.int (gI M 16 1))) M) : Wp (E0 L xs) d m9_shown 32 [.ref 1, .int x1, .int x2] [] M R :=
  r_aload_n rfl rfl <| r_getF rfl f9_44 rfl rfl <| r_getI rfl f9_360 rfl rfl <| r_iret rfl rfl (vp_nar_int _) hR
theorem b9_shown_40 {L : Nat} {xs : Nat → Int32} {d : Nat} {R : Option Value → ME → Prop} {M : ME} {x1 : Int32} {x2 : Int32} (kt : (gI M 16 1) ≤ x2 → Wp (E0 L xs) d m9_shown 63 [.ref 1, .int x1, .int x2] [] M R) (kf : ¬ (gI M 16 1) ≤ x2 → Wp (E0 L xs) d m9_shown 51 [.ref 1, .int x1, .int x2] [] M R) : Wp (E0 L xs) d m9_shown 40 [.ref 1, .int x1, .int x2] [] M R :=
  r_iload_n rfl rfl <| r_aload_n rfl rfl <| r_getF rfl f9_44 rfl rfl <| r_getI rfl f9_360 rfl rfl <| r_icmp_ge rfl (by decide) kt kf
theorem b9_shown_51 {L : Nat} {xs : Nat → Int32} {d : Nat} {R : Option Value → ME → Prop} {M : ME} {x1 : Int32} {x2 : Int32} (j1 : Nat) (e1 : x2 = nI j1) (l1 : j1 < 128) (k : Wp (E0 L xs) d m9_shown 64 [.ref 1, .int x1, .int x2] [.int (gI M 17 j1)] M R) : Wp (E0 L xs) d m9_shown 51 [.ref 1, .int x1, .int x2] [] M R :=
  r_aload_n rfl rfl <| r_getF rfl f9_44 rfl rfl <| r_getF rfl f9_363 rfl rfl <| r_iload_n rfl rfl <| r_ial j1 rfl rfl (by decide) e1 l1 <| r_goto rfl (by decide) <| k
theorem b9_shown_63 {L : Nat} {xs : Nat → Int32} {d : Nat} {R : Option Value → ME → Prop} {M : ME} {x1 : Int32} {x2 : Int32} (k : Wp (E0 L xs) d m9_shown 64 [.ref 1, .int x1, .int x2] [.int (-1)] M R) : Wp (E0 L xs) d m9_shown 63 [.ref 1, .int x1, .int x2] [] M R :=
  r_iconst (-1) rfl (by decide) <| k
theorem b9_shown_64 {L : Nat} {xs : Nat → Int32} {d : Nat} {R : Option Value → ME → Prop} {M : ME} {x1 : Int32} {x2 : Int32} {s0 : Int32} (hR : R (some (.int s0)) M) : Wp (E0 L xs) d m9_shown 64 [.ref 1, .int x1, .int x2] [.int s0] M R :=
  r_iret rfl rfl (vp_nar_int _) hR
theorem b9_look_0 {L : Nat} {xs : Nat → Int32} {d : Nat} {R : Option Value → ME → Prop} {M : ME} {x1 : Int32} (k0 : x1 = 0 → Wp (E0 L xs) d m9_look 28 [.ref 1, .int x1, .int 0, .null] [] M R) (k1 : x1 = 1 → Wp (E0 L xs) d m9_look 33 [.ref 1, .int x1, .int 0, .null] [] M R) (k2 : x1 = 2 → Wp (E0 L xs) d m9_look 60 [.ref 1, .int x1, .int 0, .null] [] M R) (kd : (x1.toInt < 0 ∨ 2 < x1.toInt) → Wp (E0 L xs) d m9_look 87 [.ref 1, .int x1, .int 0, .null] [] M R) : Wp (E0 L xs) d m9_look 0 [.ref 1, .int x1, .null, .null] [] M R := by
  refine r_iconst 0 rfl (by decide) <| r_istore_n rfl (by decide) rfl <| r_iload_n rfl rfl <| ?_
  by_cases hq : x1.toInt < 0 ∨ 2 < x1.toInt
  · exact r_tsOut rfl hq (by decide) (kd hq)
  · have hc : x1 = 0 ∨ x1 = 1 ∨ x1 = 2 := sw_cases3 (fun h => hq (Or.inl h)) (fun h => hq (Or.inr h))
    rcases hc with h | h | h
    · refine r_tsIn rfl (by rw [h]; decide) (by rw [h]; decide) (by rw [h]; rfl) (by decide) (k0 h)
    · refine r_tsIn rfl (by rw [h]; decide) (by rw [h]; decide) (by rw [h]; rfl) (by decide) (k1 h)
    · refine r_tsIn rfl (by rw [h]; decide) (by rw [h]; decide) (by rw [h]; rfl) (by decide) (k2 h)
theorem b9_look_28 {L : Nat} {xs : Nat → Int32} {d : Nat} {R : Option Value → ME → Prop} {M : ME} {x1 : Int32} {x2 : Int32} (hR : R (some (.int (gI M 1 1))) M) : Wp (E0 L xs) d m9_look 28 [.ref 1, .int x1, .int x2, .null] [] M R :=
  r_aload_n rfl rfl <| r_getI rfl f9_13 rfl rfl <| r_iret rfl rfl (vp_nar_int _) hR
theorem b9_look_33 {L : Nat} {xs : Nat → Int32} {d : Nat} {R : Option Value → ME → Prop} {M : ME} {x1 : Int32} {x2 : Int32} (k : Wp (E0 L xs) d m9_look 35 [.ref 1, .int x1, .int x2, .int 0] [] M R) : Wp (E0 L xs) d m9_look 33 [.ref 1, .int x1, .int x2, .null] [] M R :=
  r_iconst 0 rfl (by decide) <| r_istore_n rfl (by decide) rfl <| k
theorem b9_look_35 {L : Nat} {xs : Nat → Int32} {d : Nat} {R : Option Value → ME → Prop} {M : ME} {x1 : Int32} {x2 : Int32} {x3 : Int32} (kt : 3 ≤ x3 → Wp (E0 L xs) d m9_look 58 [.ref 1, .int x1, .int x2, .int x3] [] M R) (kf : ¬ 3 ≤ x3 → Wp (E0 L xs) d m9_look 40 [.ref 1, .int x1, .int x2, .int x3] [] M R) : Wp (E0 L xs) d m9_look 35 [.ref 1, .int x1, .int x2, .int x3] [] M R :=
  r_iload_n rfl rfl <| r_iconst 3 rfl (by decide) <| r_icmp_ge rfl (by decide) kt kf
theorem b9_look_40 {L : Nat} {xs : Nat → Int32} {d : Nat} {R : Option Value → ME → Prop} {M : ME} {x1 : Int32} {x2 : Int32} {x3 : Int32} (j1 : Nat) (e1 : x3 = nI j1) (l1 : j1 < 3) (z1 : (gR M 3 j1) ≠ 0) (T1 : isTR (E0 L xs) (gR M 3 j1)) (k : Wp (E0 L xs) d m9_look 35 [.ref 1, .int x1, .int (x2 + (gI M (gR M 3 j1) 0)), .int (x3 + 1)] [] M R) : Wp (E0 L xs) d m9_look 40 [.ref 1, .int x1, .int x2, .int x3] [] M R :=
  r_iload_n rfl rfl <| r_aload_n rfl rfl <| r_getF rfl f9_19 rfl rfl <| r_iload_n rfl rfl <| r_aal3 j1 rfl rfl (by decide) e1 l1 z1 <| r_getI rfl f9_187 T1.1 rfl <| r_iadd rfl <| r_istore_n rfl (by decide) rfl <| r_iinc rfl (by decide) rfl rfl rfl <| r_goto rfl (by decide) <| k
theorem b9_look_58 {L : Nat} {xs : Nat → Int32} {d : Nat} {R : Option Value → ME → Prop} {M : ME} {x1 : Int32} {x2 : Int32} {x3 : Int32} (hR : R (some (.int x2)) M) : Wp (E0 L xs) d m9_look 58 [.ref 1, .int x1, .int x2, .int x3] [] M R :=
  r_iload_n rfl rfl <| r_iret rfl rfl (vp_nar_int _) hR
theorem b9_look_60 {L : Nat} {xs : Nat → Int32} {d : Nat} {R : Option Value → ME → Prop} {M : ME} {x1 : Int32} {x2 : Int32} (k : Wp (E0 L xs) d m9_look 62 [.ref 1, .int x1, .int x2, .int 0] [] M R) : Wp (E0 L xs) d m9_look 60 [.ref 1, .int x1, .int x2, .null] [] M R :=
  r_iconst 0 rfl (by decide) <| r_istore_n rfl (by decide) rfl <| k
theorem b9_look_62 {L : Nat} {xs : Nat → Int32} {d : Nat} {R : Option Value → ME → Prop} {M : ME} {x1 : Int32} {x2 : Int32} {x3 : Int32} (kt : 4 ≤ x3 → Wp (E0 L xs) d m9_look 85 [.ref 1, .int x1, .int x2, .int x3] [] M R) (kf : ¬ 4 ≤ x3 → Wp (E0 L xs) d m9_look 67 [.ref 1, .int x1, .int x2, .int x3] [] M R) : Wp (E0 L xs) d m9_look 62 [.ref 1, .int x1, .int x2, .int x3] [] M R :=
  r_iload_n rfl rfl <| r_iconst 4 rfl (by decide) <| r_icmp_ge rfl (by decide) kt kf
theorem b9_look_67 {L : Nat} {xs : Nat → Int32} {d : Nat} {R : Option Value → ME → Prop} {M : ME} {x1 : Int32} {x2 : Int32} {x3 : Int32} (j1 : Nat) (e1 : x3 = nI j1) (l1 : j1 < 4) (z1 : (gR M 4 j1) ≠ 0) (T1 : isRM (E0 L xs) (gR M 4 j1)) (k : Wp (E0 L xs) d m9_look 62 [.ref 1, .int x1, .int (x2 + (gI M (gR M 4 j1) 0)), .int (x3 + 1)] [] M R) : Wp (E0 L xs) d m9_look 67 [.ref 1, .int x1, .int x2, .int x3] [] M R :=
  r_iload_n rfl rfl <| r_aload_n rfl rfl <| r_getF rfl f9_25 rfl rfl <| r_iload_n rfl rfl <| r_aal4 j1 rfl rfl (by decide) e1 l1 z1 <| r_getI rfl f9_140 T1.1 rfl <| r_iadd rfl <| r_istore_n rfl (by decide) rfl <| r_iinc rfl (by decide) rfl rfl rfl <| r_goto rfl (by decide) <| k
theorem b9_look_85 {L : Nat} {xs : Nat → Int32} {d : Nat} {R : Option Value → ME → Prop} {M : ME} {x1 : Int32} {x2 : Int32} {x3 : Int32} (hR : R (some (.int x2)) M) : Wp (E0 L xs) d m9_look 85 [.ref 1, .int x1, .int x2, .int x3] [] M R :=
  r_iload_n rfl rfl <| r_iret rfl rfl (vp_nar_int _) hR
theorem b9_look_87 {L : Nat} {xs : Nat → Int32} {d : Nat} {R : Option Value → ME → Prop} {M : ME} {x1 : Int32} {x2 : Int32} (hR : R (some (.int (-1))) M) : Wp (E0 L xs) d m9_look 87 [.ref 1, .int x1, .int x2, .null] [] M R :=
  r_iconst (-1) rfl (by decide) <| r_iret rfl rfl (vp_nar_int _) hR
