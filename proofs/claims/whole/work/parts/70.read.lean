/-! a text of rounds, read sign by sign -/
abbrev FL : Type := Option (Nat × Nat × Option (Nat × Nat × Nat))
abbrev RSt : Type := FL × List (List Nat) × List Nat × Nat × Nat × Nat × Nat
abbrev qF (s : RSt) : FL := s.1
abbrev qR (s : RSt) : List (List Nat) := s.2.1
abbrev qC (s : RSt) : List Nat := s.2.2.1
abbrev qW (s : RSt) : Nat := s.2.2.2.1
abbrev qP (s : RSt) : Nat := s.2.2.2.2.1
abbrev qN (s : RSt) : Nat := s.2.2.2.2.2.1
abbrev qn (s : RSt) : Nat := s.2.2.2.2.2.2
/-- the darts told so far -/
def toL (s : RSt) : List Nat := qC s ++ (qR s).flatten
def eN (s : RSt) : RSt := if qF s = none ∧ qW s = 3 then (if 32 ≤ qN s then (some (2, qn s, some ((qR s).length, qP s, (qC s).length)), qR s, qC s, 2, qP s, qN s, qn s) else if qN s ∈ toL s then (some (3, qn s, some ((qR s).length, qP s, (qC s).length)), qR s, qC s, 2, qP s, qN s, qn s) else (none, qR s, qC s ++ [qN s], 2, qP s, qN s, qn s)) else s
def isDg (c : Int32) : Bool := !decide (c < 48) && !decide (57 < c)
def dgC (c : Int32) : Nat := (c - 48).toNatClampNeg
def stD (s : RSt) (c : Int32) (p : Nat) : RSt := if qW s = 0 ∨ (qW s = 3 ∧ 2 ≤ p - qn s) then (some (1, p, none), s.2) else if qW s = 3 then (none, qR s, qC s, 3, qP s, 10 * qN s + dgC c, qn s) else (none, qR s, qC s, 3, qP s, dgC c, p)
def stO (s : RSt) (c : Int32) (p : Nat) : RSt := if c = 40 ∧ qW s = 0 then (none, qR s, [], 1, p, 0, 0) else if c = 41 ∧ qW s = 2 then (none, qC s :: qR s, [], 0, qP s, 0, 0) else if c = 32 ∨ c = 10 then s else (some (1, p, none), s.2)
def stp (s : RSt) (c : Int32) (p : Nat) : RSt := if qF s = none then (if isDg c = true then stD s c p else if qF (eN s) = none then stO (eN s) c p else eN s) else s
def run (tb : Nat → Int32) : Nat → RSt
  | 0 => (none, [], [], 0, 0, 0, 0)
  | p + 1 => stp (run tb p) (tb p) p
def allT (s : RSt) : Bool := alB (fun v => decide (v ∈ toL s)) (toL s).length && decide ((toL s).length % 2 = 0)
def endS (s : RSt) (len : Nat) : RSt := if qF (eN s) = none then (if qW (eN s) = 0 then (if allT (eN s) = true then eN s else (some (4, len, none), (eN s).2)) else (some (1, len, none), (eN s).2)) else eN s
def rX (rs : List (List Nat)) (x : Nat) : Nat := nxL (rs.getD (rs.findIdx (fun r => decide (x ∈ r))) []) x
def mpO (s : RSt) : PMp := ((toL s).length / 2, 0, rX (qR s))
def flV : FL → Int32 × Int32 × Int32 × Int32 × Int32
  | none => (0, -1, -1, -1, -1)
  | some (k, p, none) => (nI k, nI p, -1, -1, -1)
  | some (k, p, some (r, q, c)) => (nI k, nI p, nI r, nI q, nI c)
def lost (m : PMp) : Bool := anB (fun v => !rch m 0 (pVn m) v) (pVn m)
def rdF (tb : Nat → Int32) (len : Nat) : FL := if qF (endS (run tb len) len) = none then (if lost (mpO (endS (run tb len) len)) = true then some (5, len, none) else if pVn (mpO (endS (run tb len) len)) + pFn (mpO (endS (run tb len) len)) = pE (mpO (endS (run tb len) len)) + 2 then none else some (6, len, none)) else qF (endS (run tb len) len)
def rdM (tb : Nat → Int32) (len : Nat) : PMp := mpO (endS (run tb len) len)
def clr (st : ST) (F : Int32 × Int32 × Int32 × Int32 × Int32) : ST := ((0, sTb st), F, st.2.2)
noncomputable def oMap (st : ST) (x : Int32) : Int32 × ST := cIf (vp_in x 4) (if rdF (sTb st) (sTl st) = none then (nI (pE (rdM (sTb st) (sTl st))), setM (clr st (flV none)) x.toNatClampNeg (rdM (sTb st) (sTl st))) else (-1, clr st (flV (rdF (sTb st) (sTl st))))) (-2, clr st (flV none))
/-! what holds of it -/
def RI (s : RSt) (p : Nat) : Prop := (toL s).Nodup ∧ (∀ v, v ∈ toL s → v < 32) ∧ (qF s = none → qW s ≤ 3 ∧ (qW s = 0 → qC s = []) ∧ (qW s ≠ 0 → qP s < p) ∧ (qW s = 3 → (p = qn s + 1 ∧ qN s < 10) ∨ (p = qn s + 2 ∧ qN s < 100)))
theorem eN_id {s : RSt} (h : ¬ (qF s = none ∧ qW s = 3)) : eN s = s := if_neg h
theorem eN_F {s : RSt} (h : qF s ≠ none) : eN s = s := eN_id (fun q => h q.1)
theorem eN_W {s : RSt} (h : qF s = none) : qW (eN s) = if qW s = 3 then 2 else qW s := by
  unfold eN
  by_cases q : qW s = 3
  · rw [if_pos ⟨h, q⟩, if_pos q]
    by_cases q2 : 32 ≤ qN s
    · rw [if_pos q2]
    · rw [if_neg q2]
      by_cases q3 : qN s ∈ toL s
      · rw [if_pos q3]
      · rw [if_neg q3]
  · rw [if_neg (fun z => q z.2), if_neg q]
theorem eN_eN (s : RSt) : eN (eN s) = eN s := by
  by_cases h : qF s = none
  · refine eN_id (fun q => ?_)
    have := eN_W h
    rw [q.2] at this
    by_cases z : qW s = 3
    · rw [if_pos z] at this; omega
    · rw [if_neg z] at this; omega
  · rw [eN_F h, eN_F h]
theorem eN_RI {s : RSt} {p : Nat} (h : RI s p) : RI (eN s) p := by
  by_cases q : qF s = none ∧ qW s = 3
  · obtain ⟨h1, h2, h3⟩ := h
    obtain ⟨g1, g2, g3, g4⟩ := h3 q.1
    unfold eN
    rw [if_pos q]
    by_cases q2 : 32 ≤ qN s
    · rw [if_pos q2]; exact ⟨h1, h2, fun z => (by cases z)⟩
    · rw [if_neg q2]
      by_cases q3 : qN s ∈ toL s
      · rw [if_pos q3]; exact ⟨h1, h2, fun z => (by cases z)⟩
      · rw [if_neg q3]
        have hp : ∀ v, v ∈ toL (none, qR s, qC s ++ [qN s], 2, qP s, qN s, qn s) ↔ v = qN s ∨ v ∈ toL s := fun v => by
          unfold toL
          show v ∈ qC s ++ [qN s] ++ (qR s).flatten ↔ _
          rw [List.append_assoc, List.mem_append, List.mem_append, List.mem_append, List.mem_singleton]
          constructor
          · rintro (a | a | a)
            · exact Or.inr (Or.inl a)
            · exact Or.inl a
            · exact Or.inr (Or.inr a)
          · rintro (a | a | a)
            · exact Or.inr (Or.inl a)
            · exact Or.inl a
            · exact Or.inr (Or.inr a)
        refine ⟨?_, fun v hv => ?_, fun _ => ⟨by show 2 ≤ 3; omega, fun z => absurd z (by show ¬ 2 = 0; omega), fun _ => g3 (by omega), fun z => absurd z (by show ¬ 2 = 3; omega)⟩⟩
        · have : (qN s :: toL s).Nodup := List.nodup_cons.mpr ⟨q3, h1⟩
          have pm : (toL (none, qR s, qC s ++ [qN s], 2, qP s, qN s, qn s)).Perm (qN s :: toL s) := by
            unfold toL
            show (qC s ++ [qN s] ++ (qR s).flatten).Perm _
            rw [List.append_assoc]
            exact List.perm_middle
          exact pm.nodup_iff.mpr this
        · rcases (hp v).mp hv with e | e
          · rw [e]; omega
          · exact h2 v e
  · rw [eN_id q]; exact h
theorem dg_eq {c : Int32} (h : isDg c = true) : ¬ c < 48 ∧ ¬ 57 < c ∧ c - 48 = nI (dgC c) ∧ dgC c < 10 ∧ c = nI (48 + dgC c) := by
  unfold isDg at h
  rw [Bool.and_eq_true] at h
  have h1 : ¬ c < 48 := fun z => by
    have := h.1; rw [decide_eq_true z] at this; cases this
  have h2 : ¬ 57 < c := fun z => by
    have := h.2; rw [decide_eq_true z] at this; cases this
  have hi : vp_in c 58 := by
    rw [Int32.lt_iff_toInt_lt] at h1 h2
    have e1 : (48 : Int32).toInt = 48 := rfl
    have e2 : (57 : Int32).toInt = 57 := rfl
    exact vp_in_iff.mpr ⟨by omega, by omega⟩
  obtain ⟨j, hj, rfl, -⟩ := in_j hi (by decide)
  have h3 : 48 ≤ j := by
    by_cases z : j < 48
    · exact absurd ((nI_ltI (a := j) (b := 48) (by omega) (by omega)).mpr z) h1
    · omega
  have e : nI j - 48 = nI (j - 48) := i_sub h3
  have e2 : dgC (nI j) = j - 48 := by
    unfold dgC
    rw [e]
    exact nI_clamp (by omega)
  exact ⟨h1, h2, by rw [e2]; exact e, by omega, by rw [e2]; congr 1; omega⟩
theorem dg_no {c : Int32} (h : ¬ isDg c = true) : c < 48 ∨ 57 < c := by
  by_cases q : c < 48
  · exact Or.inl q
  · by_cases q2 : 57 < c
    · exact Or.inr q2
    · exact absurd (by unfold isDg; rw [decide_eq_false q, decide_eq_false q2]; rfl) h
theorem stO_RI {s : RSt} {c : Int32} {p : Nat} (h : RI s p) (hf : qF s = none) (hw : qW s ≠ 3) : RI (stO s c p) (p + 1) := by
  obtain ⟨h1, h2, h3⟩ := h
  obtain ⟨g1, g2, g3, g4⟩ := h3 hf
  unfold stO
  by_cases q1 : c = 40 ∧ qW s = 0
  · rw [if_pos q1]
    have e : toL (none, qR s, [], 1, p, 0, 0) = toL s := by unfold toL; rw [g2 q1.2]
    exact ⟨by rw [e]; exact h1, by rw [e]; exact h2, fun _ => ⟨by show 1 ≤ 3; omega, fun _ => rfl, fun _ => by show p < p + 1; omega, fun z => absurd z (by show ¬ 1 = 3; omega)⟩⟩
  · rw [if_neg q1]
    by_cases q2 : c = 41 ∧ qW s = 2
    · rw [if_pos q2]
      have e : toL (none, qC s :: qR s, [], 0, qP s, 0, 0) = toL s := rfl
      exact ⟨by rw [e]; exact h1, by rw [e]; exact h2, fun _ => ⟨by show 0 ≤ 3; omega, fun _ => rfl, fun z => absurd rfl z, fun z => absurd z (by show ¬ 0 = 3; omega)⟩⟩
    · rw [if_neg q2]
      by_cases q3 : c = 32 ∨ c = 10
      · rw [if_pos q3]
        exact ⟨h1, h2, fun _ => ⟨g1, g2, fun z => by have := g3 z; omega, fun z => absurd z hw⟩⟩
      · rw [if_neg q3]; exact ⟨h1, h2, fun z => (by cases z)⟩
theorem stD_RI {s : RSt} {c : Int32} {p : Nat} (h : RI s p) (hf : qF s = none) (hd : isDg c = true) : RI (stD s c p) (p + 1) := by
  obtain ⟨h1, h2, h3⟩ := h
  obtain ⟨g1, g2, g3, g4⟩ := h3 hf
  have hg := (dg_eq hd).2.2.2.1
  unfold stD
  by_cases q1 : qW s = 0 ∨ (qW s = 3 ∧ 2 ≤ p - qn s)
  · rw [if_pos q1]; exact ⟨h1, h2, fun z => (by cases z)⟩
  · rw [if_neg q1]
    by_cases q2 : qW s = 3
    · rw [if_pos q2]
      have := g4 q2
      refine ⟨h1, h2, fun _ => ⟨by show 3 ≤ 3; omega, fun z => absurd z (by show ¬ 3 = 0; omega), fun _ => ?_, fun _ => Or.inr ⟨?_, ?_⟩⟩⟩
      · have := g3 (by omega)
        show qP s < p + 1
        omega
      · show p + 1 = qn s + 2
        omega
      · show 10 * qN s + dgC c < 100
        omega
    · rw [if_neg q2]
      refine ⟨h1, h2, fun _ => ⟨by show 3 ≤ 3; omega, fun z => absurd z (by show ¬ 3 = 0; omega), fun _ => ?_, fun _ => Or.inl ⟨rfl, hg⟩⟩⟩
      have := g3 (by omega)
      show qP s < p + 1
      omega
theorem stp_RI {s : RSt} {c : Int32} {p : Nat} (h : RI s p) : RI (stp s c p) (p + 1) := by
  unfold stp
  by_cases hf : qF s = none
  · rw [if_pos hf]
    by_cases hd : isDg c = true
    · rw [if_pos hd]; exact stD_RI h hf hd
    · rw [if_neg hd]
      have hE := eN_RI h
      by_cases hf2 : qF (eN s) = none
      · rw [if_pos hf2]
        refine stO_RI hE hf2 (fun z => ?_)
        have := eN_W hf
        by_cases y : qW s = 3
        · rw [if_pos y] at this; omega
        · rw [if_neg y] at this; omega
      · rw [if_neg hf2]
        exact ⟨hE.1, hE.2.1, fun z => absurd z hf2⟩
  · rw [if_neg hf]
    exact ⟨h.1, h.2.1, fun z => absurd z hf⟩
theorem run_RI (tb : Nat → Int32) : ∀ p, RI (run tb p) p
  | 0 => ⟨List.nodup_nil, fun v hv => (by cases hv), fun _ => ⟨by show 0 ≤ 3; omega, fun _ => rfl, fun z => absurd rfl z, fun z => absurd z (by show ¬ 0 = 3; omega)⟩⟩
  | p + 1 => stp_RI (run_RI tb p)
theorem toL_len {s : RSt} {p : Nat} (h : RI s p) : (toL s).length ≤ 32 := nd_le h.1 h.2.1
theorem rs_len {s : RSt} {p : Nat} (h : RI s p) : (qC s).length ≤ 32 := by
  have := toL_len h
  unfold toL at this
  rw [List.length_append] at this
  omega
def FK (s : RSt) : Prop := ∀ f, qF s = some f → 1 ≤ f.1 ∧ f.1 ≤ 6
theorem FK_n {s : RSt} (h : qF s = none) : FK s := fun f e => by rw [h] at e; cases e
theorem FK_s {s : RSt} {k : Nat} {r : Nat × Option (Nat × Nat × Nat)} (h : qF s = some (k, r)) (h1 : 1 ≤ k) (h2 : k ≤ 6) : FK s := fun f e => by rw [h] at e; cases e; exact ⟨h1, h2⟩
theorem eN_FK {s : RSt} (h : FK s) : FK (eN s) := by
  by_cases q : qF s = none ∧ qW s = 3
  · unfold eN
    rw [if_pos q]
    by_cases q2 : 32 ≤ qN s
    · rw [if_pos q2]; exact FK_s rfl (by omega) (by omega)
    · rw [if_neg q2]
      by_cases q3 : qN s ∈ toL s
      · rw [if_pos q3]; exact FK_s rfl (by omega) (by omega)
      · rw [if_neg q3]; exact FK_n rfl
  · rw [eN_id q]; exact h
theorem stp_FK {s : RSt} {c : Int32} {p : Nat} (h : FK s) : FK (stp s c p) := by
  unfold stp
  by_cases hf : qF s = none
  · rw [if_pos hf]
    by_cases hd : isDg c = true
    · rw [if_pos hd]
      unfold stD
      by_cases q1 : qW s = 0 ∨ (qW s = 3 ∧ 2 ≤ p - qn s)
      · rw [if_pos q1]; exact FK_s rfl (by omega) (by omega)
      · rw [if_neg q1]
        by_cases q2 : qW s = 3
        · rw [if_pos q2]; exact FK_n rfl
        · rw [if_neg q2]; exact FK_n rfl
    · rw [if_neg hd]
      by_cases hf2 : qF (eN s) = none
      · rw [if_pos hf2]
        unfold stO
        by_cases q1 : c = 40 ∧ qW (eN s) = 0
        · rw [if_pos q1]; exact FK_n rfl
        · rw [if_neg q1]
          by_cases q2 : c = 41 ∧ qW (eN s) = 2
          · rw [if_pos q2]; exact FK_n rfl
          · rw [if_neg q2]
            by_cases q3 : c = 32 ∨ c = 10
            · rw [if_pos q3]; exact eN_FK h
            · rw [if_neg q3]; exact FK_s rfl (by omega) (by omega)
      · rw [if_neg hf2]; exact eN_FK h
  · rw [if_neg hf]; exact h
theorem run_FK (tb : Nat → Int32) : ∀ p, FK (run tb p)
  | 0 => FK_n rfl
  | p + 1 => stp_FK (run_FK tb p)
theorem endS_FK {s : RSt} {len : Nat} (h : FK s) : FK (endS s len) := by
  unfold endS
  by_cases h1 : qF (eN s) = none
  · rw [if_pos h1]
    by_cases h2 : qW (eN s) = 0
    · rw [if_pos h2]
      by_cases h3 : allT (eN s) = true
      · rw [if_pos h3]; exact eN_FK h
      · rw [if_neg h3]; exact FK_s rfl (by omega) (by omega)
    · rw [if_neg h2]; exact FK_s rfl (by omega) (by omega)
  · rw [if_neg h1]; exact eN_FK h
theorem flV_0 {s : RSt} (h : FK s) : (flV (qF s)).1 = 0 ↔ qF s = none := by
  constructor
  · intro e
    cases q : qF s with
    | none => rfl
    | some f =>
      obtain ⟨h1, h2⟩ := h f q
      rw [q] at e
      obtain ⟨k, p, r⟩ := f
      have e2 : nI k = 0 := by
        cases r with
        | none => exact e
        | some r => exact e
      have := (nI_leI (a := k) (b := 0) (by show k < 2 ^ 31; have : k ≤ 6 := h2; omega) (by omega)).mp (by rw [e2]; exact nI_le (a := 0) (b := 0) (by omega) (by omega))
      have : 1 ≤ k := h1
      omega
  · intro e; rw [e]; rfl
