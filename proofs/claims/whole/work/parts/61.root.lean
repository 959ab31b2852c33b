/-! each code comes from equally many darts -/
section TOR
variable {m : PMp}
theorem smC_iff {x y : Nat} : smC m x m y (pN m) = true ↔ ∀ i, i < pN m → cdV m x i = cdV m y i := by
  unfold smC
  rw [alB_iff]
  exact ⟨fun h i hi => of_decide_eq_true (h i hi), fun h i hi => decide_eq_true (h i hi)⟩
theorem smC_N (hm : PV m) (hc : Conn m) {x y : Nat} (hx : x < pN m) (hy : y < pN m) : smC m x m y (pN m) = true ↔ ∀ i, i < pN m → cdN m x i = cdN m y i := by
  have hN := MV_N hm
  rw [smC_iff]
  constructor
  · intro h i hi
    have := h i hi
    rw [cdV_N hm hc hx hi, cdV_N hm hc hy hi] at this
    have l1 := (cdN_perm hm hc hx).1 i hi
    have l2 := (cdN_perm hm hc hy).1 i hi
    exact (nI_eq (by omega) (by omega)).mp this
  · intro h i hi
    rw [cdV_N hm hc hx hi, cdV_N hm hc hy hi, h i hi]
/-- the names come in pairs: name i's other one is name ox i -/
def Pr2 (l : List Nat) : Prop := l.length % 2 = 0 ∧ ∀ i, i < l.length → l.getD (ox i) 0 = ox (l.getD i 0)
theorem Pr2_vis {l : List Nat} {x : Nat} (h : Pr2 l) : Pr2 (vis l x) := by
  unfold vis
  by_cases q : x ∈ l
  · rw [if_pos q]; exact h
  · rw [if_neg q]
    obtain ⟨h1, h2⟩ := h
    refine ⟨by simp; omega, fun i hi => ?_⟩
    simp at hi
    by_cases c : i < l.length
    · have hox : ox i < l.length := by
        have := ox_lt (d := i) (n := l.length / 2) (by omega)
        omega
      have e1 : (l ++ [x, ox x]).getD (ox i) 0 = l.getD (ox i) 0 := by simp [List.getD, List.getElem?_append_left hox]
      have e2 : (l ++ [x, ox x]).getD i 0 = l.getD i 0 := by simp [List.getD, List.getElem?_append_left c]
      rw [e1, e2, h2 i c]
    · have e1 : (l ++ [x, ox x]).getD l.length 0 = x := by simp [List.getD]
      have e2 : (l ++ [x, ox x]).getD (l.length + 1) 0 = ox x := by simp [List.getD]
      have : i = l.length ∨ i = l.length + 1 := by omega
      rcases this with q2 | q2
      · rw [q2, show ox l.length = l.length + 1 by unfold ox; rw [if_pos h1], e1, e2]
      · rw [q2, show ox (l.length + 1) = l.length by unfold ox; rw [if_neg (by omega)]; omega, e1, e2, ox_ox]
theorem Pr2_rv {g : Nat → Nat} {l : List Nat} {x : Nat} (h : Pr2 l) : ∀ i, Pr2 (rv g l x i)
  | 0 => h
  | i + 1 => Pr2_vis (Pr2_rv h i)
theorem Pr2_nml {s : Nat} : ∀ k, Pr2 (nml m s k)
  | 0 => ⟨by show [s, ox s].length % 2 = 0; simp, fun i hi => by
      have : i = 0 ∨ i = 1 := by have : i < [s, ox s].length := hi; simp at this; omega
      rcases this with rfl | rfl
      · rfl
      · show [s, ox s].getD 0 0 = ox ([s, ox s].getD 1 0)
        show s = ox (ox s)
        rw [ox_ox]⟩
  | k + 1 => Pr2_rv (Pr2_nml k) _
theorem cdl_ox (hm : PV m) (hc : Conn m) {s i : Nat} (hs : s < pN m) (hi : i < pN m) : (cdL m s).getD (ox i) 0 = ox ((cdL m s).getD i 0) :=
  (Pr2_nml (m := m) (s := s) (pN m)).2 i (by rw [show (nml m s (pN m)).length = pN m from cdL_len hm hc hs]; exact hi)
/-- the dart that has, from z on, the name that u has from x on -/
def phi (m : PMp) (x z u : Nat) : Nat := (cdL m z).getD ((cdL m x).idxOf u) 0
theorem phi_lt (hm : PV m) (hc : Conn m) {x z u : Nat} (hx : x < pN m) (hz : z < pN m) (hu : u < pN m) : phi m x z u < pN m := cdl_lt hm hc hz (cdl_il hm hc hx hu)
theorem phi_x (hm : PV m) (hc : Conn m) {x z : Nat} (hx : x < pN m) (hz : z < pN m) : phi m x z x = z := by
  have h0 : ∀ s, s < pN m → (cdL m s).getD 0 0 = s := fun s hs => by
    have := cdL_s hm hs
    simp [List.getD, this]
  have : (cdL m x).idxOf x = 0 := by
    have := cdl_i hm hc (i := 0) hx (by omega)
    rw [h0 x hx] at this
    exact this
  unfold phi
  rw [this, h0 z hz]
theorem phi_ox (hm : PV m) (hc : Conn m) {x z u : Nat} (hx : x < pN m) (hz : z < pN m) (hu : u < pN m) : phi m x z (ox u) = ox (phi m x z u) := by
  have hi := cdl_il hm hc hx hu
  have e1 : (cdL m x).idxOf (ox u) = ox ((cdL m x).idxOf u) := by
    have h1 := cdl_ox hm hc hx hi
    rw [cdl_x hm hc hx hu] at h1
    rw [← h1]
    exact cdl_i hm hc hx (ox_lt hi)
  unfold phi
  rw [e1, cdl_ox hm hc hz hi]
theorem phi_X (hm : PV m) (hc : Conn m) {x z u : Nat} (hx : x < pN m) (hz : z < pN m) (hu : u < pN m) (h : ∀ i, i < pN m → cdN m x i = cdN m z i) : phi m x z (pX m u) = pX m (phi m x z u) := by
  have hi := cdl_il hm hc hx hu
  have h1 := h _ hi
  have e1 : cdN m x ((cdL m x).idxOf u) = (cdL m x).idxOf (pX m u) := by
    unfold cdN
    rw [cdl_x hm hc hx hu]
  rw [e1] at h1
  unfold phi
  rw [h1]
  unfold cdN
  exact cdl_x hm hc hz (hm.2.1.1 _ (cdl_lt hm hc hz hi))
/-- a map of darts that keeps both steps keeps names -/
theorem au_vis {φ : Nat → Nat} {N : Nat} (hinj : ∀ a b, a < N → b < N → φ a = φ b → a = b) (hox : ∀ a, a < N → φ (ox a) = ox (φ a)) {l : List Nat} (hl : ∀ a, a ∈ l → a < N) {x : Nat} (hx : x < N) : vis (l.map φ) (φ x) = (vis l x).map φ := by
  unfold vis
  have : φ x ∈ l.map φ ↔ x ∈ l := by
    rw [List.mem_map]
    exact ⟨fun ⟨a, h1, h2⟩ => by rw [← hinj a x (hl a h1) hx h2]; exact h1, fun h => ⟨x, h, rfl⟩⟩
  by_cases q : x ∈ l
  · rw [if_pos q, if_pos (this.mpr q)]
  · rw [if_neg q, if_neg (fun z => q (this.mp z))]
    simp [hox x hx]
theorem au_it {φ g : Nat → Nat} {N : Nat} (hg : ∀ a, a < N → g a < N) (hX : ∀ a, a < N → φ (g a) = g (φ a)) : ∀ (k x : Nat), x < N → it g k (φ x) = φ (it g k x)
  | 0, _, _ => rfl
  | k + 1, x, hx => by
    show it g k (g (φ x)) = φ (it g k (g x))
    rw [← hX x hx]; exact au_it hg hX k (g x) (hg x hx)
theorem au_rv {φ g : Nat → Nat} {N : Nat} (hN : ∃ n, N = 2 * n) (hg : ∀ a, a < N → g a < N) (hinj : ∀ a b, a < N → b < N → φ a = φ b → a = b) (hox : ∀ a, a < N → φ (ox a) = ox (φ a)) (hX : ∀ a, a < N → φ (g a) = g (φ a)) {l : List Nat} (hl : NL N l) {x : Nat} (hx : x < N) : ∀ i, rv g (l.map φ) (φ x) i = (rv g l x i).map φ
  | 0 => rfl
  | i + 1 => by
    obtain ⟨n, hn⟩ := hN
    show vis (rv g (l.map φ) (φ x) i) (it g i (φ x)) = (vis (rv g l x i) (it g i x)).map φ
    rw [au_rv ⟨n, hn⟩ hg hinj hox hX hl hx i, au_it hg hX i x hx]
    exact au_vis hinj hox (NL_rv hn hg hl hx i).2.1 (it_lt hg i x hx)
/-- an automorphism -/
def Au (m : PMp) (φ : Nat → Nat) : Prop := (∀ a, a < pN m → φ a < pN m) ∧ (∀ a b, a < pN m → b < pN m → φ a = φ b → a = b) ∧ (∀ a, a < pN m → φ (ox a) = ox (φ a)) ∧ ∀ a, a < pN m → φ (pX m a) = pX m (φ a)
theorem au_dg (hm : PV m) {φ : Nat → Nat} (h : Au m φ) {x : Nat} (hx : x < pN m) : dgx m (φ x) = dgx m x := by
  obtain ⟨p, h1, p0, -, pd, pl⟩ := dgx_per hm.2.1 hx
  obtain ⟨q, h2, q0, -, qd, ql⟩ := dgx_per hm.2.1 (h.1 x hx)
  have tr : ∀ k, it (pX m) k (φ x) = φ x ↔ it (pX m) k x = x := fun k => by
    rw [au_it hm.2.1.1 h.2.2.2 k x hx]
    exact ⟨fun e => h.2.1 _ _ (it_lt hm.2.1.1 k x hx) hx e, fun e => by rw [e]⟩
  rw [h1, h2]
  rcases Nat.lt_trichotomy p q with z | z | z
  · exact absurd ((tr p).mpr pd) (ql p p0 z)
  · exact z.symm
  · exact absurd ((tr q).mp qd) (pl q q0 z)
theorem au_nml (hm : PV m) {φ : Nat → Nat} (h : Au m φ) {s : Nat} (hs : s < pN m) : ∀ k, nml m (φ s) k = (nml m s k).map φ
  | 0 => by
    show [φ s, ox (φ s)] = [s, ox s].map φ
    simp [h.2.2.1 s hs]
  | k + 1 => by
    have ih := au_nml hm h hs k
    have hNL := NL_nml hm.2.1 hs k
    show rv (pX m) (nml m (φ s) k) ((nml m (φ s) k).getD k 0) (if k < (nml m (φ s) k).length then dgx m ((nml m (φ s) k).getD k 0) else 0) = (rv (pX m) (nml m s k) ((nml m s k).getD k 0) (if k < (nml m s k).length then dgx m ((nml m s k).getD k 0) else 0)).map φ
    rw [ih, List.length_map]
    by_cases q : k < (nml m s k).length
    · have e : ((nml m s k).map φ).getD k 0 = φ ((nml m s k).getD k 0) := by
        simp [List.getD, List.getElem?_eq_getElem q]
      have hx := hNL.2.1 _ (getD_mem q)
      rw [if_pos q, if_pos q, e, au_dg hm h hx]
      exact au_rv ⟨m.1, rfl⟩ hm.2.1.1 h.2.1 h.2.2.1 h.2.2.2 hNL hx _
    · rw [if_neg q, if_neg q]; rfl
theorem au_code (hm : PV m) (hc : Conn m) {φ : Nat → Nat} (h : Au m φ) {s : Nat} (hs : s < pN m) {i : Nat} (hi : i < pN m) : cdN m (φ s) i = cdN m s i := by
  have e : cdL m (φ s) = (cdL m s).map φ := au_nml hm h hs (pN m)
  have hl : i < (cdL m s).length := by rw [cdL_len hm hc hs]; exact hi
  have e1 : ((cdL m s).map φ).getD i 0 = φ ((cdL m s).getD i 0) := by simp [List.getD, List.getElem?_eq_getElem hl]
  have hd := cdl_lt hm hc hs hi
  have hX := hm.2.1.1 _ hd
  unfold cdN
  rw [e, e1, ← h.2.2.2 _ hd]
  -- the place of an image
  have key : ∀ u, u < pN m → ((cdL m s).map φ).idxOf (φ u) = (cdL m s).idxOf u := by
    intro u hu
    have h1 := cdl_il hm hc hs hu
    have hφ := h.1 s hs
    have h2 := cdl_i hm hc hφ h1
    rw [e] at h2
    have e2 : ((cdL m s).map φ).getD ((cdL m s).idxOf u) 0 = φ u := by
      have hl2 : (cdL m s).idxOf u < (cdL m s).length := by rw [cdL_len hm hc hs]; exact h1
      have : ((cdL m s).map φ).getD ((cdL m s).idxOf u) 0 = φ ((cdL m s).getD ((cdL m s).idxOf u) 0) := by simp [List.getD, List.getElem?_eq_getElem hl2]
      rw [this, cdl_x hm hc hs hu]
    rw [e2] at h2
    exact h2
  exact key _ hX
theorem phi_Au (hm : PV m) (hc : Conn m) {x z : Nat} (hx : x < pN m) (hz : z < pN m) (h : ∀ i, i < pN m → cdN m x i = cdN m z i) : Au m (phi m x z) := by
  refine ⟨fun a ha => phi_lt hm hc hx hz ha, fun a b ha hb e => ?_, fun a ha => phi_ox hm hc hx hz ha, fun a ha => phi_X hm hc hx hz ha h⟩
  have h1 := cdl_i hm hc hz (cdl_il hm hc hx ha)
  have h2 := cdl_i hm hc hz (cdl_il hm hc hx hb)
  have e' : (cdL m z).getD ((cdL m x).idxOf a) 0 = (cdL m z).getD ((cdL m x).idxOf b) 0 := e
  rw [e', h2] at h1
  rw [← cdl_x hm hc hx ha, ← cdl_x hm hc hx hb, h1]
/-- two automorphisms that agree at a dart agree -/
theorem au_eq (hm : PV m) (hc : Conn m) {φ ψ : Nat → Nat} (h : Au m φ) (h' : Au m ψ) {x : Nat} (hx : x < pN m) (e : φ x = ψ x) : ∀ u, u < pN m → φ u = ψ u := fun u hu =>
  hc (fun u => u < pN m ∧ φ u = ψ u) (fun a ha ⟨_, e⟩ => ⟨hm.2.1.1 a ha, by rw [h.2.2.2 a ha, h'.2.2.2 a ha, e]⟩) (fun a ha ⟨_, e⟩ => ⟨ox_lt ha, by rw [h.2.2.1 a ha, h'.2.2.1 a ha, e]⟩) x u hx hu ⟨hx, e⟩ |>.2
/-- how many of the first n numbers have a property: by an injection -/
theorem cnB_inj {P Q : Nat → Bool} {a b : Nat} (f : Nat → Nat) (h1 : ∀ i, i < a → P i = true → f i < b ∧ Q (f i) = true) (h2 : ∀ i j, i < a → j < a → P i = true → P j = true → f i = f j → i = j) : cnB P a ≤ cnB Q b := by
  -- by going through the Ps, one Q taken away for each
  have key : ∀ (a : Nat) (Q : Nat → Bool), (∀ i, i < a → P i = true → f i < b ∧ Q (f i) = true) → (∀ i j, i < a → j < a → P i = true → P j = true → f i = f j → i = j) → cnB P a ≤ cnB Q b := by
    intro a
    induction a with
    | zero => intro Q _ _; exact Nat.zero_le _
    | succ a ih =>
      intro Q g1 g2
      show cnB P a + _ ≤ _
      by_cases q : P a = true
      · rw [if_pos q]
        obtain ⟨k1, k2⟩ := g1 a (by omega) q
        have h3 := cnB_one (P := fun i => if i = f a then false else Q i) (Q := Q) (a := f a) (by simp) k2 (fun i hi => by simp [hi]) k1
        have h4 := ih (fun i => if i = f a then false else Q i) (fun i hi hp => ⟨(g1 i (by omega) hp).1, by
          have : f i ≠ f a := fun z => by have := g2 i a (by omega) (by omega) hp q z; omega
          simp [this, (g1 i (by omega) hp).2]⟩) (fun i j hi hj => g2 i j (by omega) (by omega))
        omega
      · rw [if_neg q]
        exact ih Q (fun i hi => g1 i (by omega)) (fun i j hi hj => g2 i j (by omega) (by omega))
  exact key a Q h1 h2
/-- how many darts have the code of x -/
def clN (m : PMp) (x : Nat) : Nat := cnB (fun y => smC m x m y (pN m)) (pN m)
theorem clN_le (hm : PV m) (hc : Conn m) {x x' : Nat} (hx : x < pN m) (hx' : x' < pN m) : clN m x ≤ clN m x' := by
  refine cnB_inj (fun z => phi m x z x') (fun z hz hp => ?_) (fun z y hz hy hp hq e => ?_)
  · have h := (smC_N hm hc hx hz).mp hp
    have hA := phi_Au hm hc hx hz h
    refine ⟨phi_lt hm hc hx hz hx', (smC_N hm hc hx' (phi_lt hm hc hx hz hx')).mpr (fun i hi => ?_)⟩
    exact (au_code hm hc hA hx' hi).symm
  · have hA := phi_Au hm hc hx hz ((smC_N hm hc hx hz).mp hp)
    have hB := phi_Au hm hc hx hy ((smC_N hm hc hx hy).mp hq)
    have := au_eq hm hc hA hB hx' e x hx
    rw [phi_x hm hc hx hz, phi_x hm hc hx hy] at this
    exact this
theorem clN_eq (hm : PV m) (hc : Conn m) {x x' : Nat} (hx : x < pN m) (hx' : x' < pN m) : clN m x = clN m x' := Nat.le_antisymm (clN_le hm hc hx hx') (clN_le hm hc hx' hx)
/-- the first one of its code -/
theorem nwC_iff {x : Nat} : nwC m x = true ↔ ∀ y, y < x → smC m x m y (pN m) = false := by
  unfold nwC
  constructor
  · intro h y hy
    cases q : smC m x m y (pN m) with
    | false => rfl
    | true =>
      rw [anB_iff.mpr ⟨y, hy, q⟩] at h
      cases h
  · intro h
    have : anB (fun y => smC m x m y (pN m)) x = false := Bool.eq_false_iff.mpr (fun z => by
      obtain ⟨y, h1, h2⟩ := anB_iff.mp z
      rw [h y h1] at h2; cases h2)
    rw [this]; rfl
theorem smC_symm {x y : Nat} (h : smC m x m y (pN m) = true) : smC m y m x (pN m) = true := smC_iff.mpr (fun i hi => (smC_iff.mp h i hi).symm)
theorem smC_trans {x y z : Nat} (h : smC m x m y (pN m) = true) (h2 : smC m y m z (pN m) = true) : smC m x m z (pN m) = true := smC_iff.mpr (fun i hi => (smC_iff.mp h i hi).trans (smC_iff.mp h2 i hi))
/-- darts whose code is that of one of the first n -/
theorem nw_mul (hm : PV m) (hc : Conn m) {c : Nat} (hcl : ∀ x, x < pN m → clN m x = c) : ∀ n, n ≤ pN m → nwN m n * c = cnB (fun y => anB (fun x => smC m x m y (pN m)) n) (pN m)
  | 0, _ => by
    rw [show nwN m 0 = 0 from rfl, Nat.zero_mul]
    exact (cnB_none (fun i _ => rfl)).symm
  | n + 1, hn => by
    have ih := nw_mul hm hc hcl n (by omega)
    have e1 : nwN m (n + 1) = nwN m n + (if nwC m n = true then 1 else 0) := rfl
    by_cases q : nwC m n = true
    · have h1 := nwC_iff.mp q
      rw [e1, if_pos q, Nat.add_mul, Nat.one_mul, ih, ← hcl n (by omega)]
      refine (cnB_or (fun i _ => rfl) (fun i _ hb => ?_)).symm
      obtain ⟨x, hx, h2⟩ := anB_iff.mp hb.1
      have := h1 x hx
      rw [smC_trans hb.2 (smC_symm h2)] at this
      cases this
    · rw [e1, if_neg q, Nat.add_zero, ih]
      refine cnB_congr (fun i _ => ?_)
      show _ = (anB (fun x => smC m x m i (pN m)) n || smC m n m i (pN m))
      have hex : ∃ y, y < n ∧ smC m n m y (pN m) = true := Classical.byContradiction fun hn => q (nwC_iff.mpr (fun y hy => Bool.eq_false_iff.mpr (fun z => hn ⟨y, hy, z⟩)))
      obtain ⟨y, hy, h2⟩ := hex
      cases q2 : smC m n m i (pN m) with
      | false => rw [Bool.or_false]
      | true =>
        rw [Bool.or_true]
        exact anB_iff.mpr ⟨y, hy, smC_trans (smC_symm h2) q2⟩
theorem nw_rtg (hm : PV m) (hc : Conn m) (hE : 0 < pE m) : nwN m (pN m) = rtg m := by
  have hr : pR m < pN m := by
    rcases rt_lt hm with q | q
    · exact q
    · omega
  have h1 := nw_mul hm hc (c := clN m (pR m)) (fun x hx => clN_eq hm hc hx hr) (pN m) (Nat.le_refl _)
  have h2 : cnB (fun y => anB (fun x => smC m x m y (pN m)) (pN m)) (pN m) = pN m := cnB_all (fun i hi => anB_iff.mpr ⟨i, hi, smC_iff.mpr (fun _ _ => rfl)⟩)
  rw [h2] at h1
  have e : clN m (pR m) = rtC m m (pN m) := rfl
  rw [e] at h1
  have hN : 0 < pN m := by show 0 < 2 * m.1; have : 0 < m.1 := hE; omega
  have hp : 0 < rtC m m (pN m) := by
    rcases Nat.eq_zero_or_pos (rtC m m (pN m)) with z | z
    · rw [z, Nat.mul_zero] at h1; omega
    · exact z
  unfold rtg
  rw [if_pos hp]
  exact (Nat.div_eq_of_eq_mul_left hp h1.symm).symm
end TOR
section RFF
variable {L : Nat} {xs : Nat → Int32} {d : Nat} {M : ME} {st : ST}
theorem r_rootings (hS : RefS M st) (hok : StOK st) {x : Int32} : EvI (E0 L xs) (d + 2) m10_rootings [.ref 110, .int x] M (Rq M st (aRootings st x)) := by
  refine Ev_of k10_rootings rfl (Nat.le_of_ble_eq_true rfl) (b10_rootings_0 (fun h => ?_) (fun h => b10_rootings_13 ⟨_, rfl, ?_⟩))
  rotate_left
  · rw [show aRootings st x = -1 from cIf_neg h _ _]; exact Rq_sc hok hS (tld M)
  rw [show aRootings st x = _ from cIf_pos h _ _]
  obtain ⟨j, hj, rfl, ej⟩ := in_j h (by decide)
  rw [ej]
  have hm := hok.2.2 j hj
  have hS1 := tld_S hok hS
  have hrj : rM (sI M 110 0 0) j (sM st j) := hS1.2.2.2.2 j hj
  have hj5 : j < 5 := by omega
  generalize sM st j = m at *
  have hN := MV_N hm.1
  have hE16 : m.1 ≤ 16 := hm.1.1
  have e0 : gI (sI M 110 0 0) 112 j = nI m.1 := hrj.1
  have fin : ∀ {r : Int32} {M3 : ME}, Fr tSr M M3 → r = nI (rtg m) → ∃ r', some (Value.int r) = some (.int r') ∧ Rq M st (nI (rtg m)) r' M3 := fun {r M3} f h => ⟨_, rfl, by rw [h]; exact Rq_sc hok hS f⟩
  refine b10_rootings_15 j rfl hj5 (fun h2 => b10_rootings_26 ?_) (fun h2 => b10_rootings_24 (fin (tld M) ?_))
  rotate_left
  · rw [e0] at h2
    have h0 : m.1 = 0 := (nI_eq (b := 0) (by omega) (by decide)).mp h2
    have : rtC m m (pN m) = 0 := by
      have := rtC_le m m (pN m)
      have e : pN m = 2 * m.1 := rfl
      omega
    unfold rtg
    rw [if_neg (by omega)]; rfl
  rw [e0] at h2
  have hE : 0 < pE m := by
    rcases Nat.eq_zero_or_pos m.1 with z | z
    · exact absurd (by rw [z]; rfl) h2
    · exact z
  suffices hloop : ∀ (q z : Nat) (M1 : ME), z + q = pN m → Fr tSr M M1 → rM M1 j m → Wp (E0 L xs) (d + 2) m10_rootings 30 [.ref 110, .int (nI j), .int (nI (nwN m z)), .int (nI z), .null, .null] [] M1 (fun v' M' => ∃ r, v' = some (.int r) ∧ Rq M st (nI (rtg m)) r M') by
    exact hloop (pN m) 0 _ (by omega) (tld M) hrj
  intro q
  induction q with
  | zero =>
    intro z M1 hz f1 a1
    have : z = pN m := by omega
    subst this
    have e2 : 2 * gI M1 112 j = nI (pN m) := by rw [show gI M1 112 j = _ from a1.1]; exact pk_mul 2 _
    refine b10_rootings_30 j rfl hj5 (fun _ => b10_rootings_111 (fin f1 ?_)) (fun h => absurd (by rw [e2]; exact nI_le (Nat.le_refl _) (by omega)) h)
    rw [nw_rtg hm.1 hm.2.1 hE]
  | succ q ih =>
    intro z M1 hz f1 a1
    have hz' : z < pN m := by omega
    have e2 : 2 * gI M1 112 j = nI (pN m) := by rw [show gI M1 112 j = _ from a1.1]; exact pk_mul 2 _
    have es : nwN m (z + 1) = nwN m z + (if nwC m z = true then 1 else 0) := rfl
    refine b10_rootings_30 j rfl hj5 (fun h => absurd ((nI_leI (a := pN m) (b := z) (by omega) (by omega)).mp (by rw [← e2]; exact h)) (by omega)) (fun _ => b10_rootings_39 (rcode_ev (d := d) (r := 0) hj5 (by decide) hm.1 hm.2.1 a1 hz') (fun M2 h3 => b10_rootings_46 ?_))
    have f2 := Fr_trans f1 (tCd_sr h3.1)
    have a2 := rM_cd a1 h3.1
    have tail : ∀ (y : Nat) (M3 : ME) (bb : Bool), bb = nwC m z → Fr tSr M M3 → rM M3 j m → Wp (E0 L xs) (d + 2) m10_rootings 96 [.ref 110, .int (nI j), .int (nI (nwN m z)), .int (nI z), .int (b2i bb), .int (nI y)] [] M3 (fun v' M' => ∃ r, v' = some (.int r) ∧ Rq M st (nI (rtg m)) r M') := by
      intro y M3 bb hbb f3 a3
      have h4 := ih (z + 1) M3 (by omega) f3 a3
      rw [es, ← hbb] at h4
      cases bb with
      | true =>
        rw [if_pos rfl] at h4
        exact b10_rootings_96 (fun h => absurd h (by decide)) (fun _ => b10_rootings_101 (b10_rootings_105 (by rw [nI_1, nI_1]; exact h4)))
      | false =>
        rw [if_neg (by decide), Nat.add_zero] at h4
        exact b10_rootings_96 (fun _ => b10_rootings_105 (by rw [nI_1]; exact h4)) (fun h => absurd rfl h)
    suffices hin : ∀ (r y : Nat) (M3 : ME), y + r = z → Fr tSr M M3 → rM M3 j m → cdR M3 m z 0 → Wp (E0 L xs) (d + 2) m10_rootings 52 [.ref 110, .int (nI j), .int (nI (nwN m z)), .int (nI z), .int (b2i (!anB (fun y => smC m z m y (pN m)) y)), .int (nI y)] [] M3 (fun v' M' => ∃ r, v' = some (.int r) ∧ Rq M st (nI (rtg m)) r M') by
      exact hin z 0 M2 (by omega) f2 a2 h3.2
    intro r
    induction r with
    | zero =>
      intro y M3 hy f3 a3 a4
      have : y = z := by omega
      subst this
      exact b10_rootings_52 (fun _ => tail y M3 _ rfl f3 a3) (fun h => absurd (nI_le (Nat.le_refl _) (by omega)) h)
    | succ r ih2 =>
      intro y M3 hy f3 a3 a4
      cases qa : anB (fun y => smC m z m y (pN m)) y with
      | true =>
        refine b10_rootings_52 (fun h => absurd ((nI_leI (a := z) (b := y) (by omega) (by omega)).mp h) (by omega)) (fun _ => b10_rootings_58 (fun _ => tail y M3 false ?_ f3 a3) (fun h => absurd rfl h))
        unfold nwC
        obtain ⟨u, hu, h6⟩ := anB_iff.mp qa
        rw [anB_iff.mpr ⟨u, by omega, h6⟩]; rfl
      | false =>
        refine b10_rootings_52 (fun h => absurd ((nI_leI (a := z) (b := y) (by omega) (by omega)).mp h) (by omega)) (fun _ => b10_rootings_58 (fun h => absurd h (by decide)) (fun _ => b10_rootings_63 (rcode_ev (d := d) (r := 1) hj5 (by decide) hm.1 hm.2.1 a3 (by omega)) (fun M4 h5 => ?_)))
        have b3 := rM_cd a3 h5.1
        have b4 : cdR M4 m z 0 := cdR_o hN a4 h5.1
        have f4 := Fr_trans f3 (tCd_sr h5.1)
        have e3 : 2 * gI M4 112 j = nI (pN m) := by rw [show gI M4 112 j = _ from b3.1]; exact pk_mul 2 _
        refine b10_rootings_71 (R' := fun r M' => r = b2i (smC m z m y (pN m)) ∧ M' = M4) j rfl hj5 (by rw [e3]; exact areAlike_ev rfl rfl hN b4 h5.2) (fun r1 M5 hr => ?_)
        obtain ⟨rfl, rfl⟩ := hr
        have h6 := ih2 (y + 1) M5 (by omega) f4 b3 b4
        have ea : anB (fun y => smC m z m y (pN m)) (y + 1) = smC m z m y (pN m) := by
          show (anB (fun y => smC m z m y (pN m)) y || smC m z m y (pN m)) = _
          rw [qa, Bool.false_or]
        rw [ea] at h6
        cases qs : smC m z m y (pN m) with
        | true =>
          rw [qs] at h6
          exact b10_rootings_80 (fun _ => b10_rootings_87 (b10_rootings_88 (by rw [nI_1]; exact h6))) (fun h => absurd h (by decide))
        | false =>
          rw [qs] at h6
          exact b10_rootings_80 (fun h => absurd rfl h) (fun _ => b10_rootings_83 (b10_rootings_88 (by rw [nI_1]; exact h6)))
end RFF
