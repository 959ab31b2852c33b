/-! THE CLAIM OUT OF ONE WALK OF THE LAW'S BODY. Your part is whole_start (and what it stands on); all else here is the same for every law, but numbers. -/
def R_law : String := "PlaneMapsLaw"
def lw_P (b : Addr) (xs : List Int32) (args : Array Value) (s : State) : Prop := args = #[.ref b] ∧ s.IntsAt b xs ∧ xs.length ≤ 3072 ∧ (Jvm.Cond.and given_1 narrow_1).before args s = true
def lw_Q (_ : Array Value) (s : State) (o : Outcome) (t : State) : Prop := o = .returned (some (.int 1)) ∧ Framed s o t [] 600000 7302250
def lw_Z (below : List Frame) (a : Array Value) (s : State) : State → Prop := fun t => ∃ o, t.status = .running ∧ Ended t below o ∧ lw_Q a s o t
/-- the law's own end, with 1 on the stack, nothing written that was there before, its room as the claim has it -/
theorem lw_ret {p : Program} {l : Launch} {e : Env} {s : State} {m : MethodId} {below : List Frame} {meth : Method} {c : Code} {b : Nat} (hx : p.tables.exec = Jvm.exec) (hb : c.code = code) (hr : meth.sig.returnType = ret) (hlocks : meth.locks = false) {pc : Nat} {H : Heap} {ls : Array Slot} (hdg : decode code pc = .ok (.ireturn, 1)) : W p l e room_1 s m #[Value.ref b] below meth c H [] 600000 7302250 (lw_Z below #[Value.ref b] s) (F0 m pc ls [.int 1]) := by
  intro T hT X
  obtain ⟨fs, hret, hrun, hended, hW, hframe⟩ := X.leave (v := some (.int 1)) (hlocks := hlocks) (fun h => by rw [hr] at h; cases h)
  have hmeth' : T.vm.method? m = some meth := X.method'
  refine ⟨T.setFrames fs, ?_, .returned (some (.int 1)), hrun, hended, rfl, ⟨_, rfl⟩, hW, hframe⟩
  jvm_step X.here [X.here.top, hx, hb, hdg, hmeth', hr, ret, narrow_b1]
  (try refine ⟨rfl, ?_⟩); (try refine ⟨rfl, ?_⟩)
  first | (intro acts; rw [hret _ acts rfl rfl rfl]) | rw [hret _ _ rfl rfl rfl]
  exact Steps.refl _
/-- what holds at the law's entry: the machine, the code, the tables' words (any of lw_tbl by 'hts w (by decide +kernel)'), the script of L ints xs at the cell b, what the Statement gives of the start (any of its parts by flat_of_before) -/
def lw_At (p : Program) (s : State) (m : MethodId) (meth : Method) (c : Code) (b L : Nat) (xs : Nat → Int32) : Prop :=
  p.tables.exec = Jvm.exec ∧ c.code = code ∧ meth.sig.returnType = ret ∧ c.maxLocals = 4 ∧ s.vm.findClass R_law = some m.cls ∧ (∀ w ∈ lw_tbl, w.before #[Value.ref b] s = true) ∧ va_X b L xs s s.heap ∧ b < s.heap.size ∧ meth.locks = false ∧ (Jvm.Cond.and given_1 narrow_1).before #[Value.ref b] s = true
theorem whole_ids {s : State} (ht : ∀ w ∈ TB, w.before #[] s = true) (hn : NW s) : ∃ ids : Nat → ClassId, ∀ (G1 G2 : Nat) (D : va_G) (k : Nat) (q : ClassId × FieldType), (tysG (G1, G2, D, ids))[k]? = some q → ArrOfT s q.1 q.2 ∧ va_RA s q.1 q.2 := by
  obtain ⟨c1, k1, d1, f1, g1, h1⟩ := Cond.arrayClass_spec (ht _ wArrI)
  obtain ⟨c2, k2, d2, f2, g2, h2⟩ := Cond.arrayClass_spec (ht _ wArrL)
  obtain ⟨d3, c3, k3, e3, -, g3, h3, f3⟩ := Cond.arrayOver_spec (va_AO.use (A := #[]) (hn _ wOT))
  obtain ⟨d4, c4, k4, e4, -, g4, h4, f4⟩ := Cond.arrayOver_spec (va_AO.use (A := #[]) (hn _ wOM))
  obtain ⟨d5, c5, k5, e5, -, g5, h5, f5⟩ := arrayOverA_spec (over_moved (a' := #[]) (Vm.Alike.refl _) (hn _ wOI))
  obtain ⟨d6, c6, k6, e6, -, g6, h6, f6⟩ := arrayOverA_spec (over_moved (a' := #[]) (Vm.Alike.refl _) (hn _ wOJ))
  refine ⟨fun i => match i with
    | 1 => c1
    | 2 => c2
    | 3 => c3
    | 4 => c4
    | 5 => c5
    | _ => c6, fun G1 G2 D k q hq => ?_⟩
  match k, hq with
  | 0, hq => cases hq; exact ⟨fun n z => ⟨fun k h => (by cases h), k1, g1, d1, h1⟩, f1⟩
  | 1, hq => cases hq; exact ⟨fun n z => ⟨fun k h => (by cases h), k2, g2, d2, h2⟩, f2⟩
  | 2, hq => cases hq; exact ⟨fun n z => ⟨fun k h => (by cases h), k3, g3, d3, h3⟩, k3, d3, g3, h3, e3, f3⟩
  | 3, hq => cases hq; exact ⟨fun n z => ⟨fun k h => (by cases h), k4, g4, d4, h4⟩, k4, d4, g4, h4, e4, f4⟩
  | 4, hq => cases hq; exact ⟨fun n z => ⟨fun k h => (by cases h), k5, g5, d5, h5⟩, f5⟩
  | 5, hq => cases hq; exact ⟨fun n z => ⟨fun k h => (by cases h), k6, g6, d6, h6⟩, f6⟩
  | k + 6, hq => exact absurd hq (by simp [tysG])
theorem whole_cls {s : State} {args : Array Value} (ht : ∀ w ∈ TB, w.before args s = true) : ∃ D : va_G, ∀ (c : Nat) (q : vw_C), vwCl[c]? = some q → u_Kn s q.1 q.2.1 q.2.2 (D.1 c) (D.2 c) := by
  have key : ∀ c : Nat, ∃ x : ClassId × (Nat → Nat), ∀ q : vw_C, vwCl[c]? = some q → u_Kn s q.1 q.2.1 q.2.2 x.1 x.2 := fun c => by
    cases h : vwCl[c]? with
    | none => exact ⟨(0, fun _ => 0), fun q hq => by cases hq⟩
    | some q =>
      obtain ⟨cC, iS, hk⟩ := u_known ht (cl_ok c q h).1 (ht _ (in_ok c q h))
      exact ⟨(cC, iS), fun q' hq => by cases hq; exact hk⟩
  exact ⟨(fun c => (Classical.choose (key c)).1, fun c => (Classical.choose (key c)).2), fun c q hq => Classical.choose_spec (key c) q hq⟩
theorem whole_nw {s : State} {args : Array Value} (hts : ∀ w ∈ lw_tbl, w.before args s = true) : NW s := fun w hw => by
  have h1 := hts w (List.mem_filter.mp hw).1
  have h2 : nbW w = true := (List.mem_filter.mp hw).2
  unfold nbW at h2
  split at h2
  · exact va_Nw.of rfl h1
  · exact over_moved (Vm.Alike.refl _) h1
  · exact va_AO.of h1
  · cases h2
/-- YOUR PART: from the entry, for every script of at most 3072 ints, the law comes to its end with true ('hflags': the launch's flags, for a law that throws: no stack traces) -/
theorem whole_start {p : Program} {e : Env} {s : State} {m : MethodId} {below : List Frame} {meth : Method} {c : Code} (l : Launch) (hflags : l.flags = flags0) {b L : Nat} {xs : Nat → Int32} (hL : L ≤ 3072) (C0 : lw_At p s m meth c b L xs) : W p l e room_1 s m #[Value.ref b] below meth c s.heap [] 0 0 (lw_Z below #[Value.ref b] s) (entryFrame m ([Value.ref b] : List Value).toArray 4) := by
  obtain ⟨hx, hb, hr, hml, hown, hts, hX, hbl, hlocks, hgv⟩ := id C0
  have ht : ∀ w ∈ TB, w.before #[Value.ref b] s = true := fun w hw => hts w (tb_lw hw)
  have hn : NW s := whole_nw hts
  have ht0 : ∀ w ∈ TB, w.before #[] s = true := fun w hw => by
    rcases good_of_word (List.mem_filter.mp hw).2 with h | ⟨ty, rfl⟩
    · exact va_tabs (A := #[Value.ref b]) (u := s) (by rw [Bool.and_eq_true] at h; exact h.1) rfl (ht w hw)
    · exact ht _ hw
  obtain ⟨D, hD⟩ := whole_cls ht
  obtain ⟨ids, hids⟩ := whole_ids ht0 hn
  have hG : s.heap.size - 1 + 1 = s.heap.size := by omega
  have hro : MOK mL_law := kL_law.1
  have hsl : szE (Wd L xs 130 []) ≤ 7302250 := by
    rw [wd_sz rs_nil]
    decide +kernel
  rw [lg_entry_eq]
  refine law_start (L := L) (xs := xs) (d := 0) (M := (fun _ _ => 0, fun _ _ => 0, fun _ _ => 0)) (by omega) (fun k hk j => ⟨rfl, rfl, rfl⟩) (s.heap.size - 1, b, D, ids) l p e room_1 s m #[Value.ref b] below meth c s.heap [] 0 0 (lw_Z below #[Value.ref b] s) _ ⟨hx, hb, hml, hown, ht, ⟨hD, hids _ _ _⟩, ⟨by decide, by decide, Nat.zero_le _, Nat.zero_le _⟩, wd_wf rs_nil, by show s.heap.size - 1 < s.heap.size; omega, ⟨hX, by show b ≤ s.heap.size - 1; omega⟩, hro⟩ (Rp_all (fun k k1 k2 => absurd k2 (by show ¬ k < 1; omega))) va_S.rf (lvE_has (G := (s.heap.size - 1, b, D, ids)) (n := 4) (as := [.retAddr 0]) (Nat.le_of_ble_eq_true rfl)) 0 ⟨⟨by show s.heap.size + 0 = s.heap.size - 1 + 1; omega, rfl, by show s.heap.size - 1 + 130 ≤ s.heap.size + 600000; omega, by show szE (Wd L xs 130 []) ≤ 0 + 7302250; omega⟩, fun h9 => absurd h9 (by decide), hn⟩ ?_
  intro v M' H' locs' pc' ls' cells' slots' hR hro' hP hS hZ
  subst hR
  refine va_forget (fun q hq => ?_) ?_
  · have : s.heap.size - 1 < q.base := hS.2.2 q hq
    omega
  · have z1 : s.heap.size + cells' = s.heap.size - 1 + 130 := hZ.1
    have z2 : slots' + 0 = szE (Wd L xs 130 []) := hZ.2.1
    refine W.widen (k := 600000) (n := 7302250) (by omega) (by omega) ?_
    rcases hro' with ⟨x, t, hv, hi, -⟩ | ⟨x, hv, -⟩ | ⟨hv, -⟩
    · exact lw_ret hx hb hr hlocks (hro.d hi)
    · cases hv
    · cases hv
set_option maxHeartbeats 4000000 in
theorem lw_walk (l : Launch) (hflags : l.flags = flags0) (b : Addr) (xs : List Int32) : MetFree l x (headSpec (Jvm.Cond.code x code maxLocals ret :: tables_1) room_1) (lw_P b xs) (fun _ _ _ _ _ => True) lw_Q := by
  refine MetFree.of_bodyS (code := code) (maxLocals := maxLocals) (ret := ret) (by decide) ?_ ?_
  · intro args s m h hn
    obtain ⟨meth, c, h1, h2, h3, h4, h5, h6, -, -⟩ := Cond.code_spec hn (atoms_spec (ws := Jvm.Cond.code x code maxLocals ret :: tables_1) h _ List.mem_cons_self)
    exact ⟨meth, c, h1, h2, h3, h4, h5, h6⟩
  · intro p e s m args below meth c s₁ B hml0 hP _
    obtain ⟨rfl, hx, hbd, hgv⟩ := hP
    obtain ⟨scr, harrAt, hlist, hof, hsmall⟩ := hx
    obtain ⟨hcb, hkn, -, -⟩ := State.arrayAt?_spec harrAt
    have hown : s.vm.findClass R_law = some m.cls := findClass_of_methodNamed B.named
    have hts0 : ∀ c ∈ (Jvm.Cond.code x code maxLocals ret :: tables_1), c.before #[Value.ref b] s = true := atoms_spec (ws := Jvm.Cond.code x code maxLocals ret :: tables_1) B.pre
    have hts : ∀ w ∈ lw_tbl, w.before #[Value.ref b] s = true := k2_hts_sels lw_privs (fun w hw => hts0 w (List.mem_cons_of_mem _ hw)) lw_privs_ok
    have hml : c.maxLocals = 4 := B.maxLocals_eq (hts0 _ List.mem_cons_self)
    have X₀ : Stand p l e room_1 s m #[Value.ref b] below meth c s₁ [] 0 0 := Stand.of_body B
    have hh0 : s₁.heap = s.heap := by rw [B.state]; rfl
    have hsz : scr.slots.size = xs.length := by rw [← Array.length_toList, hlist, List.length_map]
    have hval : ∀ j : Nat, j < xs.length → scr.slots[j]? = some (.int (xs.getD j 0)) := fun j hj => by
      rw [← Array.getElem?_toList, hlist]
      simp [hj]
    have hbl : b < s.heap.size := (Array.getElem?_eq_some_iff.mp hcb).1
    have hX : va_X b xs.length (fun j => xs.getD j 0) s s.heap := ⟨scr, hcb, hof, hkn, hsz, hval⟩
    have K : W p l e room_1 s m #[Value.ref b] below meth c s₁.heap [] 0 0 (lw_Z below #[Value.ref b] s) (entryFrame m ([Value.ref b] : List Value).toArray 4) := by
      rw [hh0]
      exact whole_start l hflags hbd ⟨B.exec, B.bytes, B.returns, hml, hown, hts, hX, hbl, B.notSynchronized, hgv⟩
    obtain ⟨t, a1, o, b1, b2, b3⟩ := K s₁ rfl X₀
    exact ⟨t, o, a1, b1, b2, b3⟩
theorem lw_pre_spec {args : Array Value} {s : State} (h : (Jvm.Cond.and given_1 narrow_1).before args s = true) (hr : rest_1_c.before args s = true) : ∃ (b : Addr) (xs : List Int32), lw_P b xs args s := by
  have hs := flat_of_before _ h
  have hq := flat_of_before _ hr
  have hc : (Cond.count 1).before args s = true := hs _ (by decide +kernel)
  have harr : (Cond.arrayOf (.arg 0) .int).before args s = true := hs _ (by decide +kernel)
  have hle : (Cond.le (.length (.arg 0)) (.int 3072)).before args s = true := hs _ (by decide +kernel)
  have hlen : (Cond.isInt (.length (.arg 0))).before args s = true := hq _ (by decide +kernel)
  have hall : (Cond.all (.arg 0) (.isInt (.elem (.arg 0) (.index 0)))).before args s = true := hq _ (by decide +kernel)
  obtain ⟨b, xs, hb, hx⟩ := State.ints_of_pre rfl harr hlen hall
  have hsm : xs.length < 2 ^ 31 := hx.choose_spec.2.2.2
  have hev : (Term.length (.arg 0)).eval args s none [] s = some (.int xs.length.toInt32) := hx.length_eval hb
  have hv := Cond.le_ints hev (show (Term.int 3072).eval args s none [] s = some (.int 3072) from rfl)
  have hd : xs.length.toInt32 ≤ 3072 := by
    simpa [Cond.before, Cond.holds, hv] using hle
  have hN : xs.length ≤ 3072 := (Int32.ofNat_le_ofNat hsm (by decide)).mp (show Int32.ofNat xs.length ≤ Int32.ofNat 3072 from hd)
  exact ⟨b, xs, Cond.one_arg hc (show args[0]? = some (.ref b) from hb), hx, hN, h⟩
theorem lw_comes (l : Launch) (hflags : l.flags = flags0) : Comes l x (Jvm.Cond.code x code maxLocals ret :: tables_1) room_1 (fun tb e args s => Calls_1 tb e args s ∧ rest_1 tb e args s ∧ Pre_1 tb e args s)
    (fun _ _ args s o t => lw_Q args s o t) := by
  intro p e ha hc hk s m args below hf hfit hheap happ hpre
  obtain ⟨b, xs, hP⟩ := lw_pre_spec hpre.2.2 hpre.2.1
  obtain ⟨k, o, h1, h2, h3, hQ⟩ := lw_walk l hflags b xs p e ha hc hk s m args below hf ((Spec.applies_iff_loose hf).mp happ).1 hP trivial
  exact ⟨k, o, h1, h2, h3, hQ⟩
theorem lw_frame {s t : State} {o : Outcome} {args : Array Value} (h : Framed s o t [] 600000 7302250) :
    Framed s o t (fieldLocs frame_1_writes args s ++ arrayLocs frame_1_arrays args s ++ staticLocs frame_1_statics s) 600000 7302250 := h
theorem lw_limb (L : Cond) (hL : ∀ (args : Array Value) (s t : State), L.after args s (.returned (some (.int 1))) t = true) :
    ArmFor flags0 classFile x code maxLocals ret World_1 tables_1 room_1 Calls_1 rest_1 Pre_1
      (fun tb e a s o t => postC L tb e a s o t ∧ Framed s o t (fieldLocs frame_1_writes a s ++ arrayLocs frame_1_arrays a s ++ staticLocs frame_1_statics s) 600000 7302250) := by
  intro l hflags _ _ p e ha hc hk s m args below hf hfit hheap happ hpre
  obtain ⟨k, o, h1, h2, h3, rfl, hF⟩ := lw_comes l hflags p e ha hc hk s m args below hf hfit hheap happ hpre
  exact ⟨k, _, h1, h2, h3, hL args s _, lw_frame hF⟩
theorem i_vc : Claimed_1_1 ∧ Claimed_1_2 := ⟨lw_limb limb_1_1 (fun args s t => by simp [limb_1_1, Cond.after, Cond.holds, Cond.value]), lw_limb limb_1_2 (fun args s t => Cond.after_iff.mpr (by
  first | (rw [show limb_1_2 = Cond.eq .result (.int 1) from rfl, Cond.eq_ints (x := 1) (y := 1) rfl rfl]; simp; done) | (simp [limb_1_2, Cond.value, Term.eval]; done)))⟩
