/-! THE CLAIM OUT OF ONE WALK OF THE LAW'S BODY. Your part is whole_start (and what it stands on); all else here is the same for every law, but numbers. -/
def R_law : String := "TreeTonguesLaw"
def lw_P (b : Addr) (xs : List Int32) (args : Array Value) (s : State) : Prop := args = #[.ref b] ∧ s.IntsAt b xs ∧ xs.length ≤ 3072 ∧ (Jvm.Cond.and given_1 narrow_1).before args s = true
def lw_Q (_ : Array Value) (s : State) (o : Outcome) (t : State) : Prop := o = .returned (some (.int 1)) ∧ Framed s o t [] 600000 7302249
def lw_Z (below : List Frame) (a : Array Value) (s : State) : State → Prop := fun t => ∃ o, t.status = .running ∧ Ended t below o ∧ lw_Q a s o t
/-- the law's own end, with 1 on the stack, nothing written that was there before, its room as the claim has it -/
theorem lw_ret {p : Program} {l : Launch} {e : Jvm.Env} {s : State} {m : MethodId} {below : List Frame} {meth : Method} {c : Code} {b : Nat} (hx : p.tables.exec = Jvm.exec) (hb : c.code = code) (hr : meth.sig.returnType = ret) (hlocks : meth.locks = false) {pc : Nat} {H : Heap} {ls : Array Slot} (hdg : decode code pc = .ok (.ireturn, 1)) : W p l e room_1 s m #[Value.ref b] below meth c H [] 600000 7302249 (lw_Z below #[Value.ref b] s) (F0 m pc ls [.int 1]) := by
  intro T hT X
  obtain ⟨fs, hret, hrun, hended, hW, hframe⟩ := X.leave (v := some (.int 1)) (hlocks := hlocks) (fun h => by rw [hr] at h; cases h)
  have hmeth' : T.vm.method? m = some meth := X.method'
  refine ⟨T.setFrames fs, ?_, .returned (some (.int 1)), hrun, hended, rfl, ⟨_, rfl⟩, hW, hframe⟩
  jvm_step X.here [X.here.top, hx, hb, hdg, hmeth', hr, ret, narrow_b1]
  (try refine ⟨rfl, ?_⟩); (try refine ⟨rfl, ?_⟩)
  first | (intro acts; rw [hret _ acts rfl rfl rfl]) | rw [hret _ _ rfl rfl rfl]
  exact Steps.refl _
/-- what holds at the law's entry: the machine, the code, the tables' words (any of lw_tbl by 'hts w (by decide +kernel)'), the script of L ints xs at the cell b, what the Statement gives of the start (any of its parts by flat_of_before) -/
def lw_At (p : Program) (s : State) (m : MethodId) (meth : Method) (c : Code) (b L : Nat) (xs : Nat → Int32) : Prop :=
  p.tables.exec = Jvm.exec ∧ c.code = code ∧ meth.sig.returnType = ret ∧ c.maxLocals = 4 ∧ s.vm.findClass R_law = some m.cls ∧ (∀ w ∈ lw_tbl, w.before #[Value.ref b] s = true) ∧ va_X b L xs s s.heap ∧ b < s.heap.size ∧ meth.locks = false ∧ (Jvm.Cond.and given_1 narrow_1).before #[Value.ref b] s = true
-- ===== YOUR PART BEGINS =====
/-- the memory at the law's entry: nothing but the script -/
def M0 (L : Nat) (xs : Nat → Int32) : Mem := (fun a i => if a = 1000001 then (xs i.toNat).toInt else 0, fun a => if a = 1000001 then (20, L) else (99, 0), 0)
theorem okM0 (L : Nat) (xs : Nat → Int32) : okM (M0 L xs) := by
  have h : ∀ a, ¬ ((M0 L xs).2.1 a).1 < 15 := by
    intro a
    show ¬ (if a = 1000001 then (20, L) else (99, 0) : Nat × Nat).1 < 15
    split
    · show ¬ 20 < 15; decide
    · show ¬ 99 < 15; decide
  exact ⟨by show 0 ≤ 900000; decide, fun a ha => absurd ha (h a), fun a ha => absurd ha (h a)⟩
theorem good_in {w : Jvm.Cond} (h : w ∈ lw_good) : w ∈ lw_tbl := (List.mem_filter.mp h).1
set_option maxHeartbeats 4000000 in
set_option maxRecDepth 100000 in
/-- from the entry, for every script of at most 3072 ints, the law comes to its end with true -/
theorem whole_start {p : Program} {e : Jvm.Env} {s : State} {m : MethodId} {below : List Frame} {meth : Method} {c : Code} (l : Launch) {b L : Nat} {xs : Nat → Int32} (hL : L ≤ 3072) (C0 : lw_At p s m meth c b L xs) : W p l e room_1 s m #[Value.ref b] below meth c s.heap [] 0 0 (lw_Z below #[Value.ref b] s) (entryFrame m ([Value.ref b] : List Value).toArray 4) := by
  obtain ⟨hx, hb, hr, hml, hown, hts, hX, hbl, hlocks, hgv⟩ := id C0
  have hg : ∀ w ∈ lw_good, w.before #[Value.ref b] s = true := fun w h => hts w (good_in h)
  obtain ⟨c0, i0, h0⟩ := u_known (C := RX0) (T := TX0) (N := 4) (n := 4) hg iX0 (hg _ cK0.2.2.2.2.1)
  obtain ⟨c1, i1, h1⟩ := u_known (C := RX1) (T := TX1) (N := 14) (n := 14) hg iX1 (hg _ cK1.2.2.2.2.1)
  obtain ⟨c2, i2, h2⟩ := u_known (C := RX2) (T := TX2) (N := 6) (n := 6) hg iX2 (hg _ cK2.2.2.2.2.1)
  obtain ⟨c3, i3, h3⟩ := u_known (C := RX3) (T := TX3) (N := 17) (n := 17) hg iX3 (hg _ cK3.2.2.2.2.1)
  obtain ⟨c4, i4, h4⟩ := u_known (C := RX4) (T := TX4) (N := 5) (n := 5) hg iX4 (hg _ cK4.2.2.2.2.1)
  obtain ⟨c5, i5, h5⟩ := u_known (C := RX5) (T := TX5) (N := 3) (n := 3) hg iX5 (hg _ cK5.2.2.2.2.1)
  obtain ⟨c6, i6, h6⟩ := u_known (C := RX6) (T := TX6) (N := 2) (n := 2) hg iX6 (hg _ cK6.2.2.2.2.1)
  obtain ⟨c7, i7, h7⟩ := u_known (C := RX7) (T := TX7) (N := 8) (n := 8) hg iX7 (hg _ cK7.2.2.2.2.1)
  obtain ⟨c8, i8, h8⟩ := u_known (C := RX8) (T := TX8) (N := 8) (n := 8) hg iX8 (hg _ cK8.2.2.2.2.1)
  obtain ⟨c9, i9, h9⟩ := u_known (C := RX9) (T := TX9) (N := 54) (n := 54) hg iX9 (hg _ cK9.2.2.2.2.1)
  obtain ⟨dC, dI, hKc⟩ : ∃ (dC : Nat → ClassId) (dI : Nat → Nat → Nat), ∀ (k : Nat) (q : vw_C), vwCl[k]? = some q → u_Kn s q.1 q.2.1 q.2.2 (dC k) (dI k) := by
    refine ⟨fun k => [c0, c1, c2, c3, c4, c5, c6, c7, c8, c9].getD k c0, fun k => [i0, i1, i2, i3, i4, i5, i6, i7, i8, i9].getD k i0, ?_⟩
    intro k q hq
    match k, hq with
    | 0, hq => cases hq; exact h0
    | 1, hq => cases hq; exact h1
    | 2, hq => cases hq; exact h2
    | 3, hq => cases hq; exact h3
    | 4, hq => cases hq; exact h4
    | 5, hq => cases hq; exact h5
    | 6, hq => cases hq; exact h6
    | 7, hq => cases hq; exact h7
    | 8, hq => cases hq; exact h8
    | 9, hq => cases hq; exact h9
    | k + 10, hq => simp [vwCl] at hq
  have arr : ∀ ty : FieldType, (Jvm.Cond.arrayClass ty).before #[Value.ref b] s = true → ∃ cA : ClassId, ArrOfT s cA ty ∧ s.vm.findClass ("[" ++ ty.toString) = some cA := by
    intro ty h
    obtain ⟨cA, kA, comp, f1, f2, f3⟩ := Cond.arrayClass_spec h
    exact ⟨cA, fun n z => ⟨(fun k h => by cases h), kA, f2, comp, f3⟩, f1⟩
  have arq : ∀ C : String, (Jvm.Cond.arrayOver (.object C)).before #[Value.ref b] s = true → ∃ cA : ClassId, ArrOfT s cA (.object C) ∧ va_RA s cA (.object C) := by
    intro C h
    obtain ⟨comp, cA, kA, f1, f2, f3, f4, f5⟩ := Cond.arrayOver_spec h
    exact ⟨cA, fun n z => ⟨(fun k h => by cases h), kA, f3, comp, f4⟩, kA, comp, f3, f4, f1, f5⟩
  have wS : (Jvm.Cond.arrayOver (.object "TreeTongues$Step")).before #[Value.ref b] s = true := hts _ (by decide +kernel)
  have wT : (Jvm.Cond.arrayOver (.object "TreeTongues$Tongue")).before #[Value.ref b] s = true := hts _ (by decide +kernel)
  obtain ⟨kI, aI, rI⟩ := arr .int (hts _ (by decide +kernel))
  obtain ⟨kJ, aJ, rJ⟩ := arr .long (hts _ (by decide +kernel))
  obtain ⟨kZ, aZ, rZ⟩ := arr .boolean (hts _ (by decide +kernel))
  obtain ⟨kS, aS, rS⟩ := arq _ wS
  obtain ⟨kT, aT, rT⟩ := arq _ wT
  have hfl := flat_of_before _ hgv
  have hnA : ∀ a : Nat, a < s.heap.size → ¬ (fun q : Nat => s.heap.size ≤ q) a := fun a h => Nat.not_le.mpr h
  obtain ⟨tW, hev, hTW⟩ := va_Tof (args := #[Value.ref b]) (s := s) (tm := .static "TreeTongues" "WAYS" "[I") (ty := .int) (N := 4) (f := fun j => .int (Int32.ofInt (wayL.getD j 0))) (A := fun q : Nat => s.heap.size ≤ q) (by decide) (hfl _ (by decide +kernel)) (va_eqt (hfl _ (by decide +kernel)))
    (fun j hj => by
      match j, hj with
      | 0, _ => exact va_eqt (z := 14) (hfl _ (by decide +kernel))
      | 1, _ => exact va_eqt (z := 8) (hfl _ (by decide +kernel))
      | 2, _ => exact va_eqt (z := 2) (hfl _ (by decide +kernel))
      | 3, _ => exact va_eqt (z := 6) (hfl _ (by decide +kernel))
      | j + 4, h => omega) hnA
  have hZW := va_Zref (args := #[Value.ref b]) (s := s) (C := "TreeTongues") (n := "WAYS") (d := "[I") (t := tW) (A := fun q : Nat => s.heap.size ≤ q) (hts _ (by decide +kernel)) (hts _ (by decide +kernel)) hev hnA
  obtain ⟨x, hD, hx1⟩ := law_ok L xs hL
  have hRn := rn_law (d := 1000) (by decide) hD
  have hl := lv_entry ([.ref b]) (n := 4) (Nat.le_of_ble_eq_true rfl)
  rw [lg_entry_eq]
  generalize (lg_sl ([.ref b]) ++ List.replicate (4 - (lg_sl ([.ref b])).length) Slot.unset).toArray = ls at hl ⊢
  obtain ⟨G, hG⟩ : ∃ G : GG, G = ((dC, dI), (fun k => if k = 10 then kI else if k = 11 then kJ else if k = 12 then kZ else if k = 13 then kS else kT), s.heap.size, tW, b, L, xs) := ⟨_, rfl⟩
  have e1 : gB G = s.heap.size := by rw [hG]; rfl
  have e2 : gA G = fun q : Nat => s.heap.size ≤ q := by rw [hG]; rfl
  have e3 : cv G (2, 1000001) = .ref b := by rw [hG]; rfl
  refine hRn G p l e room_1 s m #[Value.ref b] below meth c s.heap [] ls (lw_Z below #[Value.ref b] s) ⟨hx, hb, hml, hown, hg, ⟨?_, va_AO.of wS, va_AO.of wT, ?_, ?_, ?_, by rw [e1]; exact Nat.le_refl _, ?_, ?_, ?_⟩, ?_, by decide, by decide, by decide, by decide⟩ (okL_c (show okV (2, 1000001) from trivial) okL_n) okS_n ⟨okM0 L xs, by rw [e1]; rfl, ?_, va_S.rf, ?_⟩ ?_ ?_
  · rw [hG]
    refine ⟨hKc, fun k q hk => ?_⟩
    match k, hk with
    | 0, hk => cases hk; exact ⟨aI, rI⟩
    | 1, hk => cases hk; exact ⟨aJ, rJ⟩
    | 2, hk => cases hk; exact ⟨aZ, rZ⟩
    | 3, hk => cases hk; exact ⟨aS, rS⟩
    | 4, hk => cases hk; exact ⟨aT, rT⟩
    | k + 5, hk => simp [tysG] at hk
  · intro q hq
    refine va_Nw.of (A := #[Value.ref b]) rfl (hts _ ?_)
    have hall : ∀ q ∈ nests, Jvm.Cond.methodLinkNest q.1 q.2.1 q.2.2 "TreeTongues" ∈ lw_tbl := by decide +kernel
    exact hall q hq
  · rw [e2, hG]; exact hZW
  · rw [e2, hG]; exact hTW
  · rw [hG]; exact hX
  · rw [e1, hG]; exact hbl
  · rw [hG]; show L < 2147483648; omega
  · intro hn; exact absurd hn (by decide)
  · intro k q hk
    have : k < (M0 L xs).2.2 := (ws_lt G hk).1
    exact absurd this (Nat.not_lt_zero k)
  · rw [hG]
    refine ⟨rfl, fun i hi => ?_⟩
    show (if (1000001 : Int) = 1000001 then (xs (i : Int).toNat).toInt else 0) = _
    rw [if_pos rfl, Int.toNat_natCast]
  · have : ([(0, (2, 1000001))] : List (Nat × V)).map (fun q => (q.1, cv G q.2)) = [(0, .ref b)] := by
      show [(0, cv G (2, 1000001))] = _
      rw [e3]
    rw [this]
    exact hl
  · intro H' locs' pc' ls' hR hok hrt hd
    refine va_forget (fun q hq => ?_) ?_
    · have := hR.2.2.2.1.2.2 q hq
      rw [e2] at this
      exact this
    · show W p l e room_1 s m #[Value.ref b] below meth c H' [] 600000 7302249 _ (F0 m pc' ls' [.int (Int32.ofInt x.1)])
      rw [hx1]
      exact lw_ret hx hb hr hlocks hd

-- ===== YOUR PART ENDS =====
set_option maxHeartbeats 4000000 in
theorem lw_walk (l : Launch) (b : Addr) (xs : List Int32) : MetFree l x (headSpec (Jvm.Cond.code x code maxLocals ret :: tables_1) room_1) (lw_P b xs) (fun _ _ _ _ _ => True) lw_Q := by
  refine MetFree.of_bodyS (code := code) (maxLocals := maxLocals) (ret := ret) (by decide) ?_ ?_
  · intro args s m h hn
    obtain ⟨meth, c, h1, h2, h3, h4, h5, h6, -, -⟩ := Cond.code_spec hn (atoms_spec (ws := Jvm.Cond.code x code maxLocals ret :: tables_1) h _ List.mem_cons_self)
    exact ⟨meth, c, h1, h2, h3, h4, h5, h6⟩
  · intro p e s m args below meth c s₁ B hml0 hP _
    obtain ⟨rfl, hx, hbd, hgv⟩ := hP
    obtain ⟨scr, harrAt, hlist, hof, hsmall⟩ := hx
    obtain ⟨hcb, hkn, -, -⟩ := State.arrayAt?_spec harrAt
    have hown : s.vm.findClass R_law = some m.cls := findClass_of_methodNamed B.named
    have hts0 : ∀ c ∈ (Jvm.Cond.code x code maxLocals ret :: tables_1), c.before #[Value.ref b] s = true := atoms_spec (ws := Jvm.Cond.code x code maxLocals ret :: tables_1) B.pre
    have hts : ∀ w ∈ lw_tbl, w.before #[Value.ref b] s = true := k2_hts_sels lw_privs (fun w hw => hts0 w (List.mem_cons_of_mem _ hw)) lw_privs_ok
    have hml : c.maxLocals = 4 := B.maxLocals_eq (hts0 _ List.mem_cons_self)
    have X₀ : Stand p l e room_1 s m #[Value.ref b] below meth c s₁ [] 0 0 := Stand.of_body B
    have hh0 : s₁.heap = s.heap := by rw [B.state]; rfl
    have hsz : scr.slots.size = xs.length := by rw [← Array.length_toList, hlist, List.length_map]
    have hval : ∀ j : Nat, j < xs.length → scr.slots[j]? = some (.int (xs.getD j 0)) := fun j hj => by
      rw [← Array.getElem?_toList, hlist]
      simp [hj]
    have hbl : b < s.heap.size := (Array.getElem?_eq_some_iff.mp hcb).1
    have hX : va_X b xs.length (fun j => xs.getD j 0) s s.heap := ⟨scr, hcb, hof, hkn, hsz, hval⟩
    have K : W p l e room_1 s m #[Value.ref b] below meth c s₁.heap [] 0 0 (lw_Z below #[Value.ref b] s) (entryFrame m ([Value.ref b] : List Value).toArray 4) := by
      rw [hh0]
      exact whole_start l hbd ⟨B.exec, B.bytes, B.returns, hml, hown, hts, hX, hbl, B.notSynchronized, hgv⟩
    obtain ⟨t, a1, o, b1, b2, b3⟩ := K s₁ rfl X₀
    exact ⟨t, o, a1, b1, b2, b3⟩
theorem lw_pre_spec {args : Array Value} {s : State} (h : (Jvm.Cond.and given_1 narrow_1).before args s = true) (hr : rest_1_c.before args s = true) : ∃ (b : Addr) (xs : List Int32), lw_P b xs args s := by
  have hs := flat_of_before _ h
  have hq := flat_of_before _ hr
  have hc : (Cond.count 1).before args s = true := hs _ (by decide +kernel)
  have harr : (Cond.arrayOf (.arg 0) .int).before args s = true := hs _ (by decide +kernel)
  have hle : (Cond.le (.length (.arg 0)) (.int 3072)).before args s = true := hs _ (by decide +kernel)
  have hlen : (Cond.isInt (.length (.arg 0))).before args s = true := hq _ (by decide +kernel)
  have hall : (Cond.all (.arg 0) (.isInt (.elem (.arg 0) (.index 0)))).before args s = true := hq _ (by decide +kernel)
  obtain ⟨b, xs, hb, hx⟩ := State.ints_of_pre rfl harr hlen hall
  have hsm : xs.length < 2 ^ 31 := hx.choose_spec.2.2.2
  have hev : (Term.length (.arg 0)).eval args s none [] s = some (.int xs.length.toInt32) := hx.length_eval hb
  have hv := Cond.le_ints hev (show (Term.int 3072).eval args s none [] s = some (.int 3072) from rfl)
  have hd : xs.length.toInt32 ≤ 3072 := by
    simpa [Cond.before, Cond.holds, hv] using hle
  have hN : xs.length ≤ 3072 := (Int32.ofNat_le_ofNat hsm (by decide)).mp (show Int32.ofNat xs.length ≤ Int32.ofNat 3072 from hd)
  exact ⟨b, xs, Cond.one_arg hc (show args[0]? = some (.ref b) from hb), hx, hN, h⟩
theorem lw_comes (l : Launch) : Comes l x (Jvm.Cond.code x code maxLocals ret :: tables_1) room_1 (fun tb e args s => Calls_1 tb e args s ∧ rest_1 tb e args s ∧ Pre_1 tb e args s)
    (fun _ _ args s o t => lw_Q args s o t) := by
  intro p e ha hc hk s m args below hf hfit hheap happ hpre
  obtain ⟨b, xs, hP⟩ := lw_pre_spec hpre.2.2 hpre.2.1
  obtain ⟨k, o, h1, h2, h3, hQ⟩ := lw_walk l b xs p e ha hc hk s m args below hf ((Spec.applies_iff_loose hf).mp happ).1 hP trivial
  exact ⟨k, o, h1, h2, h3, hQ⟩
theorem lw_frame {s t : State} {o : Outcome} {args : Array Value} (h : Framed s o t [] 600000 7302249) :
    Framed s o t (fieldLocs frame_1_writes args s ++ arrayLocs frame_1_arrays args s ++ staticLocs frame_1_statics s) 600000 7302249 := h
theorem lw_limb (L : Cond) (hL : ∀ (args : Array Value) (s t : State), L.after args s (.returned (some (.int 1))) t = true) :
    ArmFor flags0 classFile x code maxLocals ret World_1 tables_1 room_1 Calls_1 rest_1 Pre_1
      (fun tb e a s o t => postC L tb e a s o t ∧ Framed s o t (fieldLocs frame_1_writes a s ++ arrayLocs frame_1_arrays a s ++ staticLocs frame_1_statics s) 600000 7302249) := by
  intro l _ _ _ p e ha hc hk s m args below hf hfit hheap happ hpre
  obtain ⟨k, o, h1, h2, h3, rfl, hF⟩ := lw_comes l p e ha hc hk s m args below hf hfit hheap happ hpre
  exact ⟨k, _, h1, h2, h3, hL args s _, lw_frame hF⟩
theorem i_vc : Claimed_1_1 ∧ Claimed_1_2 := ⟨lw_limb limb_1_1 (fun args s t => by simp [limb_1_1, Cond.after, Cond.holds, Cond.value]), lw_limb limb_1_2 (fun args s t => Cond.after_iff.mpr (by
  first | (rw [show limb_1_2 = Cond.eq .result (.int 1) from rfl, Cond.eq_ints (x := 1) (y := 1) rfl rfl]; simp; done) | (simp [limb_1_2, Cond.value, Term.eval]; done)))⟩
