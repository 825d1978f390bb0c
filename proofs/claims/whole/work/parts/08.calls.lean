/-! contracts, calls, ends -/
def rmD (d mc ms : Nat) : Room := { frames := d, cells := mc, slots := ms, locals := 60 * d }
def wsY (Y : YY) : List Cond := Jvm.Cond.code Y.1 Y.2.1 Y.2.2.1 Y.2.2.2 :: lw_good
def PcG (G : GG) (As : List V) (M : Mem) : Array Value → State → Prop := va_Pc (As.map (cv G)) (fun U => okM M ∧ okS As ∧ U.heap.size = gB G + M.2.2 ∧ va_P G.1 vwCl (wsG G M) U.heap ∧ Scr G M ∧ St G U)
def QcG (G : GG) (res : Option V × Mem) : Array Value → State → Outcome → State → Prop := fun _ st oc t => oc = .returned (res.1.map (cv G)) ∧ okM res.2 ∧ okR res.1 ∧ t.heap.size = gB G + res.2.2.2 ∧ va_P G.1 vwCl (wsG G res.2) t.heap ∧ Scr G res.2 ∧ va_F (gA G) st t
def Ct (d : Nat) (Y : YY) (As : List V) (M : Mem) (res : Option V × Mem) (mc ms : Nat) : Prop := ∀ (l : Launch) (G : GG), Met l Y.1 (wsY Y) (rmD d mc ms) (PcG G As M) (QcG G res) mc ms (gA G)
/-- what the tables say of a method -/
def YK (Y : YY) : Prop := Jvm.Cond.code Y.1 Y.2.1 Y.2.2.1 Y.2.2.2 ∈ lw_good ∧ Jvm.Cond.initialized Y.1.cls ∈ lw_good ∧ (Y.1.cls ≠ "java/lang/invoke/MethodHandle" ∧ Y.1.cls ≠ "java/lang/invoke/VarHandle") ∧ plainName Y.1.cls = true ∧ Y.2.2.1 ≤ 40
theorem good_all : ∀ w ∈ lw_good, (w.onTables && w.keeps) = true ∨ ∃ ty, w = .arrayClass ty := fun w h => good_of_word (List.mem_filter.mp h).2
theorem goodY {Y : YY} (hY : YK Y) : GoodIn lw_good (wsY Y) := by
  intro w hw
  have : w ∈ lw_good := (List.mem_cons.mp hw).elim (fun e => e ▸ hY.1) id
  exact ⟨this, good_all w this⟩
theorem St_moved {G : GG} {s U : State} {H : Heap} {locs : List Loc} (hW : s.WarmedH U.vm) (hS : va_S (gA G) s.heap H locs) (hU : U.heap = H) (h : St G s) : St G U := by
  obtain ⟨h1, h2, h3, h4, h5, h6, h7, h8, h9, h10⟩ := h
  have ha := hW.alike
  refine ⟨va_K.moved ha h1, va_AO.moved ha h2, va_AO.moved ha h3, fun q hq => va_Nw.warmM hW (h4 q hq), ?_, ?_, ?_, ?_, h9, h10⟩
  · rw [hU]; exact (va_Z.moved ha h5).kept hS.2.1
  · rw [hU]; exact (va_T.moved ha h6).kept hS.2.1
  · rw [hU]; exact Nat.le_trans h7 hS.1
  · rw [hU]; exact (va_X.moved ha h8).kept (hS.2.1 _ (Nat.lt_of_lt_of_le h9 h7) (Nat.not_le.mpr h9))
theorem Pc_blind (G : GG) (As : List V) (M : Mem) : FrameBlind (PcG G As M) := by
  intro a U g mk h
  obtain ⟨h0, h1, h2, h3, h4, h5, g1, g2, g3, g4, g5, g6, g7, g8, g9⟩ := h
  have e : U.vm = (U.calling g mk a).vm := rfl
  refine ⟨h0, h1, h2, h3, h4, h5, va_K.moved (u := U) (U := U.calling g mk a) (Vm.Alike.refl U.vm) g1, va_AO.moved (u := U) (U := U.calling g mk a) (Vm.Alike.refl U.vm) g2, va_AO.moved (u := U) (U := U.calling g mk a) (Vm.Alike.refl U.vm) g3, fun q hq => va_Nw.same rfl e (g4 q hq), va_Z.moved (u := U) (U := U.calling g mk a) (Vm.Alike.refl U.vm) g5, va_T.moved (u := U) (U := U.calling g mk a) (Vm.Alike.refl U.vm) g6, g7, va_X.moved (u := U) (U := U.calling g mk a) (Vm.Alike.refl U.vm) g8, g9⟩
section CALLS
variable {Y : YY} {d mc ms ca sl : Nat} {res : Option V × Mem} {pc : Nat} {lv : List (Nat × V)} {st : List V} {M : Mem}
/-- behind a call -/
theorem call_on {G : GG} {p : Program} {l : Launch} {e : Env} {R : Room} {s : State} {m : MethodId} {args : Array Value} {below : List Frame} {meth : Method} {c : Code} {H : Heap} {locs : List Loc} {ls : Array Slot} {Q : State → Prop} {mc' ms' : Nat} {r2 : Option V × Mem} {a : Array Value} {st0 : List Value}
    (hr : va_Run p l e R s m args below meth c H locs ca sl mc' ms' (F0 m pc ls st0) (st.map (cv G)) (QcG G r2 a) (gA G)) (hR : Rel G M s H locs)
    (kk : ∀ (H1 : Heap) (locs1 : List Loc), okR r2.1 → Rel G r2.2 s H1 locs1 → W p l e R s m args below meth c H1 locs1 (ca + mc') (sl + ms') Q (F0 m (pc + 3) ls ((r2.1.toList ++ st).map (cv G)))) : W p l e R s m args below meth c H locs ca sl Q (F0 m pc ls st0) := by
  intro T hT X
  obtain ⟨v, st₀, t, T', L, h0, X', hL, e1, e2, ⟨hv, q1, q2, q3, q4, q5, hz, hk⟩, stp⟩ := hr T hT X
  have hS := hR.2.2.2.1
  rw [h0] at hz hk
  have hv2 : v = r2.1.map (cv G) := Outcome.returned.inj hv
  subst hv2
  obtain ⟨t2, a1, b1⟩ := kk T'.heap (locs ++ L) q2 ⟨q1, by rw [e1]; exact q3, by rw [e1]; exact q4, ⟨Nat.le_trans hS.1 (by rw [e1]; exact hz), fun q h1 h2 => by rw [e1, hk q (Nat.lt_of_lt_of_le h1 hS.1) h2]; exact hS.2.1 q h1 h2, fun q hq => by
      rcases List.mem_append.mp hq with h | h
      · exact hS.2.2 q h
      · exact hL q h⟩, q5⟩ T' rfl X'
  refine ⟨t2, stp t2 ?_, b1⟩
  rw [List.map_append] at a1
  cases h : r2.1 with
  | none => rw [h] at a1; exact a1
  | some w => rw [h] at a1; exact a1
theorem cat_sum {G : GG} {st : List V} : ((st.map (cv G)).map fun v => v.category).sum = (st.map fun v => if v.1 == 1 then 2 else 1).sum := by
  induction st with
  | nil => rfl
  | cons v st ih =>
    rw [List.map_cons, List.map_cons, List.map_cons, List.sum_cons, List.sum_cons, ih]
    congr 1
    cases h : v.1 == 1 with
    | false => rw [cat1 h]; rfl
    | true =>
      have h1 := cv_cat G v
      rw [h] at h1
      simpa using h1
theorem r_callV {Y2 : YY} {i n ci N d2 mc' ms' : Nat} {T : u_T} {As : List V} {a : Int} {r2 : Option V × Mem} (hd : decode Y.2.1 pc = .ok (.invokevirtual i, 3)) (hY : YK Y2) (hci : ci < 10) (hcl : vwCl[ci]? = some (Y2.1.cls, T, N)) (hw : Jvm.Cond.methodLink Y.1.cls i Y2.1 ∈ lw_good ∧ Jvm.Cond.instanceMethod Y2.1 ∈ lw_good ∧ Jvm.Cond.selects Y2.1.cls Y2.1 Y2.1 ∈ lw_good) (hn : (parseMethodDescriptor Y2.1.desc).map (fun d => d.parameters.length) = some n) (hAn : As.length = n) (hdd : d2 + 1 ≤ d) (hck : ck M a ci N = some ()) (hCt : Ct d2 Y2 ((2, a) :: As) M r2 mc' ms') (hst : (st.map fun v => if v.1 == 1 then 2 else 1).sum ≤ 8) (hca : ca + mc' ≤ mc) (hsl : sl + ms' ≤ ms) {st1 : List V} (hst1 : As.reverse ++ (2, a) :: st = st1)
    (kk : Rn Y d mc ms (ca + mc') (sl + ms') res (pc + 3) lv (r2.1.toList ++ st) r2.2) : Rn Y d mc ms ca sl res pc lv st1 M := by
  intro G p l e R s m args below meth c H locs ls Q hC hl hs hR hv hf
  subst hst1
  have hka : M.2.1 a = (ci, N) := by
    unfold ck at hck
    split at hck
    · assumption
    · cases hck
  obtain ⟨h1, h2, h3⟩ := obj_at (G := G) hR.1 hka hci
  have hts := hC.2.2.2.2.1
  have hRm := hC.2.2.2.2.2.2.2
  have hS := hC.2.2.2.2.2.1
  have hsA : okS As := fun q hq => hs q (List.mem_append_left _ (List.mem_reverse.mpr hq))
  have hs2 : okS st := fun q hq => hs q (List.mem_append_right _ (List.mem_cons_of_mem _ hq))
  rw [List.map_append, List.map_reverse, List.map_cons, show cv G (2, a) = va_rf (rfO G a) from rfl, h2]
  have hargs : (Value.ref (gB G + a.toNat) :: As.map (cv G)) = ((2, a) :: As).map (cv G) := by
    rw [List.map_cons, show cv G (2, a) = va_rf (rfO G a) from rfl, h2]; rfl
  refine call_on (va_runV (C := Y2.1.cls) (As := As.map (cv G)) (n := n) ⟨hC.1, hC.2.1, hC.2.2.1, hC.2.2.2.1, hts⟩ (hCt l G) ⟨callB_of n hts (goodY hY) rfl rfl rfl (hts _ hY.2.1) (hts _ hw.1) ⟨hY.2.2.1.1, hY.2.2.1.2, hn⟩ ⟨by show d2 + 1 ≤ _; omega, by show 8 + (_ + 11) + 60 * d2 ≤ _; have := hY.2.2.2.2; omega⟩, hts _ hw.2.1, hts _ hw.2.2⟩ ⟨Pc_blind G _ M, va_recv hS.1 hR.2.2.1 hcl h1, fun U hU hW => ⟨by rw [hargs], hR.1, okS_c trivial hsA, by rw [hU]; exact hR.2.1, by rw [hU]; exact hR.2.2.1, hR.2.2.2.2, St_moved hW hR.2.2.2.1 hU hS⟩⟩ rfl (by rw [List.length_map]; exact hAn) hv.1 rfl (lv_room (by rw [cat_sum]; exact hst)) hd ⟨by omega, by omega⟩) hR (fun H1 locs1 hok hR1 => ?_)
  exact kk G p l e R s m args below meth c H1 locs1 ls Q hC hl (fun q hq => (List.mem_append.mp hq).elim (fun h => hok q (by simpa using h)) (hs2 q)) hR1 hv hf
theorem r_callS {Y2 : YY} {i n d2 mc' ms' : Nat} {As : List V} {r2 : Option V × Mem} (hd : decode Y.2.1 pc = .ok (.invokestatic i, 3)) (hY : YK Y2) (hw : Jvm.Cond.methodLink Y.1.cls i Y2.1 ∈ lw_good ∧ Jvm.Cond.static Y2.1 ∈ lw_good) (hn : (parseMethodDescriptor Y2.1.desc).map (fun d => d.parameters.length) = some n) (hAn : As.length = n) (hdd : d2 + 1 ≤ d) (hCt : Ct d2 Y2 As M r2 mc' ms') (hst : (st.map fun v => if v.1 == 1 then 2 else 1).sum ≤ 8) (hca : ca + mc' ≤ mc) (hsl : sl + ms' ≤ ms) {st1 : List V} (hst1 : As.reverse ++ st = st1)
    (kk : Rn Y d mc ms (ca + mc') (sl + ms') res (pc + 3) lv (r2.1.toList ++ st) r2.2) : Rn Y d mc ms ca sl res pc lv st1 M := by
  intro G p l e R s m args below meth c H locs ls Q hC hl hs hR hv hf
  subst hst1
  have hts := hC.2.2.2.2.1
  have hRm := hC.2.2.2.2.2.2.2
  have hS := hC.2.2.2.2.2.1
  have hsA : okS As := fun q hq => hs q (List.mem_append_left _ (List.mem_reverse.mpr hq))
  have hs2 : okS st := fun q hq => hs q (List.mem_append_right _ hq)
  rw [List.map_append, List.map_reverse]
  refine call_on (va_runS (As := As.map (cv G)) (n := n) ⟨hC.1, hC.2.1, hC.2.2.1, hC.2.2.2.1, hts⟩ (hCt l G) ⟨callB_of n hts (goodY hY) rfl rfl rfl (hts _ hY.2.1) (hts _ hw.1) ⟨hY.2.2.1.1, hY.2.2.1.2, hn⟩ ⟨by show d2 + 1 ≤ _; omega, by show 8 + (_ + 11) + 60 * d2 ≤ _; have := hY.2.2.2.2; omega⟩, hts _ hw.2⟩ ⟨Pc_blind G _ M, fun U hU hW => ⟨rfl, hR.1, hsA, by rw [hU]; exact hR.2.1, by rw [hU]; exact hR.2.2.1, hR.2.2.2.2, St_moved hW hR.2.2.2.1 hU hS⟩⟩ rfl (by rw [List.length_map]; exact hAn) hv.1 rfl (lv_room (by rw [cat_sum]; exact hst)) hd ⟨by omega, by omega⟩) hR (fun H1 locs1 hok hR1 => ?_)
  exact kk G p l e R s m args below meth c H1 locs1 ls Q hC hl (fun q hq => (List.mem_append.mp hq).elim (fun h => hok q (by simpa using h)) (hs2 q)) hR1 hv hf
/-- a constructor: linked plainly, or by a nest mate -/
theorem r_callI {Y2 : YY} {i n ci N d2 mc' ms' : Nat} {T : u_T} {As : List V} {a : Int} {r2 : Option V × Mem} (hd : decode Y.2.1 pc = .ok (.invokespecial i, 3)) (hY : YK Y2) (hret : Y2.2.2.2 = none) (hnm : Y2.1.name = "<init>") (hci : ci < 10) (hcl : vwCl[ci]? = some (Y2.1.cls, T, N)) (hin : Jvm.Cond.instanceMethod Y2.1 ∈ lw_good) (hw : Jvm.Cond.methodLink Y.1.cls i Y2.1 ∈ lw_good ∨ (Y.1.cls, i, Y2.1) ∈ nests) (hn : (parseMethodDescriptor Y2.1.desc).map (fun d => d.parameters.length) = some n) (hAn : As.length = n) (hdd : d2 + 1 ≤ d) (hck : ck M a ci N = some ()) (hCt : Ct d2 Y2 ((2, a) :: As) M r2 mc' ms') (hst : (st.map fun v => if v.1 == 1 then 2 else 1).sum ≤ 8) (hca : ca + mc' ≤ mc) (hsl : sl + ms' ≤ ms) {st1 : List V} (hst1 : As.reverse ++ (2, a) :: st = st1)
    (kk : Rn Y d mc ms (ca + mc') (sl + ms') res (pc + 3) lv (r2.1.toList ++ st) r2.2) : Rn Y d mc ms ca sl res pc lv st1 M := by
  intro G p l e R s m args below meth c H locs ls Q hC hl hs hR hv hf
  subst hst1
  have hka : M.2.1 a = (ci, N) := by
    unfold ck at hck
    split at hck
    · assumption
    · cases hck
  obtain ⟨h1, h2, h3⟩ := obj_at (G := G) hR.1 hka hci
  have hts := hC.2.2.2.2.1
  have hRm := hC.2.2.2.2.2.2.2
  have hS := hC.2.2.2.2.2.1
  have hsA : okS As := fun q hq => hs q (List.mem_append_left _ (List.mem_reverse.mpr hq))
  have hs2 : okS st := fun q hq => hs q (List.mem_append_right _ (List.mem_cons_of_mem _ hq))
  rw [List.map_append, List.map_reverse, List.map_cons, show cv G (2, a) = va_rf (rfO G a) from rfl, h2]
  have hargs : (Value.ref (gB G + a.toNat) :: As.map (cv G)) = ((2, a) :: As).map (cv G) := by
    rw [List.map_cons, show cv G (2, a) = va_rf (rfO G a) from rfl, h2]; rfl
  have hp : PreS s H (PcG G ((2, a) :: As) M) (Value.ref (gB G + a.toNat) :: As.map (cv G)) := ⟨Pc_blind G _ M, fun U hU hW => ⟨by rw [hargs], hR.1, okS_c trivial hsA, by rw [hU]; exact hR.2.1, by rw [hU]; exact hR.2.2.1, hR.2.2.2.2, St_moved hW hR.2.2.2.1 hU hS⟩⟩
  have hgy := goodY hY
  obtain ⟨yn, yb, yl, yr⟩ := Y2
  dsimp only at hret
  subst hret
  refine call_on (st := st) (r2 := r2) (mc' := mc') (ms' := ms') (a := (Value.ref (gB G + a.toNat) :: As.map (cv G)).toArray) ?_ hR (fun H1 locs1 hok hR1 => ?_)
  · rcases hw with hw | hw
    · exact va_runI (As := As.map (cv G)) (n := n) ⟨hC.1, hC.2.1, hC.2.2.1, hC.2.2.2.1, hts⟩ (hCt l G) ⟨callB_of n hts hgy rfl rfl rfl (hts _ hY.2.1) (hts _ hw) ⟨hY.2.2.1.1, hY.2.2.1.2, hn⟩ ⟨by show d2 + 1 ≤ _; omega, by show 8 + (_ + 11) + 60 * d2 ≤ _; have := hY.2.2.2.2; omega⟩, hnm, hts _ hin⟩ hp rfl (by rw [List.length_map]; exact hAn) hv.1 rfl (lv_room (by rw [cat_sum]; exact hst)) hd ⟨by omega, by omega⟩
    · exact va_runIN (As := As.map (cv G)) (n := n) ⟨hC.1, hC.2.1, hC.2.2.1, hC.2.2.2.1, hts⟩ (hCt l G) ⟨va_cnB n hts hgy rfl rfl rfl (hS.2.2.2.1 _ hw) (hts _ hY.2.1) ⟨hY.2.2.1.1, hY.2.2.1.2, hn⟩ ⟨by show d2 + 1 ≤ _; omega, by show 8 + (_ + 11) + 60 * d2 ≤ _; have := hY.2.2.2.2; omega⟩, hnm, hts _ hin⟩ hp rfl (by rw [List.length_map]; exact hAn) hv.1 rfl (lv_room (by rw [cat_sum]; exact hst)) hd ⟨by omega, by omega⟩
  · exact kk G p l e R s m args below meth c H1 locs1 ls Q hC hl (fun q hq => (List.mem_append.mp hq).elim (fun h => hok q (by simpa using h)) (hs2 q)) hR1 hv hf
theorem r_objinit {i : Nat} {a : Int} {ci N : Nat} (hd : decode Y.2.1 pc = .ok (.invokespecial i, 3)) (hw : Jvm.Cond.methodLink Y.1.cls i Lib.objectInit ∈ lw_good) (hci : ci < 10) (hck : ck M a ci N = some ()) (h1d : 1 ≤ d) (hst : (st.map fun v => if v.1 == 1 then 2 else 1).sum ≤ 8) (kk : Rn Y d mc ms ca sl res (pc + 3) lv st M) : Rn Y d mc ms ca sl res pc lv ((2, a) :: st) M := by
  intro G p l e R s m args below meth c H locs ls Q hC hl hs hR hv hf
  have hka : M.2.1 a = (ci, N) := by
    unfold ck at hck
    split at hck
    · assumption
    · cases hck
  obtain ⟨h1, h2, h3⟩ := obj_at (G := G) hR.1 hka hci
  have hts := hC.2.2.2.2.1
  have hRm := hC.2.2.2.2.2.2.2
  rw [List.map_cons, show cv G (2, a) = va_rf (rfO G a) from rfl, h2]
  have hcs := lv_room (m := m) (pc := pc) (ls := ls) (rest := []) (st := st.map (cv G)) (by rw [cat_sum]; exact hst)
  refine W.objInit hC.1 hC.2.1 hC.2.2.2.1 (hts _ hw) (hts _ (by decide +kernel)) (hts _ (by decide +kernel)) rfl (hv.1.trans hC.2.2.1.symm) rfl hd (by omega) ?_ (kk G p l e R s m args below meth c H locs ls Q hC hl (okS_t hs) hR hv hf)
  have e : 2 * (F0 m pc ls (va_rf (some (gB G + a.toNat)) :: st.map (cv G))).monitorRoom = 0 := rfl
  have e2 : 2 * (F0 m pc ls []).monitorRoom = 0 := rfl
  rw [e2] at hcs
  rw [e]
  omega
/-- the method's end -/
theorem r_ret {r : Option V} (hd : decode Y.2.1 pc = .ok (retI Y.2.2.2, 1)) (hres : res = (r, M)) (hrt : RT Y.2.2.2 r) (hca : ca ≤ mc) (hsl : sl ≤ ms) : Rn Y d mc ms ca sl res pc lv r.toList M := by
  intro G p l e R s m args below meth c H locs ls Q hC hl hs hR hv hf
  subst hres
  refine W.widen hca hsl ?_
  have := hf H locs pc ls hR (fun v h => hs v (by dsimp only at h; rw [h]; exact List.mem_cons_self)) hrt hd
  cases r with
  | none => exact this
  | some v => exact this
end CALLS
def argsL : Nat → List V → List (Nat × V)
  | _, [] => []
  | i, v :: vs => (i, v) :: argsL (if v.1 == 1 then i + 2 else i + 1) vs
theorem argsL_map (G : GG) : ∀ (As : List V) (i : Nat), lv_args i (As.map (cv G)) = (argsL i As).map fun q => (q.1, cv G q.2)
  | [], _ => rfl
  | v :: vs, i => by
    rw [List.map_cons, lv_args, argsL, List.map_cons, argsL_map G vs]
    congr 3
    have h1 := cv_cat G v
    cases h : v.1 == 1 with
    | false => rw [h] at h1; rw [if_neg (by simpa using h1)]; rfl
    | true => rw [h] at h1; rw [if_pos (by simpa using h1)]; rfl
theorem argsL_ok {As : List V} (h : okS As) : ∀ i, okL (argsL i As) := by
  induction As with
  | nil => exact fun i q hq => absurd hq List.not_mem_nil
  | cons v vs ih => exact fun i => okL_c (okS_h h) (ih (okS_t h) _)
theorem slen (G : GG) (As : List V) : (lg_sl (As.map (cv G))).length = (As.map fun v => if v.1 == 1 then 2 else 1).sum := by
  induction As with
  | nil => rfl
  | cons v vs ih =>
    rw [List.map_cons, List.map_cons, List.sum_cons, ← ih]
    have h1 := cv_cat G v
    simp only [lg_sl, List.flatMap_cons, List.length_append]
    congr 1
    cases h : v.1 == 1 with
    | false => rw [h] at h1; rw [if_neg (by simpa using h1)]; rfl
    | true => rw [h] at h1; rw [if_pos (by simpa using h1)]; rfl
/-- a contract out of a walk -/
theorem ct_of {Y : YY} {d mc ms : Nat} {As : List V} {M : Mem} {res : Option V × Mem} (hY : YK Y) (hA : (As.map fun v => if v.1 == 1 then 2 else 1).sum ≤ Y.2.2.1) (h : Rn Y d mc ms 0 0 res 0 (argsL 0 As) [] M) : Ct d Y As M res mc ms := by
  intro l G
  refine Met.ofW (cc := Y.2.1) (maxL := Y.2.2.1) (ret := Y.2.2.2) hY.2.2.2.1 rfl ?_
  intro p e s m args below meth c s₁ B hml hv
  obtain ⟨rfl, h1, h2, h3, h4, h5, h6⟩ := hv
  have hts := atoms_spec (ws := wsY Y) B.pre
  have hlocks := B.notSynchronized
  have hl := lv_entry (As.map (cv G)) (n := Y.2.2.1) (by rw [slen]; exact hA)
  rw [argsL_map] at hl
  rw [lg_entry_eq]
  generalize (lg_sl (As.map (cv G)) ++ List.replicate (Y.2.2.1 - (lg_sl (As.map (cv G))).length) Slot.unset).toArray = ls at hl ⊢
  refine h G p l e _ s m _ below meth c s.heap [] ls _ ⟨B.exec, B.bytes, hml, findClass_of_methodNamed B.named, fun w hw => hts w (List.mem_cons_of_mem _ hw), h6, (fun hn => (name_of_methodNamed B.named B.method).1.trans hn), Nat.le_refl _, Nat.le_refl _, Nat.le_refl _, Nat.le_refl _⟩ (argsL_ok h2 0) okS_n ⟨h1, h3, h4, va_S.rf, h5⟩ hl ?_
  intro H' locs' pc' ls' hR hok hrt hd
  have hq : ∀ (o : Outcome), o = .returned (res.1.map (cv G)) → ∀ t : State, t.heap = H' → s.WarmedH t.vm → QcG G res (As.map (cv G)).toArray s o t := fun o ho t ht hW => ⟨ho, hR.1, hok, by rw [ht]; exact hR.2.1, by rw [ht]; exact hR.2.2.1, hR.2.2.2.2, hR.2.2.2.1.F ht⟩
  have hr := B.returns
  have hb := B.bytes
  obtain ⟨r, M'⟩ := res
  dsimp only at hrt hq ⊢
  generalize hrr : Y.2.2.2 = rt at hrt hd hr
  match rt, r, hrt with
  | none, none, _ => exact W.vret B.exec hb hr (hq _ rfl) hR.2.2.2.1.2.2 hd hlocks
  | some .int, some (0, z), _ => exact W.iret B.exec hb hr (hq _ rfl) hR.2.2.2.1.2.2 hd hlocks
  | some .boolean, some (0, z), hz => exact W.zret B.exec hb hr (by rcases (hz : z = 0 ∨ z = 1) with rfl | rfl <;> decide) (hq _ rfl) hR.2.2.2.1.2.2 hd hlocks
  | some .long, some (1, z), _ => exact W.lret B.exec hb hr (hq _ rfl) hR.2.2.2.1.2.2 hd hlocks
  | some (.object n), some (2, z), _ => exact W.aret B.exec hb hr (Or.inl ⟨_, rfl⟩) (va_rf_or _) (hq _ rfl) hR.2.2.2.1.2.2 hd hlocks
