def nests : List (String × Nat × MethodName) := [("TreeTongues", 11, ⟨"TreeTongues$Signs", "<init>", "()V"⟩), ("TreeTongues$Reducer", 56, ⟨"TreeTongues$Step", "<init>", "()V"⟩)]
/-! the judgement Rn: from pc the body comes to its end with res; a row an instruction; printed by gen/rules.py -/
def wayL : List Int := [14, 8, 2, 6]
def St (G : GG) (s : State) : Prop := va_K G.1 vwCl (tysG G) s ∧ va_AO "TreeTongues$Step" s ∧ va_AO "TreeTongues$Tongue" s ∧ (∀ q ∈ nests, va_Nw (.methodLinkNest q.1 q.2.1 q.2.2 "TreeTongues") s) ∧ va_Z "TreeTongues" "WAYS" "[I" (.ref G.2.2.2.1) (gA G) s s.heap ∧ va_T .int G.2.2.2.1 4 (fun j => .int (Int32.ofInt (wayL.getD j 0))) (gA G) s s.heap ∧ gB G ≤ s.heap.size ∧ va_X G.2.2.2.2.1 G.2.2.2.2.2.1 G.2.2.2.2.2.2 s s.heap ∧ G.2.2.2.2.1 < gB G ∧ G.2.2.2.2.2.1 < 2147483648
def Cx (G : GG) (Y : YY) (p : Program) (s : State) (m : MethodId) (args : Array Value) (meth : Method) (c : Code) (R : Room) (d mc ms : Nat) : Prop :=
  p.tables.exec = Jvm.exec ∧ c.code = Y.2.1 ∧ c.maxLocals = Y.2.2.1 ∧ s.vm.findClass Y.1.cls = some m.cls ∧ (∀ w ∈ lw_good, w.before args s = true) ∧ St G s ∧ (Y.1.name = "<init>" → meth.name = "<init>") ∧ (d ≤ R.frames ∧ 60 * d ≤ R.locals ∧ mc ≤ R.cells ∧ ms ≤ R.slots)
def retI (r : Option FieldType) : Instr := match r with
  | none => .return_
  | some .int => .ireturn
  | some .boolean => .ireturn
  | some .long => .lreturn
  | _ => .areturn
def RT (r : Option FieldType) (v : Option V) : Prop := match r, v with
  | none, none => True
  | some .int, some (0, _) => True
  | some .boolean, some (0, z) => z = 0 ∨ z = 1
  | some .long, some (1, _) => True
  | some (.object _), some (2, _) => True
  | _, _ => False
def okR (r : Option V) : Prop := ∀ v, r = some v → okV v
def Rn (Y : YY) (d mc ms ca sl : Nat) (res : Option V × Mem) (pc : Nat) (lv : List (Nat × V)) (st : List V) (M : Mem) : Prop :=
  ∀ (G : GG) (p : Program) (l : Launch) (e : Env) (R : Room) (s : State) (m : MethodId) (args : Array Value) (below : List Frame) (meth : Method) (c : Code) (H : Heap) (locs : List Loc) (ls : Array Slot) (Q : State → Prop), Cx G Y p s m args meth c R d mc ms → okL lv → okS st → Rel G M s H locs → lv_has ls Y.2.2.1 (lv.map fun q => (q.1, cv G q.2)) →
  (∀ (H' : Heap) (locs' : List Loc) (pc' : Nat) (ls' : Array Slot), Rel G res.2 s H' locs' → okR res.1 → RT Y.2.2.2 res.1 → decode Y.2.1 pc' = .ok (retI Y.2.2.2, 1) → W p l e R s m args below meth c H' locs' mc ms Q (F0 m pc' ls' ((res.1.map (cv G)).toList))) →
  W p l e R s m args below meth c H locs ca sl Q (F0 m pc ls (st.map (cv G)))
theorem okS_t {v : V} {st : List V} (h : okS (v :: st)) : okS st := fun q hq => h q (List.mem_cons_of_mem _ hq)
theorem okS_h {v : V} {st : List V} (h : okS (v :: st)) : okV v := h v List.mem_cons_self
theorem okS_c {v : V} {st : List V} (hv : okV v) (h : okS st) : okS (v :: st) := fun q hq => (List.mem_cons.mp hq).elim (fun e => e ▸ hv) (h q)
theorem okS_n : okS [] := fun q h => absurd h List.not_mem_nil
theorem okL_n : okL [] := fun q h => absurd h List.not_mem_nil
theorem okL_c {i : Nat} {v : V} {l : List (Nat × V)} (hv : okV v) (h : okL l) : okL ((i, v) :: l) := fun q hq => (List.mem_cons.mp hq).elim (fun e => by rw [e]; exact hv) (h q)
def iand (x y : Int) : Int := (Int32.ofInt x &&& Int32.ofInt y).toInt
def ior (x y : Int) : Int := (Int32.ofInt x ||| Int32.ofInt y).toInt
def ixor (x y : Int) : Int := (Int32.ofInt x ^^^ Int32.ofInt y).toInt
def ishl (x y : Int) : Int := (Int32.ofInt x <<< (Int32.ofInt y &&& 31)).toInt
def ishr (x y : Int) : Int := (Int32.ofInt x >>> (Int32.ofInt y &&& 31)).toInt
def idv (x y : Int) : Int := (Int32.ofInt x / Int32.ofInt y).toInt
def irm (x y : Int) : Int := (Int32.ofInt x - Int32.ofInt x / Int32.ofInt y * Int32.ofInt y).toInt
def ldv (x y : Int) : Int := (Int64.ofInt x / Int64.ofInt y).toInt
def lnd (x y : Int) : Int := (Int64.ofInt x &&& Int64.ofInt y).toInt
def lrr (x y : Int) : Int := (Int64.ofInt x ||| Int64.ofInt y).toInt
def lsl (x y : Int) : Int := (Int64.ofInt x <<< ((Int32.ofInt y).toInt64 &&& 63)).toInt
def lc (x y : Int) : Int := if y < x then 1 else if x = y then 0 else -1
theorem lt32 {x y : Int} (hx : r32 x) (hy : r32 y) : Int32.ofInt x < Int32.ofInt y ↔ x < y := by rw [Int32.lt_iff_toInt_lt, Int32.toInt_ofInt_of_le hx.1 hx.2, Int32.toInt_ofInt_of_le hy.1 hy.2]
theorem le32 {x y : Int} (hx : r32 x) (hy : r32 y) : Int32.ofInt x ≤ Int32.ofInt y ↔ x ≤ y := by rw [Int32.le_iff_toInt_le, Int32.toInt_ofInt_of_le hx.1 hx.2, Int32.toInt_ofInt_of_le hy.1 hy.2]
theorem eq32 {x y : Int} (hx : r32 x) (hy : r32 y) : Int32.ofInt x = Int32.ofInt y ↔ x = y := by rw [← Int32.toInt_inj, Int32.toInt_ofInt_of_le hx.1 hx.2, Int32.toInt_ofInt_of_le hy.1 hy.2]
theorem lt64 {x y : Int} (hx : r64 x) (hy : r64 y) : Int64.ofInt x < Int64.ofInt y ↔ x < y := by rw [Int64.lt_iff_toInt_lt, Int64.toInt_ofInt_of_le hx.1 hx.2, Int64.toInt_ofInt_of_le hy.1 hy.2]
theorem eq64 {x y : Int} (hx : r64 x) (hy : r64 y) : Int64.ofInt x = Int64.ofInt y ↔ x = y := by rw [← Int64.toInt_inj, Int64.toInt_ofInt_of_le hx.1 hx.2, Int64.toInt_ofInt_of_le hy.1 hy.2]
theorem r32_0 : r32 0 := ⟨by decide, by decide⟩
theorem ix_in {i : Int} {n : Nat} (h0 : 0 ≤ i) (h : i < n) (hn : n < 2147483648) : vp_in (Int32.ofInt i) n ∧ (Int32.ofInt i).toNatClampNeg = i.toNat := by
  have hi : (Int32.ofInt i).toInt = i := Int32.toInt_ofInt_of_le (by omega) (by omega)
  exact ⟨vp_in_iff.mpr (by rw [hi]; omega), by rw [Int32.toNatClampNeg, hi]⟩
section RULES
variable {Y : YY} {d mc ms ca sl : Nat} {res : Option V × Mem} {pc : Nat} {lv : List (Nat × V)} {st : List V} {M : Mem}
theorem r_iadd {x y : Int} (hd : decode Y.2.1 pc = .ok (.iadd, 1)) (k : Rn Y d mc ms ca sl res (pc + 1) lv ((0, wr (x + y)) :: st) M) : Rn Y d mc ms ca sl res pc lv ((0, y) :: (0, x) :: st) M := by
  intro G p l e R s m args below meth c H locs ls Q hC hl hs hR hv hf
  refine lv_iadd hC.1 hC.2.1 hd ?_
  rw [show Int32.ofInt x + Int32.ofInt y = Int32.ofInt (wr (x + y)) by rw [o_wr, Int32.ofInt_add]]
  exact k G p l e R s m args below meth c H locs ls Q hC hl (okS_c (wr_ok _) (okS_t (okS_t hs))) hR hv hf
theorem r_isub {x y : Int} (hd : decode Y.2.1 pc = .ok (.isub, 1)) (k : Rn Y d mc ms ca sl res (pc + 1) lv ((0, wr (x - y)) :: st) M) : Rn Y d mc ms ca sl res pc lv ((0, y) :: (0, x) :: st) M := by
  intro G p l e R s m args below meth c H locs ls Q hC hl hs hR hv hf
  refine lv_isub hC.1 hC.2.1 hd ?_
  rw [show Int32.ofInt x - Int32.ofInt y = Int32.ofInt (wr (x - y)) by rw [o_wr, Int32.ofInt_sub]]
  exact k G p l e R s m args below meth c H locs ls Q hC hl (okS_c (wr_ok _) (okS_t (okS_t hs))) hR hv hf
theorem r_imul {x y : Int} (hd : decode Y.2.1 pc = .ok (.imul, 1)) (k : Rn Y d mc ms ca sl res (pc + 1) lv ((0, wr (x * y)) :: st) M) : Rn Y d mc ms ca sl res pc lv ((0, y) :: (0, x) :: st) M := by
  intro G p l e R s m args below meth c H locs ls Q hC hl hs hR hv hf
  refine lv_imul hC.1 hC.2.1 hd ?_
  rw [show Int32.ofInt x * Int32.ofInt y = Int32.ofInt (wr (x * y)) by rw [o_wr, Int32.ofInt_mul]]
  exact k G p l e R s m args below meth c H locs ls Q hC hl (okS_c (wr_ok _) (okS_t (okS_t hs))) hR hv hf
theorem r_iand {x y : Int} (hd : decode Y.2.1 pc = .ok (.iand, 1)) (k : Rn Y d mc ms ca sl res (pc + 1) lv ((0, iand x y) :: st) M) : Rn Y d mc ms ca sl res pc lv ((0, y) :: (0, x) :: st) M := by
  intro G p l e R s m args below meth c H locs ls Q hC hl hs hR hv hf
  refine lv_iand hC.1 hC.2.1 hd ?_
  rw [show Int32.ofInt x &&& Int32.ofInt y = Int32.ofInt (iand x y) from (Int32.ofInt_toInt _).symm]
  exact k G p l e R s m args below meth c H locs ls Q hC hl (okS_c (i32_ok _) (okS_t (okS_t hs))) hR hv hf
theorem r_ior {x y : Int} (hd : decode Y.2.1 pc = .ok (.ior, 1)) (k : Rn Y d mc ms ca sl res (pc + 1) lv ((0, ior x y) :: st) M) : Rn Y d mc ms ca sl res pc lv ((0, y) :: (0, x) :: st) M := by
  intro G p l e R s m args below meth c H locs ls Q hC hl hs hR hv hf
  refine lv_ior hC.1 hC.2.1 hd ?_
  rw [show Int32.ofInt x ||| Int32.ofInt y = Int32.ofInt (ior x y) from (Int32.ofInt_toInt _).symm]
  exact k G p l e R s m args below meth c H locs ls Q hC hl (okS_c (i32_ok _) (okS_t (okS_t hs))) hR hv hf
theorem r_ixor {x y : Int} (hd : decode Y.2.1 pc = .ok (.ixor, 1)) (k : Rn Y d mc ms ca sl res (pc + 1) lv ((0, ixor x y) :: st) M) : Rn Y d mc ms ca sl res pc lv ((0, y) :: (0, x) :: st) M := by
  intro G p l e R s m args below meth c H locs ls Q hC hl hs hR hv hf
  refine lv_ixor hC.1 hC.2.1 hd ?_
  rw [show Int32.ofInt x ^^^ Int32.ofInt y = Int32.ofInt (ixor x y) from (Int32.ofInt_toInt _).symm]
  exact k G p l e R s m args below meth c H locs ls Q hC hl (okS_c (i32_ok _) (okS_t (okS_t hs))) hR hv hf
theorem r_ishl {x y : Int} (hd : decode Y.2.1 pc = .ok (.ishl, 1)) (k : Rn Y d mc ms ca sl res (pc + 1) lv ((0, ishl x y) :: st) M) : Rn Y d mc ms ca sl res pc lv ((0, y) :: (0, x) :: st) M := by
  intro G p l e R s m args below meth c H locs ls Q hC hl hs hR hv hf
  refine lv_ishl hC.1 hC.2.1 hd ?_
  rw [show Int32.ofInt x <<< (Int32.ofInt y &&& 31) = Int32.ofInt (ishl x y) from (Int32.ofInt_toInt _).symm]
  exact k G p l e R s m args below meth c H locs ls Q hC hl (okS_c (i32_ok _) (okS_t (okS_t hs))) hR hv hf
theorem r_ishr {x y : Int} (hd : decode Y.2.1 pc = .ok (.ishr, 1)) (k : Rn Y d mc ms ca sl res (pc + 1) lv ((0, ishr x y) :: st) M) : Rn Y d mc ms ca sl res pc lv ((0, y) :: (0, x) :: st) M := by
  intro G p l e R s m args below meth c H locs ls Q hC hl hs hR hv hf
  refine lv_ishr hC.1 hC.2.1 hd ?_
  rw [show Int32.ofInt x >>> (Int32.ofInt y &&& 31) = Int32.ofInt (ishr x y) from (Int32.ofInt_toInt _).symm]
  exact k G p l e R s m args below meth c H locs ls Q hC hl (okS_c (i32_ok _) (okS_t (okS_t hs))) hR hv hf
theorem r_idiv {x y : Int} (hd : decode Y.2.1 pc = .ok (.idiv, 1)) (hy : y ≠ 0) (k : Rn Y d mc ms ca sl res (pc + 1) lv ((0, idv x y) :: st) M) : Rn Y d mc ms ca sl res pc lv ((0, y) :: (0, x) :: st) M := by
  intro G p l e R s m args below meth c H locs ls Q hC hl hs hR hv hf
  refine lv_idiv hC.1 hC.2.1 hd (fun h => hy ((eq32 (okS_h hs) r32_0).mp h)) ?_
  rw [show Int32.ofInt x / Int32.ofInt y = Int32.ofInt (idv x y) from (Int32.ofInt_toInt _).symm]
  exact k G p l e R s m args below meth c H locs ls Q hC hl (okS_c (i32_ok _) (okS_t (okS_t hs))) hR hv hf
theorem r_irem {x y : Int} (hd : decode Y.2.1 pc = .ok (.irem, 1)) (hy : y ≠ 0) (k : Rn Y d mc ms ca sl res (pc + 1) lv ((0, irm x y) :: st) M) : Rn Y d mc ms ca sl res pc lv ((0, y) :: (0, x) :: st) M := by
  intro G p l e R s m args below meth c H locs ls Q hC hl hs hR hv hf
  refine lv_irem hC.1 hC.2.1 hd (fun h => hy ((eq32 (okS_h hs) r32_0).mp h)) ?_
  rw [show Int32.ofInt x - Int32.ofInt x / Int32.ofInt y * Int32.ofInt y = Int32.ofInt (irm x y) from (Int32.ofInt_toInt _).symm]
  exact k G p l e R s m args below meth c H locs ls Q hC hl (okS_c (i32_ok _) (okS_t (okS_t hs))) hR hv hf
theorem r_ladd {x y : Int} (hd : decode Y.2.1 pc = .ok (.ladd, 1)) (k : Rn Y d mc ms ca sl res (pc + 1) lv ((1, wl (x + y)) :: st) M) : Rn Y d mc ms ca sl res pc lv ((1, y) :: (1, x) :: st) M := by
  intro G p l e R s m args below meth c H locs ls Q hC hl hs hR hv hf
  refine lv_ladd hC.1 hC.2.1 hd ?_
  rw [show Int64.ofInt x + Int64.ofInt y = Int64.ofInt (wl (x + y)) by rw [o_wl, Int64.ofInt_add]]
  exact k G p l e R s m args below meth c H locs ls Q hC hl (okS_c (wl_ok _) (okS_t (okS_t hs))) hR hv hf
theorem r_lsub {x y : Int} (hd : decode Y.2.1 pc = .ok (.lsub, 1)) (k : Rn Y d mc ms ca sl res (pc + 1) lv ((1, wl (x - y)) :: st) M) : Rn Y d mc ms ca sl res pc lv ((1, y) :: (1, x) :: st) M := by
  intro G p l e R s m args below meth c H locs ls Q hC hl hs hR hv hf
  refine lv_lsub hC.1 hC.2.1 hd ?_
  rw [show Int64.ofInt x - Int64.ofInt y = Int64.ofInt (wl (x - y)) by rw [o_wl, Int64.ofInt_sub]]
  exact k G p l e R s m args below meth c H locs ls Q hC hl (okS_c (wl_ok _) (okS_t (okS_t hs))) hR hv hf
theorem r_lmul {x y : Int} (hd : decode Y.2.1 pc = .ok (.lmul, 1)) (k : Rn Y d mc ms ca sl res (pc + 1) lv ((1, wl (x * y)) :: st) M) : Rn Y d mc ms ca sl res pc lv ((1, y) :: (1, x) :: st) M := by
  intro G p l e R s m args below meth c H locs ls Q hC hl hs hR hv hf
  refine lv_lmul hC.1 hC.2.1 hd ?_
  rw [show Int64.ofInt x * Int64.ofInt y = Int64.ofInt (wl (x * y)) by rw [o_wl, Int64.ofInt_mul]]
  exact k G p l e R s m args below meth c H locs ls Q hC hl (okS_c (wl_ok _) (okS_t (okS_t hs))) hR hv hf
theorem r_land {x y : Int} (hd : decode Y.2.1 pc = .ok (.land, 1)) (k : Rn Y d mc ms ca sl res (pc + 1) lv ((1, lnd x y) :: st) M) : Rn Y d mc ms ca sl res pc lv ((1, y) :: (1, x) :: st) M := by
  intro G p l e R s m args below meth c H locs ls Q hC hl hs hR hv hf
  refine lv_land hC.1 hC.2.1 hd ?_
  rw [show Int64.ofInt x &&& Int64.ofInt y = Int64.ofInt (lnd x y) from (Int64.ofInt_toInt _).symm]
  exact k G p l e R s m args below meth c H locs ls Q hC hl (okS_c (i64_ok _) (okS_t (okS_t hs))) hR hv hf
theorem r_lor {x y : Int} (hd : decode Y.2.1 pc = .ok (.lor, 1)) (k : Rn Y d mc ms ca sl res (pc + 1) lv ((1, lrr x y) :: st) M) : Rn Y d mc ms ca sl res pc lv ((1, y) :: (1, x) :: st) M := by
  intro G p l e R s m args below meth c H locs ls Q hC hl hs hR hv hf
  refine lv_lor hC.1 hC.2.1 hd ?_
  rw [show Int64.ofInt x ||| Int64.ofInt y = Int64.ofInt (lrr x y) from (Int64.ofInt_toInt _).symm]
  exact k G p l e R s m args below meth c H locs ls Q hC hl (okS_c (i64_ok _) (okS_t (okS_t hs))) hR hv hf
theorem r_ldiv {x y : Int} (hd : decode Y.2.1 pc = .ok (.ldiv, 1)) (hy : y ≠ 0) (k : Rn Y d mc ms ca sl res (pc + 1) lv ((1, ldv x y) :: st) M) : Rn Y d mc ms ca sl res pc lv ((1, y) :: (1, x) :: st) M := by
  intro G p l e R s m args below meth c H locs ls Q hC hl hs hR hv hf
  refine lv_ldiv hC.1 hC.2.1 hd (fun h => hy ((eq64 (okS_h hs) ⟨by decide, by decide⟩).mp h)) ?_
  rw [show Int64.ofInt x / Int64.ofInt y = Int64.ofInt (ldv x y) from (Int64.ofInt_toInt _).symm]
  exact k G p l e R s m args below meth c H locs ls Q hC hl (okS_c (i64_ok _) (okS_t (okS_t hs))) hR hv hf
theorem r_lshl {x y : Int} (hd : decode Y.2.1 pc = .ok (.lshl, 1)) (k : Rn Y d mc ms ca sl res (pc + 1) lv ((1, lsl x y) :: st) M) : Rn Y d mc ms ca sl res pc lv ((0, y) :: (1, x) :: st) M := by
  intro G p l e R s m args below meth c H locs ls Q hC hl hs hR hv hf
  refine lv_lshl hC.1 hC.2.1 hd (show Int64.ofInt x <<< ((Int32.ofInt y).toInt64 &&& 63) = Int64.ofInt (lsl x y) from (Int64.ofInt_toInt _).symm) ?_
  exact k G p l e R s m args below meth c H locs ls Q hC hl (okS_c (i64_ok _) (okS_t (okS_t hs))) hR hv hf
theorem r_i2l {x : Int} (hd : decode Y.2.1 pc = .ok (.i2l, 1)) (k : Rn Y d mc ms ca sl res (pc + 1) lv ((1, x) :: st) M) : Rn Y d mc ms ca sl res pc lv ((0, x) :: st) M := by
  intro G p l e R s m args below meth c H locs ls Q hC hl hs hR hv hf
  have hx : r32 x := okS_h hs
  refine lv_i2l hC.1 hC.2.1 hd (v := Int64.ofInt x) (Int64.toInt_inj.mp ?_) ?_
  · rw [Int32.toInt_toInt64, Int32.toInt_ofInt_of_le hx.1 hx.2, Int64.toInt_ofInt_of_le (by have := hx.1; omega) (by have := hx.2; omega)]
  · exact k G p l e R s m args below meth c H locs ls Q hC hl (okS_c (show r64 x from ⟨by have := hx.1; omega, by have := hx.2; omega⟩) (okS_t hs)) hR hv hf
theorem r_lcmp {x y : Int} (hd : decode Y.2.1 pc = .ok (.lcmp, 1)) (k : Rn Y d mc ms ca sl res (pc + 1) lv ((0, lc x y) :: st) M) : Rn Y d mc ms ca sl res pc lv ((1, y) :: (1, x) :: st) M := by
  intro G p l e R s m args below meth c H locs ls Q hC hl hs hR hv hf
  have hy : r64 y := okS_h hs
  have hx : r64 x := okS_h (okS_t hs)
  refine W.lcmp hC.1 hC.2.1 hd ?_
  rw [show lg_cmp (Int64.ofInt x) (Int64.ofInt y) = Int32.ofInt (lc x y) by
    unfold lg_cmp lc
    by_cases h1 : y < x
    · rw [if_pos h1, if_pos ((lt64 hy hx).mpr h1)]; rfl
    · rw [if_neg h1, if_neg (fun h => h1 ((lt64 hy hx).mp h))]
      by_cases h2 : x = y
      · rw [if_pos h2, if_pos ((eq64 hx hy).mpr h2)]; rfl
      · rw [if_neg h2, if_neg (fun h => h2 ((eq64 hx hy).mp h))]; rfl]
  refine k G p l e R s m args below meth c H locs ls Q hC hl (okS_c ?_ (okS_t (okS_t hs))) hR hv hf
  show r32 (lc x y)
  unfold lc
  split
  · exact ⟨by decide, by decide⟩
  · split <;> exact ⟨by decide, by decide⟩
theorem r_iconst {z : Int} (hd : decode Y.2.1 pc = .ok (.iconst z, 1)) (h : r32 z) (k : Rn Y d mc ms ca sl res (pc + 1) lv ((0, z) :: st) M) : Rn Y d mc ms ca sl res pc lv st M := by
  intro G p l e R s m args below meth c H locs ls Q hC hl hs hR hv hf
  exact lv_iconst hC.1 hC.2.1 hd (v := Int32.ofInt z) rfl (k G p l e R s m args below meth c H locs ls Q hC hl (okS_c h hs) hR hv hf)
theorem r_bipush {z : Int} (hd : decode Y.2.1 pc = .ok (.bipush z, 2)) (h : -128 ≤ z ∧ z < 128) (k : Rn Y d mc ms ca sl res (pc + 2) lv ((0, z) :: st) M) : Rn Y d mc ms ca sl res pc lv st M := by
  intro G p l e R s m args below meth c H locs ls Q hC hl hs hR hv hf
  exact lv_bipush hC.1 hC.2.1 hd (v := Int32.ofInt z) (Int32.toInt_inj.mp (by rw [Int8.toInt_toInt32, Int8.toInt_ofInt_of_le h.1 h.2, Int32.toInt_ofInt_of_le (by omega) (by omega)])) (k G p l e R s m args below meth c H locs ls Q hC hl (okS_c (show r32 z from ⟨by omega, by omega⟩) hs) hR hv hf)
theorem r_sipush {z : Int} (hd : decode Y.2.1 pc = .ok (.sipush z, 3)) (h : -32768 ≤ z ∧ z < 32768) (k : Rn Y d mc ms ca sl res (pc + 3) lv ((0, z) :: st) M) : Rn Y d mc ms ca sl res pc lv st M := by
  intro G p l e R s m args below meth c H locs ls Q hC hl hs hR hv hf
  exact lv_sipush hC.1 hC.2.1 hd (v := Int32.ofInt z) (Int32.toInt_inj.mp (by rw [Int16.toInt_toInt32, Int16.toInt_ofInt_of_le h.1 h.2, Int32.toInt_ofInt_of_le (by omega) (by omega)])) (k G p l e R s m args below meth c H locs ls Q hC hl (okS_c (show r32 z from ⟨by omega, by omega⟩) hs) hR hv hf)
theorem r_lconst {n : Fin 2} {z : Int} (hd : decode Y.2.1 pc = .ok (.lconst n, 1)) (h : z = ((n : Nat) : Int)) (k : Rn Y d mc ms ca sl res (pc + 1) lv ((1, z) :: st) M) : Rn Y d mc ms ca sl res pc lv st M := by
  intro G p l e R s m args below meth c H locs ls Q hC hl hs hR hv hf
  subst h
  have := n.isLt
  exact lv_lconst hC.1 hC.2.1 hd (v := Int64.ofInt ((n : Nat) : Int)) Int64.ofInt_eq_ofNat.symm (k G p l e R s m args below meth c H locs ls Q hC hl (okS_c (show r64 _ from ⟨by omega, by omega⟩) hs) hR hv hf)
theorem r_ldc {i : Nat} {z : Int} (hd : decode Y.2.1 pc = .ok (.ldc i, 2)) (hw : Jvm.Cond.constant Y.1.cls i (Int32.ofInt z) ∈ lw_good) (h : r32 z) (k : Rn Y d mc ms ca sl res (pc + 2) lv ((0, z) :: st) M) : Rn Y d mc ms ca sl res pc lv st M := by
  intro G p l e R s m args below meth c H locs ls Q hC hl hs hR hv hf
  exact lv_ldc hC.1 hC.2.1 hC.2.2.2.1 (hC.2.2.2.2.1 _ hw) hd (k G p l e R s m args below meth c H locs ls Q hC hl (okS_c h hs) hR hv hf)
theorem r_ldc2 {i : Nat} {z : Int} (hd : decode Y.2.1 pc = .ok (.ldc2_w i, 3)) (hw : Jvm.Cond.constantLong Y.1.cls i (Int64.ofInt z) ∈ lw_good) (h : r64 z) (k : Rn Y d mc ms ca sl res (pc + 3) lv ((1, z) :: st) M) : Rn Y d mc ms ca sl res pc lv st M := by
  intro G p l e R s m args below meth c H locs ls Q hC hl hs hR hv hf
  exact lv_ldc2 hC.1 hC.2.1 hC.2.2.2.1 (hC.2.2.2.2.1 _ hw) hd (k G p l e R s m args below meth c H locs ls Q hC hl (okS_c h hs) hR hv hf)
theorem r_null (hd : decode Y.2.1 pc = .ok (.aconst_null, 1)) (k : Rn Y d mc ms ca sl res (pc + 1) lv ((2, -1) :: st) M) : Rn Y d mc ms ca sl res pc lv st M := by
  intro G p l e R s m args below meth c H locs ls Q hC hl hs hR hv hf
  exact lv_null hC.1 hC.2.1 hd (k G p l e R s m args below meth c H locs ls Q hC hl (okS_c trivial hs) hR hv hf)
theorem lv_mem {G : GG} {ls : Array Slot} {nL i : Nat} {v : V} {lv : List (Nat × V)} (h : lv_has ls nL (lv.map fun q => (q.1, cv G q.2))) (hm : (i, v) ∈ lv) : ls[i]? = some (.val (cv G v)) := h.2.2 (i, cv G v) (List.mem_map.mpr ⟨(i, v), hm, rfl⟩)
theorem r_iload (kx : Nat) {i : Nat} {z : Int} (hd : decode Y.2.1 pc = .ok (.iload i, 2)) (hm : lv[kx]? = some (i, (0, z))) (k : Rn Y d mc ms ca sl res (pc + 2) lv ((0, z) :: st) M) : Rn Y d mc ms ca sl res pc lv st M := by
  intro G p l e R s m args below meth c H locs ls Q hC hl hs hR hv hf
  exact lv_iload hC.1 hC.2.1 hd (lv_mem hv (List.mem_of_getElem? hm)) (k G p l e R s m args below meth c H locs ls Q hC hl (okS_c (hl _ (List.mem_of_getElem? hm)) hs) hR hv hf)
theorem r_iload_n (kx : Nat) {n : Fin 4} {i : Nat} {z : Int} (hd : decode Y.2.1 pc = .ok (.iload_n n, 1)) (hi : (n : Nat) = i) (hm : lv[kx]? = some (i, (0, z))) (k : Rn Y d mc ms ca sl res (pc + 1) lv ((0, z) :: st) M) : Rn Y d mc ms ca sl res pc lv st M := by
  intro G p l e R s m args below meth c H locs ls Q hC hl hs hR hv hf
  exact lv_iload_n hC.1 hC.2.1 hd hi (lv_mem hv (List.mem_of_getElem? hm)) (k G p l e R s m args below meth c H locs ls Q hC hl (okS_c (hl _ (List.mem_of_getElem? hm)) hs) hR hv hf)
theorem r_lload (kx : Nat) {i : Nat} {z : Int} (hd : decode Y.2.1 pc = .ok (.lload i, 2)) (hm : lv[kx]? = some (i, (1, z))) (k : Rn Y d mc ms ca sl res (pc + 2) lv ((1, z) :: st) M) : Rn Y d mc ms ca sl res pc lv st M := by
  intro G p l e R s m args below meth c H locs ls Q hC hl hs hR hv hf
  exact lv_lload hC.1 hC.2.1 hd (lv_mem hv (List.mem_of_getElem? hm)) (k G p l e R s m args below meth c H locs ls Q hC hl (okS_c (hl _ (List.mem_of_getElem? hm)) hs) hR hv hf)
theorem r_lload_n (kx : Nat) {n : Fin 4} {i : Nat} {z : Int} (hd : decode Y.2.1 pc = .ok (.lload_n n, 1)) (hi : (n : Nat) = i) (hm : lv[kx]? = some (i, (1, z))) (k : Rn Y d mc ms ca sl res (pc + 1) lv ((1, z) :: st) M) : Rn Y d mc ms ca sl res pc lv st M := by
  intro G p l e R s m args below meth c H locs ls Q hC hl hs hR hv hf
  exact lv_lload_n hC.1 hC.2.1 hd hi (lv_mem hv (List.mem_of_getElem? hm)) (k G p l e R s m args below meth c H locs ls Q hC hl (okS_c (hl _ (List.mem_of_getElem? hm)) hs) hR hv hf)
theorem r_aload (kx : Nat) {i : Nat} {z : Int} (hd : decode Y.2.1 pc = .ok (.aload i, 2)) (hm : lv[kx]? = some (i, (2, z))) (k : Rn Y d mc ms ca sl res (pc + 2) lv ((2, z) :: st) M) : Rn Y d mc ms ca sl res pc lv st M := by
  intro G p l e R s m args below meth c H locs ls Q hC hl hs hR hv hf
  have h1 := lv_mem hv (List.mem_of_getElem? hm)
  have h2 := k G p l e R s m args below meth c H locs ls Q hC hl (okS_c (show okV (2, z) from trivial) hs) hR hv hf
  rw [show cv G (2, z) = va_rf (rfO G z) from rfl] at h1
  rw [List.map_cons, show cv G (2, z) = va_rf (rfO G z) from rfl] at h2
  cases hz : rfO G z with
  | none => rw [hz] at h1 h2; exact lv_aloadN hC.1 hC.2.1 hd h1 h2
  | some a => rw [hz] at h1 h2; exact lv_aload hC.1 hC.2.1 hd h1 h2
theorem r_aload_n (kx : Nat) {n : Fin 4} {i : Nat} {z : Int} (hd : decode Y.2.1 pc = .ok (.aload_n n, 1)) (hi : (n : Nat) = i) (hm : lv[kx]? = some (i, (2, z))) (k : Rn Y d mc ms ca sl res (pc + 1) lv ((2, z) :: st) M) : Rn Y d mc ms ca sl res pc lv st M := by
  intro G p l e R s m args below meth c H locs ls Q hC hl hs hR hv hf
  have h1 := lv_mem hv (List.mem_of_getElem? hm)
  have h2 := k G p l e R s m args below meth c H locs ls Q hC hl (okS_c (show okV (2, z) from trivial) hs) hR hv hf
  rw [show cv G (2, z) = va_rf (rfO G z) from rfl] at h1
  rw [List.map_cons, show cv G (2, z) = va_rf (rfO G z) from rfl] at h2
  cases hz : rfO G z with
  | none => rw [hz] at h1 h2; exact lv_aload_nN hC.1 hC.2.1 hd hi h1 h2
  | some a => rw [hz] at h1 h2; exact lv_aload_n hC.1 hC.2.1 hd hi h1 h2
/-- what a store of one slot at i, of two where w is true, keeps of the known locals -/
def keepL (i : Nat) (w : Bool) (l : List (Nat × V)) : List (Nat × V) := l.filter (fun q => !(q.1 == i) && ((!w || !(q.1 == i + 1)) && !(q.1 + 1 == i && q.2.1 == 1)))
theorem cv_cat (G : GG) (v : V) : ((cv G v).category == 2) = (v.1 == 1) := by
  obtain ⟨t, z⟩ := v
  match t with
  | 0 => rfl
  | 1 => rfl
  | n + 2 =>
    show ((va_rf (rfO G z)).category == 2) = _
    cases rfO G z <;> simp [va_rf, Value.category]
theorem keep1 (G : GG) (i : Nat) (v : V) (l : List (Nat × V)) : (i, cv G v) :: (l.map fun q => (q.1, cv G q.2)).filter (fun q => !(q.1 == i) && !(q.1 + 1 == i && q.2.category == 2)) = ((i, v) :: keepL i false l).map fun q => (q.1, cv G q.2) := by
  rw [List.map_cons, List.filter_map]
  congr 2
  unfold keepL
  congr 1
  funext q
  simp [cv_cat]
theorem keep2 (G : GG) (i : Nat) (v : V) (l : List (Nat × V)) : (i, cv G v) :: (l.map fun q => (q.1, cv G q.2)).filter (fun q => !(q.1 == i) && (!(q.1 == i + 1) && !(q.1 + 1 == i && q.2.category == 2))) = ((i, v) :: keepL i true l).map fun q => (q.1, cv G q.2) := by
  rw [List.map_cons, List.filter_map]
  congr 2
  unfold keepL
  congr 1
  funext q
  simp [cv_cat]
theorem okL_k {i : Nat} {w : Bool} {v : V} {l : List (Nat × V)} (hv : okV v) (h : okL l) : okL ((i, v) :: keepL i w l) := okL_c hv (fun q hq => h q ((List.mem_filter.mp hq).1))
theorem r_istore {i : Nat} {z : Int} {lv' : List (Nat × V)} (hd : decode Y.2.1 pc = .ok (.istore i, 2)) (hn : i < Y.2.2.1) (he : (i, (0, z)) :: keepL i false lv = lv') (k : Rn Y d mc ms ca sl res (pc + 2) lv' st M) : Rn Y d mc ms ca sl res pc lv ((0, z) :: st) M := by
  intro G p l e R s m args below meth c H locs ls Q hC hl hs hR hv hf
  subst he
  exact lv_istore hC.1 hC.2.1 hd hv hn (keep1 G i (0, z) lv) (fun ls' h' => k G p l e R s m args below meth c H locs ls' Q hC (okL_k (okS_h hs) hl) (okS_t hs) hR h' hf)
theorem r_istore_n {n : Fin 4} {i : Nat} {z : Int} {lv' : List (Nat × V)} (hd : decode Y.2.1 pc = .ok (.istore_n n, 1)) (hi : (n : Nat) = i) (hn : i < Y.2.2.1) (he : (i, (0, z)) :: keepL i false lv = lv') (k : Rn Y d mc ms ca sl res (pc + 1) lv' st M) : Rn Y d mc ms ca sl res pc lv ((0, z) :: st) M := by
  intro G p l e R s m args below meth c H locs ls Q hC hl hs hR hv hf
  subst he
  exact lv_istore_n hC.1 hC.2.1 hd hi hv hn (keep1 G i (0, z) lv) (fun ls' h' => k G p l e R s m args below meth c H locs ls' Q hC (okL_k (okS_h hs) hl) (okS_t hs) hR h' hf)
theorem r_lstore {i : Nat} {z : Int} {lv' : List (Nat × V)} (hd : decode Y.2.1 pc = .ok (.lstore i, 2)) (hn : i + 1 < Y.2.2.1) (he : (i, (1, z)) :: keepL i true lv = lv') (k : Rn Y d mc ms ca sl res (pc + 2) lv' st M) : Rn Y d mc ms ca sl res pc lv ((1, z) :: st) M := by
  intro G p l e R s m args below meth c H locs ls Q hC hl hs hR hv hf
  subst he
  exact lv_lstore hC.1 hC.2.1 hd hv hn (keep2 G i (1, z) lv) (fun ls' h' => k G p l e R s m args below meth c H locs ls' Q hC (okL_k (okS_h hs) hl) (okS_t hs) hR h' hf)
theorem r_lstore_n {n : Fin 4} {i : Nat} {z : Int} {lv' : List (Nat × V)} (hd : decode Y.2.1 pc = .ok (.lstore_n n, 1)) (hi : (n : Nat) = i) (hn : i + 1 < Y.2.2.1) (he : (i, (1, z)) :: keepL i true lv = lv') (k : Rn Y d mc ms ca sl res (pc + 1) lv' st M) : Rn Y d mc ms ca sl res pc lv ((1, z) :: st) M := by
  intro G p l e R s m args below meth c H locs ls Q hC hl hs hR hv hf
  subst he
  exact lv_lstore_n hC.1 hC.2.1 hd hi hv hn (keep2 G i (1, z) lv) (fun ls' h' => k G p l e R s m args below meth c H locs ls' Q hC (okL_k (okS_h hs) hl) (okS_t hs) hR h' hf)
theorem r_astore {i : Nat} {z : Int} {lv' : List (Nat × V)} (hd : decode Y.2.1 pc = .ok (.astore i, 2)) (hn : i < Y.2.2.1) (he : (i, (2, z)) :: keepL i false lv = lv') (k : Rn Y d mc ms ca sl res (pc + 2) lv' st M) : Rn Y d mc ms ca sl res pc lv ((2, z) :: st) M := by
  intro G p l e R s m args below meth c H locs ls Q hC hl hs hR hv hf
  subst he
  have h1 := fun ls' h' => k G p l e R s m args below meth c H locs ls' Q hC (okL_k (show okV (2, z) from trivial) hl) (okS_t hs) hR h' hf
  have h2 := keep1 G i (2, z) lv
  rw [List.map_cons]
  rw [show cv G (2, z) = va_rf (rfO G z) from rfl] at h2 ⊢
  cases hz : rfO G z with
  | none => rw [hz] at h2; exact lv_astoreN hC.1 hC.2.1 hd hv hn h2 h1
  | some a => rw [hz] at h2; exact lv_astore hC.1 hC.2.1 hd hv hn h2 h1
theorem r_astore_n {n : Fin 4} {i : Nat} {z : Int} {lv' : List (Nat × V)} (hd : decode Y.2.1 pc = .ok (.astore_n n, 1)) (hi : (n : Nat) = i) (hn : i < Y.2.2.1) (he : (i, (2, z)) :: keepL i false lv = lv') (k : Rn Y d mc ms ca sl res (pc + 1) lv' st M) : Rn Y d mc ms ca sl res pc lv ((2, z) :: st) M := by
  intro G p l e R s m args below meth c H locs ls Q hC hl hs hR hv hf
  subst he
  have h1 := fun ls' h' => k G p l e R s m args below meth c H locs ls' Q hC (okL_k (show okV (2, z) from trivial) hl) (okS_t hs) hR h' hf
  have h2 := keep1 G i (2, z) lv
  rw [List.map_cons]
  rw [show cv G (2, z) = va_rf (rfO G z) from rfl] at h2 ⊢
  cases hz : rfO G z with
  | none => rw [hz] at h2; exact lv_astore_nN hC.1 hC.2.1 hd hi hv hn h2 h1
  | some a => rw [hz] at h2; exact lv_astore_n hC.1 hC.2.1 hd hi hv hn h2 h1
theorem r_iinc (kx : Nat) {i : Nat} {n z : Int} {lv' : List (Nat × V)} (hd : decode Y.2.1 pc = .ok (.iinc i n, 3)) (hm : lv[kx]? = some (i, (0, z))) (hn : i < Y.2.2.1) (he : (i, (0, wr (z + n))) :: keepL i false lv = lv') (k : Rn Y d mc ms ca sl res (pc + 3) lv' st M) : Rn Y d mc ms ca sl res pc lv st M := by
  intro G p l e R s m args below meth c H locs ls Q hC hl hs hR hv hf
  subst he
  refine lv_iinc hC.1 hC.2.1 hd hv (k := kx) (x := Int32.ofInt z) ?_ (show Int32.ofInt z + Int32.ofInt n = Int32.ofInt (wr (z + n)) by rw [o_wr, Int32.ofInt_add]) hn (keep1 G i (0, wr (z + n)) lv) (fun ls' h' => k G p l e R s m args below meth c H locs ls' Q hC (okL_k (wr_ok _) hl) hs hR h' hf)
  rw [List.getElem?_map, hm]
  rfl
theorem cat1 {G : GG} {v : V} (h : (v.1 == 1) = false) : (cv G v).category = 1 := by
  have h1 := cv_cat G v
  rw [h] at h1
  rcases lv_cat (cv G v) with q | q
  · exact q
  · rw [q] at h1; cases h1
theorem r_dup {v : V} (hd : decode Y.2.1 pc = .ok (.dup, 1)) (hv1 : (v.1 == 1) = false) (k : Rn Y d mc ms ca sl res (pc + 1) lv (v :: v :: st) M) : Rn Y d mc ms ca sl res pc lv (v :: st) M := by
  intro G p l e R s m args below meth c H locs ls Q hC hl hs hR hv hf
  exact lv_dup hC.1 hC.2.1 hd (cat1 hv1) (k G p l e R s m args below meth c H locs ls Q hC hl (okS_c (okS_h hs) hs) hR hv hf)
theorem r_pop {v : V} (hd : decode Y.2.1 pc = .ok (.pop, 1)) (hv1 : (v.1 == 1) = false) (k : Rn Y d mc ms ca sl res (pc + 1) lv (st) M) : Rn Y d mc ms ca sl res pc lv (v :: st) M := by
  intro G p l e R s m args below meth c H locs ls Q hC hl hs hR hv hf
  exact lv_pop hC.1 hC.2.1 hd (cat1 hv1) (k G p l e R s m args below meth c H locs ls Q hC hl (okS_t hs) hR hv hf)
theorem r_dup_x1 {v w : V} (hd : decode Y.2.1 pc = .ok (.dup_x1, 1)) (hv1 : (v.1 == 1) = false) (hw1 : (w.1 == 1) = false) (k : Rn Y d mc ms ca sl res (pc + 1) lv (v :: w :: v :: st) M) : Rn Y d mc ms ca sl res pc lv (v :: w :: st) M := by
  intro G p l e R s m args below meth c H locs ls Q hC hl hs hR hv hf
  exact lv_dup_x1 hC.1 hC.2.1 hd (cat1 hv1) (cat1 hw1) (k G p l e R s m args below meth c H locs ls Q hC hl (okS_c (okS_h hs) (okS_c (okS_h (okS_t hs)) (okS_c (okS_h hs) (okS_t (okS_t hs))))) hR hv hf)
theorem r_dup2 {v w : V} (hd : decode Y.2.1 pc = .ok (.dup2, 1)) (hv1 : (v.1 == 1) = false) (hw1 : (w.1 == 1) = false) (k : Rn Y d mc ms ca sl res (pc + 1) lv (v :: w :: v :: w :: st) M) : Rn Y d mc ms ca sl res pc lv (v :: w :: st) M := by
  intro G p l e R s m args below meth c H locs ls Q hC hl hs hR hv hf
  exact lv_dup2_11 hC.1 hC.2.1 hd (cat1 hv1) (cat1 hw1) (k G p l e R s m args below meth c H locs ls Q hC hl (okS_c (okS_h hs) (okS_c (okS_h (okS_t hs)) hs)) hR hv hf)
theorem r_pop2 {z : Int} (hd : decode Y.2.1 pc = .ok (.pop2, 1)) (k : Rn Y d mc ms ca sl res (pc + 1) lv st M) : Rn Y d mc ms ca sl res pc lv ((1, z) :: st) M := by
  intro G p l e R s m args below meth c H locs ls Q hC hl hs hR hv hf
  exact lv_pop2_2 hC.1 hC.2.1 hd rfl (k G p l e R s m args below meth c H locs ls Q hC hl (okS_t hs) hR hv hf)
theorem r_goto {off : Int} {tgt : Nat} (hd : decode Y.2.1 pc = .ok (.goto off, 3)) (ht : (pc : Int) + off = (tgt : Int)) (k : Rn Y d mc ms ca sl res tgt lv st M) : Rn Y d mc ms ca sl res pc lv st M := by
  intro G p l e R s m args below meth c H locs ls Q hC hl hs hR hv hf
  exact lv_goto hC.1 hC.2.1 hd ht (k G p l e R s m args below meth c H locs ls Q hC hl hs hR hv hf)
theorem r_icmp_eq {x y : Int} {off : Int} {tgt : Nat} (hd : decode Y.2.1 pc = .ok (.if_icmp .eq off, 3)) (ht : (pc : Int) + off = (tgt : Int)) (kt : x = y → Rn Y d mc ms ca sl res tgt lv st M) (kf : ¬ x = y → Rn Y d mc ms ca sl res (pc + 3) lv st M) : Rn Y d mc ms ca sl res pc lv ((0, y) :: (0, x) :: st) M := by
  intro G p l e R s m args below meth c H locs ls Q hC hl hs hR hv hf
  have hy : r32 y := okS_h hs
  have hx : r32 x := okS_h (okS_t hs)
  exact lv_icmp_eq hC.1 hC.2.1 hd ht (fun h => kt ((eq32 hx hy).mp h) G p l e R s m args below meth c H locs ls Q hC hl (okS_t (okS_t hs)) hR hv hf) (fun h => kf (fun q => h ((eq32 hx hy).mpr q)) G p l e R s m args below meth c H locs ls Q hC hl (okS_t (okS_t hs)) hR hv hf)
theorem r_if_eq {x : Int} {off : Int} {tgt : Nat} (hd : decode Y.2.1 pc = .ok (.ifCond .eq off, 3)) (ht : (pc : Int) + off = (tgt : Int)) (kt : x = 0 → Rn Y d mc ms ca sl res tgt lv st M) (kf : ¬ x = 0 → Rn Y d mc ms ca sl res (pc + 3) lv st M) : Rn Y d mc ms ca sl res pc lv ((0, x) :: st) M := by
  intro G p l e R s m args below meth c H locs ls Q hC hl hs hR hv hf
  have hx : r32 x := okS_h hs
  have hy : r32 0 := r32_0
  exact lv_if_eq hC.1 hC.2.1 hd ht (fun h => kt ((eq32 hx hy).mp h) G p l e R s m args below meth c H locs ls Q hC hl (okS_t hs) hR hv hf) (fun h => kf (fun q => h ((eq32 hx hy).mpr q)) G p l e R s m args below meth c H locs ls Q hC hl (okS_t hs) hR hv hf)
theorem r_icmp_ne {x y : Int} {off : Int} {tgt : Nat} (hd : decode Y.2.1 pc = .ok (.if_icmp .ne off, 3)) (ht : (pc : Int) + off = (tgt : Int)) (kt : ¬ x = y → Rn Y d mc ms ca sl res tgt lv st M) (kf : x = y → Rn Y d mc ms ca sl res (pc + 3) lv st M) : Rn Y d mc ms ca sl res pc lv ((0, y) :: (0, x) :: st) M := by
  intro G p l e R s m args below meth c H locs ls Q hC hl hs hR hv hf
  have hy : r32 y := okS_h hs
  have hx : r32 x := okS_h (okS_t hs)
  exact lv_icmp_ne hC.1 hC.2.1 hd ht (fun h => kt (fun q => h ((eq32 hx hy).mpr q)) G p l e R s m args below meth c H locs ls Q hC hl (okS_t (okS_t hs)) hR hv hf) (fun h => kf ((eq32 hx hy).mp h) G p l e R s m args below meth c H locs ls Q hC hl (okS_t (okS_t hs)) hR hv hf)
theorem r_if_ne {x : Int} {off : Int} {tgt : Nat} (hd : decode Y.2.1 pc = .ok (.ifCond .ne off, 3)) (ht : (pc : Int) + off = (tgt : Int)) (kt : ¬ x = 0 → Rn Y d mc ms ca sl res tgt lv st M) (kf : x = 0 → Rn Y d mc ms ca sl res (pc + 3) lv st M) : Rn Y d mc ms ca sl res pc lv ((0, x) :: st) M := by
  intro G p l e R s m args below meth c H locs ls Q hC hl hs hR hv hf
  have hx : r32 x := okS_h hs
  have hy : r32 0 := r32_0
  exact lv_if_ne hC.1 hC.2.1 hd ht (fun h => kt (fun q => h ((eq32 hx hy).mpr q)) G p l e R s m args below meth c H locs ls Q hC hl (okS_t hs) hR hv hf) (fun h => kf ((eq32 hx hy).mp h) G p l e R s m args below meth c H locs ls Q hC hl (okS_t hs) hR hv hf)
theorem r_icmp_lt {x y : Int} {off : Int} {tgt : Nat} (hd : decode Y.2.1 pc = .ok (.if_icmp .lt off, 3)) (ht : (pc : Int) + off = (tgt : Int)) (kt : x < y → Rn Y d mc ms ca sl res tgt lv st M) (kf : ¬ x < y → Rn Y d mc ms ca sl res (pc + 3) lv st M) : Rn Y d mc ms ca sl res pc lv ((0, y) :: (0, x) :: st) M := by
  intro G p l e R s m args below meth c H locs ls Q hC hl hs hR hv hf
  have hy : r32 y := okS_h hs
  have hx : r32 x := okS_h (okS_t hs)
  exact lv_icmp_lt hC.1 hC.2.1 hd ht (fun h => kt ((lt32 hx hy).mp h) G p l e R s m args below meth c H locs ls Q hC hl (okS_t (okS_t hs)) hR hv hf) (fun h => kf (fun q => h ((lt32 hx hy).mpr q)) G p l e R s m args below meth c H locs ls Q hC hl (okS_t (okS_t hs)) hR hv hf)
theorem r_if_lt {x : Int} {off : Int} {tgt : Nat} (hd : decode Y.2.1 pc = .ok (.ifCond .lt off, 3)) (ht : (pc : Int) + off = (tgt : Int)) (kt : x < 0 → Rn Y d mc ms ca sl res tgt lv st M) (kf : ¬ x < 0 → Rn Y d mc ms ca sl res (pc + 3) lv st M) : Rn Y d mc ms ca sl res pc lv ((0, x) :: st) M := by
  intro G p l e R s m args below meth c H locs ls Q hC hl hs hR hv hf
  have hx : r32 x := okS_h hs
  have hy : r32 0 := r32_0
  exact lv_if_lt hC.1 hC.2.1 hd ht (fun h => kt ((lt32 hx hy).mp h) G p l e R s m args below meth c H locs ls Q hC hl (okS_t hs) hR hv hf) (fun h => kf (fun q => h ((lt32 hx hy).mpr q)) G p l e R s m args below meth c H locs ls Q hC hl (okS_t hs) hR hv hf)
theorem r_icmp_ge {x y : Int} {off : Int} {tgt : Nat} (hd : decode Y.2.1 pc = .ok (.if_icmp .ge off, 3)) (ht : (pc : Int) + off = (tgt : Int)) (kt : y ≤ x → Rn Y d mc ms ca sl res tgt lv st M) (kf : ¬ y ≤ x → Rn Y d mc ms ca sl res (pc + 3) lv st M) : Rn Y d mc ms ca sl res pc lv ((0, y) :: (0, x) :: st) M := by
  intro G p l e R s m args below meth c H locs ls Q hC hl hs hR hv hf
  have hy : r32 y := okS_h hs
  have hx : r32 x := okS_h (okS_t hs)
  exact lv_icmp_ge hC.1 hC.2.1 hd ht (fun h => kt ((le32 hy hx).mp h) G p l e R s m args below meth c H locs ls Q hC hl (okS_t (okS_t hs)) hR hv hf) (fun h => kf (fun q => h ((le32 hy hx).mpr q)) G p l e R s m args below meth c H locs ls Q hC hl (okS_t (okS_t hs)) hR hv hf)
theorem r_if_ge {x : Int} {off : Int} {tgt : Nat} (hd : decode Y.2.1 pc = .ok (.ifCond .ge off, 3)) (ht : (pc : Int) + off = (tgt : Int)) (kt : 0 ≤ x → Rn Y d mc ms ca sl res tgt lv st M) (kf : ¬ 0 ≤ x → Rn Y d mc ms ca sl res (pc + 3) lv st M) : Rn Y d mc ms ca sl res pc lv ((0, x) :: st) M := by
  intro G p l e R s m args below meth c H locs ls Q hC hl hs hR hv hf
  have hx : r32 x := okS_h hs
  have hy : r32 0 := r32_0
  exact lv_if_ge hC.1 hC.2.1 hd ht (fun h => kt ((le32 hy hx).mp h) G p l e R s m args below meth c H locs ls Q hC hl (okS_t hs) hR hv hf) (fun h => kf (fun q => h ((le32 hy hx).mpr q)) G p l e R s m args below meth c H locs ls Q hC hl (okS_t hs) hR hv hf)
theorem r_icmp_gt {x y : Int} {off : Int} {tgt : Nat} (hd : decode Y.2.1 pc = .ok (.if_icmp .gt off, 3)) (ht : (pc : Int) + off = (tgt : Int)) (kt : y < x → Rn Y d mc ms ca sl res tgt lv st M) (kf : ¬ y < x → Rn Y d mc ms ca sl res (pc + 3) lv st M) : Rn Y d mc ms ca sl res pc lv ((0, y) :: (0, x) :: st) M := by
  intro G p l e R s m args below meth c H locs ls Q hC hl hs hR hv hf
  have hy : r32 y := okS_h hs
  have hx : r32 x := okS_h (okS_t hs)
  exact lv_icmp_gt hC.1 hC.2.1 hd ht (fun h => kt ((lt32 hy hx).mp h) G p l e R s m args below meth c H locs ls Q hC hl (okS_t (okS_t hs)) hR hv hf) (fun h => kf (fun q => h ((lt32 hy hx).mpr q)) G p l e R s m args below meth c H locs ls Q hC hl (okS_t (okS_t hs)) hR hv hf)
theorem r_if_gt {x : Int} {off : Int} {tgt : Nat} (hd : decode Y.2.1 pc = .ok (.ifCond .gt off, 3)) (ht : (pc : Int) + off = (tgt : Int)) (kt : 0 < x → Rn Y d mc ms ca sl res tgt lv st M) (kf : ¬ 0 < x → Rn Y d mc ms ca sl res (pc + 3) lv st M) : Rn Y d mc ms ca sl res pc lv ((0, x) :: st) M := by
  intro G p l e R s m args below meth c H locs ls Q hC hl hs hR hv hf
  have hx : r32 x := okS_h hs
  have hy : r32 0 := r32_0
  exact lv_if_gt hC.1 hC.2.1 hd ht (fun h => kt ((lt32 hy hx).mp h) G p l e R s m args below meth c H locs ls Q hC hl (okS_t hs) hR hv hf) (fun h => kf (fun q => h ((lt32 hy hx).mpr q)) G p l e R s m args below meth c H locs ls Q hC hl (okS_t hs) hR hv hf)
theorem r_icmp_le {x y : Int} {off : Int} {tgt : Nat} (hd : decode Y.2.1 pc = .ok (.if_icmp .le off, 3)) (ht : (pc : Int) + off = (tgt : Int)) (kt : x ≤ y → Rn Y d mc ms ca sl res tgt lv st M) (kf : ¬ x ≤ y → Rn Y d mc ms ca sl res (pc + 3) lv st M) : Rn Y d mc ms ca sl res pc lv ((0, y) :: (0, x) :: st) M := by
  intro G p l e R s m args below meth c H locs ls Q hC hl hs hR hv hf
  have hy : r32 y := okS_h hs
  have hx : r32 x := okS_h (okS_t hs)
  exact lv_icmp_le hC.1 hC.2.1 hd ht (fun h => kt ((le32 hx hy).mp h) G p l e R s m args below meth c H locs ls Q hC hl (okS_t (okS_t hs)) hR hv hf) (fun h => kf (fun q => h ((le32 hx hy).mpr q)) G p l e R s m args below meth c H locs ls Q hC hl (okS_t (okS_t hs)) hR hv hf)
theorem r_if_le {x : Int} {off : Int} {tgt : Nat} (hd : decode Y.2.1 pc = .ok (.ifCond .le off, 3)) (ht : (pc : Int) + off = (tgt : Int)) (kt : x ≤ 0 → Rn Y d mc ms ca sl res tgt lv st M) (kf : ¬ x ≤ 0 → Rn Y d mc ms ca sl res (pc + 3) lv st M) : Rn Y d mc ms ca sl res pc lv ((0, x) :: st) M := by
  intro G p l e R s m args below meth c H locs ls Q hC hl hs hR hv hf
  have hx : r32 x := okS_h hs
  have hy : r32 0 := r32_0
  exact lv_if_le hC.1 hC.2.1 hd ht (fun h => kt ((le32 hx hy).mp h) G p l e R s m args below meth c H locs ls Q hC hl (okS_t hs) hR hv hf) (fun h => kf (fun q => h ((le32 hx hy).mpr q)) G p l e R s m args below meth c H locs ls Q hC hl (okS_t hs) hR hv hf)
theorem r_ifnull {z : Int} {off : Int} {tgt : Nat} (hd : decode Y.2.1 pc = .ok (.ifnull off, 3)) (ht : (pc : Int) + off = (tgt : Int)) (kt : z < 0 → Rn Y d mc ms ca sl res tgt lv st M) (kf : ¬ z < 0 → Rn Y d mc ms ca sl res (pc + 3) lv st M) : Rn Y d mc ms ca sl res pc lv ((2, z) :: st) M := by
  intro G p l e R s m args below meth c H locs ls Q hC hl hs hR hv hf
  rw [List.map_cons, show cv G (2, z) = va_rf (rfO G z) from rfl]
  by_cases hz : z < 0
  · rw [show rfO G z = none by simp [rfO, hz]]
    exact lv_ifnullN hC.1 hC.2.1 hd ht (kt hz G p l e R s m args below meth c H locs ls Q hC hl (okS_t hs) hR hv hf)
  · obtain ⟨a, ha⟩ : ∃ a, rfO G z = some a := by
      unfold rfO
      rw [if_neg hz]
      split
      · exact ⟨_, rfl⟩
      · split <;> exact ⟨_, rfl⟩
    rw [ha]
    exact lv_ifnull hC.1 hC.2.1 hd (kf hz G p l e R s m args below meth c H locs ls Q hC hl (okS_t hs) hR hv hf)
theorem r_ifnonnull {z : Int} {off : Int} {tgt : Nat} (hd : decode Y.2.1 pc = .ok (.ifnonnull off, 3)) (ht : (pc : Int) + off = (tgt : Int)) (kt : ¬ z < 0 → Rn Y d mc ms ca sl res tgt lv st M) (kf : z < 0 → Rn Y d mc ms ca sl res (pc + 3) lv st M) : Rn Y d mc ms ca sl res pc lv ((2, z) :: st) M := by
  intro G p l e R s m args below meth c H locs ls Q hC hl hs hR hv hf
  rw [List.map_cons, show cv G (2, z) = va_rf (rfO G z) from rfl]
  by_cases hz : z < 0
  · rw [show rfO G z = none by simp [rfO, hz]]
    exact lv_ifnonnullN hC.1 hC.2.1 hd (kf hz G p l e R s m args below meth c H locs ls Q hC hl (okS_t hs) hR hv hf)
  · obtain ⟨a, ha⟩ : ∃ a, rfO G z = some a := by
      unfold rfO
      rw [if_neg hz]
      split
      · exact ⟨_, rfl⟩
      · split <;> exact ⟨_, rfl⟩
    rw [ha]
    exact lv_ifnonnull hC.1 hC.2.1 hd ht (kt hz G p l e R s m args below meth c H locs ls Q hC hl (okS_t hs) hR hv hf)
theorem r_table {z : Int} {dflt lo hi : Int} {offs : Array Int} {len : Nat} (hd : decode Y.2.1 pc = .ok (.tableswitch dflt lo hi offs, len)) (tg : Nat → Nat) (dt : Nat) (hdt : (pc : Int) + dflt = (dt : Int)) (hof : ∀ j : Nat, (j : Int) ≤ hi - lo → ∃ off, offs[j]? = some off ∧ (pc : Int) + off = (tg j : Int)) (kd : (z < lo ∨ hi < z) → Rn Y d mc ms ca sl res dt lv st M) (ki : ∀ j : Nat, z = lo + j → (j : Int) ≤ hi - lo → Rn Y d mc ms ca sl res (tg j) lv st M) : Rn Y d mc ms ca sl res pc lv ((0, z) :: st) M := by
  intro G p l e R s m args below meth c H locs ls Q hC hl hs hR hv hf
  have hz : r32 z := okS_h hs
  have ez : (Int32.ofInt z).toInt = z := wr_of hz
  by_cases h : z < lo ∨ hi < z
  · exact lv_tableOut hC.1 hC.2.1 hd (by rw [ez]; exact h) hdt (kd h G p l e R s m args below meth c H locs ls Q hC hl (okS_t hs) hR hv hf)
  · have hj : z = lo + ((z - lo).toNat : Nat) := by omega
    have hj2 : (((z - lo).toNat : Nat) : Int) ≤ hi - lo := by omega
    obtain ⟨off, h1, h2⟩ := hof _ hj2
    exact lv_tableIn hC.1 hC.2.1 hd (by rw [ez]; omega) (by rw [ez]; omega) (by rw [ez]; exact h1) h2 (ki _ hj hj2 G p l e R s m args below meth c H locs ls Q hC hl (okS_t hs) hR hv hf)
end RULES
