/-! TreeTonguesModel.make(I)I -/
noncomputable def L_M_make_23 (k : Int → Mem → Option (Int × Mem)) (v0 : Int) (v1 : Int) : Nat → Int → Int → Mem → Option (Int × Mem)
  | 0 => fun _ _ _ => none
  | n + 1 => fun v2 v3 M => (if v2 ≤ v3 then (some 0) else (if 6 < v2 then (some 0) else (some 1))).bind fun (t25 : Int) => if t25 = 0 then (k v2 M) else ((ck M v0 9 54).bind fun _ => (D_M_divide v0 0 M).bind fun x38 => L_M_make_23 k v0 v1 n x38.1 v2 x38.2)
noncomputable def L_M_make_57 (k : Mem → Option (Int × Mem)) (v0 : Int) (v1 : Int) (v2 : Int) : Nat → Int → Mem → Option (Int × Mem)
  | 0 => fun _ _ => none
  | n + 1 => fun v4 M => if 6 ≤ v4 then (k  M) else ((gf M v0 9 54 33).bind fun g65 => (wt M 10 g65 v4 (-1)).bind fun m71 => L_M_make_57 k v0 v1 v2 n (wr (v4 + 1)) m71)
noncomputable def L_M_make_81 (k : Mem → Option (Int × Mem)) (v0 : Int) (v1 : Int) (v2 : Int) : Nat → Int → Mem → Option (Int × Mem)
  | 0 => fun _ _ => none
  | n + 1 => fun v4 M => if v2 ≤ v4 then (k  M) else ((ck M v0 9 54).bind fun _ => (D_M_seek v0 v1 v4 M).bind fun x91 => (gf x91 v0 9 54 33).bind fun g95 => (gf x91 v0 9 54 38).bind fun g99 => (wt x91 10 g95 g99 v4).bind fun m104 => (gf m104 v0 9 54 39).bind fun g106 => (gf m104 v0 9 54 38).bind fun g112 => (wt m104 10 g106 v4 g112).bind fun m115 => (gf m115 v0 9 54 16).bind fun g117 => (gf m115 v0 9 54 34).bind fun g128 => (wt m115 10 g117 (wr ((wr (6 * v1)) + v4)) g128).bind fun m131 => (gf m131 v0 9 54 17).bind fun g133 => (gf m131 v0 9 54 35).bind fun g144 => (wt m131 10 g133 (wr ((wr (6 * v1)) + v4)) g144).bind fun m147 => (gf m147 v0 9 54 18).bind fun g149 => (gf m147 v0 9 54 36).bind fun g160 => (wt m147 10 g149 (wr ((wr (6 * v1)) + v4)) g160).bind fun m163 => (gf m163 v0 9 54 19).bind fun g165 => (gf m163 v0 9 54 37).bind fun g176 => (wt m163 10 g165 (wr ((wr (6 * v1)) + v4)) g176).bind fun m179 => L_M_make_81 k v0 v1 v2 n (wr (v4 + 1)) m179)
noncomputable def D_M_make (a0 a1 : Int) (M : Mem) : Option (Int × Mem) := (ck M a0 9 54).bind fun _ => (D_M_findKeys a0 M).bind fun x1 => (gf x1 a0 9 54 26).bind fun g5 => (if g5 = 0 then (some (0, x1)) else ((ck x1 a0 9 54).bind fun _ => (D_M_divide a0 1 x1).bind fun x17 => some (x17.1, x17.2))).bind fun (t8 : Int × Mem) => L_M_make_23 (fun w2_23 m23 => if w2_23 ≤ 6 then (L_M_make_57 (fun  m57 => L_M_make_81 (fun  m81 => (ck m81 a0 9 54).bind fun _ => (D_M_layMachine a0 a1 w2_23 m81).bind fun x189 => some (0, x189)) a0 a1 w2_23 FU 0 m57) a0 a1 w2_23 FU 0 m23) else (some ((-5), m23))) a0 a1 FU t8.1 0 t8.2
theorem sL_M_make_23 {d mc ms : Nat} (hd : 7 ≤ d) {r : Int × Mem} {k : Int → Mem → Option (Int × Mem)} {v0 : Int} {v1 : Int} (hk : ∀ (v2 : Int) (M : Mem), k v2 M = some r → Rn Y_M_make d mc ms 0 0 (some (0, r.1), r.2) 45 [(0, (2, v0)), (1, (0, v1)), (2, (0, v2))] [] M) : ∀ (n : Nat) (v2 : Int) (v3 : Int) (M : Mem), L_M_make_23 k v0 v1 n v2 v3 M = some r → Rn Y_M_make d mc ms 0 0 (some (0, r.1), r.2) 23 [(0, (2, v0)), (1, (0, v1)), (2, (0, v2)), (3, (0, v3))] [] M := by
  intro n
  induction n with
  | zero => intro _ _ _ h; cases h
  | succ n ih =>
    intro v2 v3 M h
    rw [L_M_make_23] at h
    refine r_iload_n (pc := 23) 2 (n := 2) (by decide +kernel) rfl rfl ?_
    refine r_iload_n (pc := 24) 3 (n := 3) (by decide +kernel) rfl rfl ?_
    obtain ⟨t25, ht25, h⟩ := bnd h
    have E25_0 : t25 = 0 → Rn Y_M_make d mc ms 0 0 (some (0, r.1), r.2) 45 [(0, (2, v0)), (1, (0, v1)), (2, (0, v2))] [] M := by
      intro y0
      have h := ite_t y0 h
      exact hk v2 M h
    have E25_1 : ¬ t25 = 0 → Rn Y_M_make d mc ms 0 0 (some (0, r.1), r.2) 34 [(0, (2, v0)), (1, (0, v1)), (2, (0, v2))] [] M := by
      intro n0
      have h := ite_f n0 h
      refine r_iload_n (pc := 34) 2 (n := 2) (by decide +kernel) rfl rfl ?_
      refine r_istore_n (pc := 35) (n := 3) (lv' := [(3, (0, v2)), (0, (2, v0)), (1, (0, v1)), (2, (0, v2))]) (by decide +kernel) rfl (Nat.le_of_ble_eq_true rfl) rfl ?_
      refine r_aload_n (pc := 36) 1 (n := 0) (by decide +kernel) rfl rfl ?_
      refine r_iconst (pc := 37) (z := 0) (by decide +kernel) ⟨by decide, by decide⟩ ?_
      obtain ⟨_, q38c, h⟩ := bnd h
      obtain ⟨x38, q38, h⟩ := bnd h
      refine r_callV (pc := 38) (i := 241) (d2 := d - 1) (As := [(0, 0)]) (st := []) (st1 := [(0, 0), (2, v0)]) (by decide +kernel) yk_M_divide (by decide) rfl ⟨ml_M_241, vk_M_divide⟩ np_M_divide rfl (by omega) q38c (c_M_divide (d := d - 1) (by omega) q38) (Nat.le_of_ble_eq_true rfl) (Nat.le_of_ble_eq_true rfl) (Nat.le_of_ble_eq_true rfl) rfl ?_
      show Rn _ d _ _ 0 0 _ 41 [(3, (0, v2)), (0, (2, v0)), (1, (0, v1)), (2, (0, v2))] [(0, x38.1)] x38.2
      refine r_istore_n (pc := 41) (n := 2) (lv' := [(2, (0, x38.1)), (3, (0, v2)), (0, (2, v0)), (1, (0, v1))]) (by decide +kernel) rfl (Nat.le_of_ble_eq_true rfl) rfl ?_
      refine r_goto (pc := 42) (off := (-19)) (tgt := 23) (by decide +kernel) (by decide) ?_
      refine r_lv [2, 3, 0, 1] rfl ?_
      exact ih x38.1 v2 x38.2 h
    refine r_icmp_le (pc := 25) (off := 20) (tgt := 45) (by decide +kernel) (by decide) (fun c25 => ?_) (fun c25 => ?_)
    · have ht25 := ite_t c25 ht25
      obtain rfl := Option.some.inj ht25
      refine r_lv [0, 1, 2] rfl ?_
      exact E25_0 rfl
    · have ht25 := ite_f c25 ht25
      refine r_iload_n (pc := 28) 2 (n := 2) (by decide +kernel) rfl rfl ?_
      refine r_bipush (pc := 29) (z := 6) (by decide +kernel) ⟨by decide, by decide⟩ ?_
      refine r_icmp_gt (pc := 31) (off := 14) (tgt := 45) (by decide +kernel) (by decide) (fun c31 => ?_) (fun c31 => ?_)
      · have ht25 := ite_t c31 ht25
        obtain rfl := Option.some.inj ht25
        refine r_lv [0, 1, 2] rfl ?_
        exact E25_0 rfl
      · have ht25 := ite_f c31 ht25
        obtain rfl := Option.some.inj ht25
        refine r_lv [0, 1, 2] rfl ?_
        exact E25_1 (show ¬ (1 : Int) = 0 by decide)
theorem sL_M_make_57 {d mc ms : Nat} (hd : 7 ≤ d) {r : Int × Mem} {k : Mem → Option (Int × Mem)} {v0 : Int} {v1 : Int} {v2 : Int} (hk : ∀ (M : Mem), k M = some r → Rn Y_M_make d mc ms 0 0 (some (0, r.1), r.2) 78 [(0, (2, v0)), (1, (0, v1)), (2, (0, v2))] [] M) : ∀ (n : Nat) (v4 : Int) (M : Mem), L_M_make_57 k v0 v1 v2 n v4 M = some r → Rn Y_M_make d mc ms 0 0 (some (0, r.1), r.2) 57 [(0, (2, v0)), (1, (0, v1)), (2, (0, v2)), (4, (0, v4))] [] M := by
  intro n
  induction n with
  | zero => intro _ _ h; cases h
  | succ n ih =>
    intro v4 M h
    rw [L_M_make_57] at h
    refine r_iload (pc := 57) 3 (by decide +kernel) rfl ?_
    refine r_bipush (pc := 59) (z := 6) (by decide +kernel) ⟨by decide, by decide⟩ ?_
    refine r_icmp_ge (pc := 61) (off := 17) (tgt := 78) (by decide +kernel) (by decide) (fun c61 => ?_) (fun c61 => ?_)
    · have h := ite_t c61 h
      refine r_lv [0, 1, 2] rfl ?_
      exact hk  M h
    · have h := ite_f c61 h
      refine r_aload_n (pc := 64) 0 (n := 0) (by decide +kernel) rfl rfl ?_
      obtain ⟨g65, q65, h⟩ := bnd h
      refine r_get (pc := 65) (by decide +kernel) fl_M_81.r (by decide) rfl q65 ?_
      refine r_iload (pc := 68) 3 (by decide +kernel) rfl ?_
      refine r_iconst (pc := 70) (z := (-1)) (by decide +kernel) ⟨by decide, by decide⟩ ?_
      obtain ⟨m71, q71, h⟩ := bnd h
      refine r_iast (pc := 71) (by decide +kernel) q71 ?_
      refine r_iinc (pc := 72) 3 (n := 1) (lv' := [(4, (0, wr (v4 + 1))), (0, (2, v0)), (1, (0, v1)), (2, (0, v2))]) (by decide +kernel) rfl (Nat.le_of_ble_eq_true rfl) rfl ?_
      refine r_goto (pc := 75) (off := (-18)) (tgt := 57) (by decide +kernel) (by decide) ?_
      refine r_lv [1, 2, 3, 0] rfl ?_
      exact ih (wr (v4 + 1)) m71 h
theorem sL_M_make_81 {d mc ms : Nat} (hd : 7 ≤ d) {r : Int × Mem} {k : Mem → Option (Int × Mem)} {v0 : Int} {v1 : Int} {v2 : Int} (hk : ∀ (M : Mem), k M = some r → Rn Y_M_make d mc ms 0 0 (some (0, r.1), r.2) 186 [(0, (2, v0)), (1, (0, v1)), (2, (0, v2))] [] M) : ∀ (n : Nat) (v4 : Int) (M : Mem), L_M_make_81 k v0 v1 v2 n v4 M = some r → Rn Y_M_make d mc ms 0 0 (some (0, r.1), r.2) 81 [(0, (2, v0)), (1, (0, v1)), (2, (0, v2)), (4, (0, v4))] [] M := by
  intro n
  induction n with
  | zero => intro _ _ h; cases h
  | succ n ih =>
    intro v4 M h
    rw [L_M_make_81] at h
    refine r_iload (pc := 81) 3 (by decide +kernel) rfl ?_
    refine r_iload_n (pc := 83) 2 (n := 2) (by decide +kernel) rfl rfl ?_
    refine r_icmp_ge (pc := 84) (off := 102) (tgt := 186) (by decide +kernel) (by decide) (fun c84 => ?_) (fun c84 => ?_)
    · have h := ite_t c84 h
      refine r_lv [0, 1, 2] rfl ?_
      exact hk  M h
    · have h := ite_f c84 h
      refine r_aload_n (pc := 87) 0 (n := 0) (by decide +kernel) rfl rfl ?_
      refine r_iload_n (pc := 88) 1 (n := 1) (by decide +kernel) rfl rfl ?_
      refine r_iload (pc := 89) 3 (by decide +kernel) rfl ?_
      obtain ⟨_, q91c, h⟩ := bnd h
      obtain ⟨x91, q91, h⟩ := bnd h
      refine r_callV (pc := 91) (i := 245) (d2 := d - 1) (As := [(0, v1), (0, v4)]) (st := []) (st1 := [(0, v4), (0, v1), (2, v0)]) (by decide +kernel) yk_M_seek (by decide) rfl ⟨ml_M_245, vk_M_seek⟩ np_M_seek rfl (by omega) q91c (c_M_seek (d := d - 1) (by omega) q91) (Nat.le_of_ble_eq_true rfl) (Nat.le_of_ble_eq_true rfl) (Nat.le_of_ble_eq_true rfl) rfl ?_
      show Rn _ d _ _ 0 0 _ 94 [(0, (2, v0)), (1, (0, v1)), (2, (0, v2)), (4, (0, v4))] [] x91
      refine r_aload_n (pc := 94) 0 (n := 0) (by decide +kernel) rfl rfl ?_
      obtain ⟨g95, q95, h⟩ := bnd h
      refine r_get (pc := 95) (by decide +kernel) fl_M_81.r (by decide) rfl q95 ?_
      refine r_aload_n (pc := 98) 0 (n := 0) (by decide +kernel) rfl rfl ?_
      obtain ⟨g99, q99, h⟩ := bnd h
      refine r_get (pc := 99) (by decide +kernel) fl_M_231.r (by decide) rfl q99 ?_
      refine r_iload (pc := 102) 3 (by decide +kernel) rfl ?_
      obtain ⟨m104, q104, h⟩ := bnd h
      refine r_iast (pc := 104) (by decide +kernel) q104 ?_
      refine r_aload_n (pc := 105) 0 (n := 0) (by decide +kernel) rfl rfl ?_
      obtain ⟨g106, q106, h⟩ := bnd h
      refine r_get (pc := 106) (by decide +kernel) fl_M_84.r (by decide) rfl q106 ?_
      refine r_iload (pc := 109) 3 (by decide +kernel) rfl ?_
      refine r_aload_n (pc := 111) 0 (n := 0) (by decide +kernel) rfl rfl ?_
      obtain ⟨g112, q112, h⟩ := bnd h
      refine r_get (pc := 112) (by decide +kernel) fl_M_231.r (by decide) rfl q112 ?_
      obtain ⟨m115, q115, h⟩ := bnd h
      refine r_iast (pc := 115) (by decide +kernel) q115 ?_
      refine r_aload_n (pc := 116) 0 (n := 0) (by decide +kernel) rfl rfl ?_
      obtain ⟨g117, q117, h⟩ := bnd h
      refine r_get (pc := 117) (by decide +kernel) fl_M_50.r (by decide) rfl q117 ?_
      refine r_bipush (pc := 120) (z := 6) (by decide +kernel) ⟨by decide, by decide⟩ ?_
      refine r_iload_n (pc := 122) 1 (n := 1) (by decide +kernel) rfl rfl ?_
      refine r_imul (pc := 123) (by decide +kernel) ?_
      refine r_iload (pc := 124) 3 (by decide +kernel) rfl ?_
      refine r_iadd (pc := 126) (by decide +kernel) ?_
      refine r_aload_n (pc := 127) 0 (n := 0) (by decide +kernel) rfl rfl ?_
      obtain ⟨g128, q128, h⟩ := bnd h
      refine r_get (pc := 128) (by decide +kernel) fl_M_219.r (by decide) rfl q128 ?_
      obtain ⟨m131, q131, h⟩ := bnd h
      refine r_iast (pc := 131) (by decide +kernel) q131 ?_
      refine r_aload_n (pc := 132) 0 (n := 0) (by decide +kernel) rfl rfl ?_
      obtain ⟨g133, q133, h⟩ := bnd h
      refine r_get (pc := 133) (by decide +kernel) fl_M_53.r (by decide) rfl q133 ?_
      refine r_bipush (pc := 136) (z := 6) (by decide +kernel) ⟨by decide, by decide⟩ ?_
      refine r_iload_n (pc := 138) 1 (n := 1) (by decide +kernel) rfl rfl ?_
      refine r_imul (pc := 139) (by decide +kernel) ?_
      refine r_iload (pc := 140) 3 (by decide +kernel) rfl ?_
      refine r_iadd (pc := 142) (by decide +kernel) ?_
      refine r_aload_n (pc := 143) 0 (n := 0) (by decide +kernel) rfl rfl ?_
      obtain ⟨g144, q144, h⟩ := bnd h
      refine r_get (pc := 144) (by decide +kernel) fl_M_222.r (by decide) rfl q144 ?_
      obtain ⟨m147, q147, h⟩ := bnd h
      refine r_iast (pc := 147) (by decide +kernel) q147 ?_
      refine r_aload_n (pc := 148) 0 (n := 0) (by decide +kernel) rfl rfl ?_
      obtain ⟨g149, q149, h⟩ := bnd h
      refine r_get (pc := 149) (by decide +kernel) fl_M_56.r (by decide) rfl q149 ?_
      refine r_bipush (pc := 152) (z := 6) (by decide +kernel) ⟨by decide, by decide⟩ ?_
      refine r_iload_n (pc := 154) 1 (n := 1) (by decide +kernel) rfl rfl ?_
      refine r_imul (pc := 155) (by decide +kernel) ?_
      refine r_iload (pc := 156) 3 (by decide +kernel) rfl ?_
      refine r_iadd (pc := 158) (by decide +kernel) ?_
      refine r_aload_n (pc := 159) 0 (n := 0) (by decide +kernel) rfl rfl ?_
      obtain ⟨g160, q160, h⟩ := bnd h
      refine r_get (pc := 160) (by decide +kernel) fl_M_225.r (by decide) rfl q160 ?_
      obtain ⟨m163, q163, h⟩ := bnd h
      refine r_iast (pc := 163) (by decide +kernel) q163 ?_
      refine r_aload_n (pc := 164) 0 (n := 0) (by decide +kernel) rfl rfl ?_
      obtain ⟨g165, q165, h⟩ := bnd h
      refine r_get (pc := 165) (by decide +kernel) fl_M_59.r (by decide) rfl q165 ?_
      refine r_bipush (pc := 168) (z := 6) (by decide +kernel) ⟨by decide, by decide⟩ ?_
      refine r_iload_n (pc := 170) 1 (n := 1) (by decide +kernel) rfl rfl ?_
      refine r_imul (pc := 171) (by decide +kernel) ?_
      refine r_iload (pc := 172) 3 (by decide +kernel) rfl ?_
      refine r_iadd (pc := 174) (by decide +kernel) ?_
      refine r_aload_n (pc := 175) 0 (n := 0) (by decide +kernel) rfl rfl ?_
      obtain ⟨g176, q176, h⟩ := bnd h
      refine r_get (pc := 176) (by decide +kernel) fl_M_228.r (by decide) rfl q176 ?_
      obtain ⟨m179, q179, h⟩ := bnd h
      refine r_iast (pc := 179) (by decide +kernel) q179 ?_
      refine r_iinc (pc := 180) 3 (n := 1) (lv' := [(4, (0, wr (v4 + 1))), (0, (2, v0)), (1, (0, v1)), (2, (0, v2))]) (by decide +kernel) rfl (Nat.le_of_ble_eq_true rfl) rfl ?_
      refine r_goto (pc := 183) (off := (-102)) (tgt := 81) (by decide +kernel) (by decide) ?_
      refine r_lv [1, 2, 3, 0] rfl ?_
      exact ih (wr (v4 + 1)) m179 h
theorem c_M_make {d : Nat} (hd : 7 ≤ d) {a0 a1 : Int} {M : Mem} {x : Int × Mem} (h : D_M_make a0 a1 M = some x) : Ct d Y_M_make [(2, a0), (0, a1)] M (some (0, x.1), x.2) 0 0 := by
  refine ct_of yk_M_make (Nat.le_of_ble_eq_true rfl) ?_
  rw [D_M_make] at h
  show Rn Y_M_make d 0 0 0 0 (some (0, x.1), x.2) 0 [(0, (2, a0)), (1, (0, a1))] [] M
  refine r_aload_n (pc := 0) 0 (n := 0) (by decide +kernel) rfl rfl ?_
  obtain ⟨_, q1c, h⟩ := bnd h
  obtain ⟨x1, q1, h⟩ := bnd h
  refine r_callV (pc := 1) (i := 238) (d2 := d - 1) (As := []) (st := []) (st1 := [(2, a0)]) (by decide +kernel) yk_M_findKeys (by decide) rfl ⟨ml_M_238, vk_M_findKeys⟩ np_M_findKeys rfl (by omega) q1c (c_M_findKeys (d := d - 1) (by omega) q1) (Nat.le_of_ble_eq_true rfl) (Nat.le_of_ble_eq_true rfl) (Nat.le_of_ble_eq_true rfl) rfl ?_
  show Rn _ d _ _ 0 0 _ 4 [(0, (2, a0)), (1, (0, a1))] [] x1
  refine r_aload_n (pc := 4) 0 (n := 0) (by decide +kernel) rfl rfl ?_
  obtain ⟨g5, q5, h⟩ := bnd h
  refine r_get (pc := 5) (by decide +kernel) fl_M_201.r (by decide) rfl q5 ?_
  obtain ⟨t8, ht8, h⟩ := bnd h
  have E8_0 : Rn Y_M_make d 0 0 0 0 (some (0, x.1), x.2) 20 [(0, (2, a0)), (1, (0, a1))] [(0, t8.1)] t8.2 := by
    refine r_istore_n (pc := 20) (n := 2) (lv' := [(2, (0, t8.1)), (0, (2, a0)), (1, (0, a1))]) (by decide +kernel) rfl (Nat.le_of_ble_eq_true rfl) rfl ?_
    refine r_iconst (pc := 21) (z := 0) (by decide +kernel) ⟨by decide, by decide⟩ ?_
    refine r_istore_n (pc := 22) (n := 3) (lv' := [(3, (0, 0)), (2, (0, t8.1)), (0, (2, a0)), (1, (0, a1))]) (by decide +kernel) rfl (Nat.le_of_ble_eq_true rfl) rfl ?_
    refine r_lv [2, 3, 1, 0] rfl ?_
    refine sL_M_make_23 (by omega) ?_ _ _ _  _ h
    intro w2_23 m23 h
    refine r_iload_n (pc := 45) 2 (n := 2) (by decide +kernel) rfl rfl ?_
    refine r_bipush (pc := 46) (z := 6) (by decide +kernel) ⟨by decide, by decide⟩ ?_
    refine r_icmp_le (pc := 48) (off := 6) (tgt := 54) (by decide +kernel) (by decide) (fun c48 => ?_) (fun c48 => ?_)
    · have h := ite_t c48 h
      refine r_iconst (pc := 54) (z := 0) (by decide +kernel) ⟨by decide, by decide⟩ ?_
      refine r_istore (pc := 55) (lv' := [(4, (0, 0)), (0, (2, a0)), (1, (0, a1)), (2, (0, w2_23))]) (by decide +kernel) (Nat.le_of_ble_eq_true rfl) rfl ?_
      refine r_lv [1, 2, 3, 0] rfl ?_
      refine sL_M_make_57 (by omega) ?_ _ _  _ h
      intro m57 h
      refine r_iconst (pc := 78) (z := 0) (by decide +kernel) ⟨by decide, by decide⟩ ?_
      refine r_istore (pc := 79) (lv' := [(4, (0, 0)), (0, (2, a0)), (1, (0, a1)), (2, (0, w2_23))]) (by decide +kernel) (Nat.le_of_ble_eq_true rfl) rfl ?_
      refine r_lv [1, 2, 3, 0] rfl ?_
      refine sL_M_make_81 (by omega) ?_ _ _  _ h
      intro m81 h
      refine r_aload_n (pc := 186) 0 (n := 0) (by decide +kernel) rfl rfl ?_
      refine r_iload_n (pc := 187) 1 (n := 1) (by decide +kernel) rfl rfl ?_
      refine r_iload_n (pc := 188) 2 (n := 2) (by decide +kernel) rfl rfl ?_
      obtain ⟨_, q189c, h⟩ := bnd h
      obtain ⟨x189, q189, h⟩ := bnd h
      refine r_callV (pc := 189) (i := 249) (d2 := d - 1) (As := [(0, a1), (0, w2_23)]) (st := []) (st1 := [(0, w2_23), (0, a1), (2, a0)]) (by decide +kernel) yk_M_layMachine (by decide) rfl ⟨ml_M_249, vk_M_layMachine⟩ np_M_layMachine rfl (by omega) q189c (c_M_layMachine (d := d - 1) (by omega) q189) (Nat.le_of_ble_eq_true rfl) (Nat.le_of_ble_eq_true rfl) (Nat.le_of_ble_eq_true rfl) rfl ?_
      show Rn _ d _ _ 0 0 _ 192 [(0, (2, a0)), (1, (0, a1)), (2, (0, w2_23))] [] x189
      refine r_iconst (pc := 192) (z := 0) (by decide +kernel) ⟨by decide, by decide⟩ ?_
      obtain rfl := Option.some.inj h
      exact r_ret (pc := 193) (r := some (0, 0)) (by decide +kernel) rfl trivial (Nat.le_of_ble_eq_true rfl) (Nat.le_of_ble_eq_true rfl)
    · have h := ite_f c48 h
      refine r_bipush (pc := 51) (z := (-5)) (by decide +kernel) ⟨by decide, by decide⟩ ?_
      obtain rfl := Option.some.inj h
      exact r_ret (pc := 53) (r := some (0, (-5))) (by decide +kernel) rfl trivial (Nat.le_of_ble_eq_true rfl) (Nat.le_of_ble_eq_true rfl)
  refine r_if_ne (pc := 8) (off := 7) (tgt := 15) (by decide +kernel) (by decide) (fun c8 => ?_) (fun c8 => ?_)
  · have ht8 := ite_f c8 ht8
    refine r_aload_n (pc := 15) 0 (n := 0) (by decide +kernel) rfl rfl ?_
    refine r_iconst (pc := 16) (z := 1) (by decide +kernel) ⟨by decide, by decide⟩ ?_
    obtain ⟨_, q17c, ht8⟩ := bnd ht8
    obtain ⟨x17, q17, ht8⟩ := bnd ht8
    refine r_callV (pc := 17) (i := 241) (d2 := d - 1) (As := [(0, 1)]) (st := []) (st1 := [(0, 1), (2, a0)]) (by decide +kernel) yk_M_divide (by decide) rfl ⟨ml_M_241, vk_M_divide⟩ np_M_divide rfl (by omega) q17c (c_M_divide (d := d - 1) (by omega) q17) (Nat.le_of_ble_eq_true rfl) (Nat.le_of_ble_eq_true rfl) (Nat.le_of_ble_eq_true rfl) rfl ?_
    show Rn _ d _ _ 0 0 _ 20 [(0, (2, a0)), (1, (0, a1))] [(0, x17.1)] x17.2
    obtain rfl := Option.some.inj ht8
    exact E8_0
  · have ht8 := ite_t c8 ht8
    refine r_iconst (pc := 11) (z := 0) (by decide +kernel) ⟨by decide, by decide⟩ ?_
    refine r_goto (pc := 12) (off := 8) (tgt := 20) (by decide +kernel) (by decide) ?_
    obtain rfl := Option.some.inj ht8
    exact E8_0

/-! TreeTonguesModel.load(II)I -/
noncomputable def D_M_load (a0 a1 a2 : Int) (M : Mem) : Option (Int × Mem) := (gf M a0 9 54 5).bind fun g1 => (rd M 12 g1 a1).bind fun e5 => if e5 = 0 then ((ck M a0 9 54).bind fun _ => (D_M_copy a0 a1 a2 M).bind fun x12 => some (0, x12)) else ((pf M a0 9 54 20 0).bind fun m19 => (pf m19 a0 9 54 22 a1).bind fun m24 => (ck m24 a0 9 54).bind fun _ => (D_M_make a0 a2 m24).bind fun x29 => some (x29.1, x29.2))
theorem c_M_load {d : Nat} (hd : 8 ≤ d) {a0 a1 a2 : Int} {M : Mem} {x : Int × Mem} (h : D_M_load a0 a1 a2 M = some x) : Ct d Y_M_load [(2, a0), (0, a1), (0, a2)] M (some (0, x.1), x.2) 0 0 := by
  refine ct_of yk_M_load (Nat.le_of_ble_eq_true rfl) ?_
  rw [D_M_load] at h
  show Rn Y_M_load d 0 0 0 0 (some (0, x.1), x.2) 0 [(0, (2, a0)), (1, (0, a1)), (2, (0, a2))] [] M
  refine r_aload_n (pc := 0) 0 (n := 0) (by decide +kernel) rfl rfl ?_
  obtain ⟨g1, q1, h⟩ := bnd h
  refine r_get (pc := 1) (by decide +kernel) fl_M_16.r (by decide) rfl q1 ?_
  refine r_iload_n (pc := 4) 1 (n := 1) (by decide +kernel) rfl rfl ?_
  obtain ⟨e5, q5, h⟩ := bnd h
  refine r_zald (pc := 5) (by decide +kernel) q5 ?_
  refine r_if_ne (pc := 6) (off := 11) (tgt := 17) (by decide +kernel) (by decide) (fun c6 => ?_) (fun c6 => ?_)
  · have h := ite_f c6 h
    refine r_aload_n (pc := 17) 0 (n := 0) (by decide +kernel) rfl rfl ?_
    refine r_iconst (pc := 18) (z := 0) (by decide +kernel) ⟨by decide, by decide⟩ ?_
    obtain ⟨m19, q19, h⟩ := bnd h
    refine r_put (pc := 19) (by decide +kernel) fl_M_170 (by decide) (Or.inr nf_9_20) rfl (fun h3 => by cases h3) q19 ?_
    refine r_aload_n (pc := 22) 0 (n := 0) (by decide +kernel) rfl rfl ?_
    refine r_iload_n (pc := 23) 1 (n := 1) (by decide +kernel) rfl rfl ?_
    obtain ⟨m24, q24, h⟩ := bnd h
    refine r_put (pc := 24) (by decide +kernel) fl_M_152 (by decide) (Or.inr nf_9_22) rfl (fun h3 => by cases h3) q24 ?_
    refine r_aload_n (pc := 27) 0 (n := 0) (by decide +kernel) rfl rfl ?_
    refine r_iload_n (pc := 28) 2 (n := 2) (by decide +kernel) rfl rfl ?_
    obtain ⟨_, q29c, h⟩ := bnd h
    obtain ⟨x29, q29, h⟩ := bnd h
    refine r_callV (pc := 29) (i := 255) (d2 := d - 1) (As := [(0, a2)]) (st := []) (st1 := [(0, a2), (2, a0)]) (by decide +kernel) yk_M_make (by decide) rfl ⟨ml_M_255, vk_M_make⟩ np_M_make rfl (by omega) q29c (c_M_make (d := d - 1) (by omega) q29) (Nat.le_of_ble_eq_true rfl) (Nat.le_of_ble_eq_true rfl) (Nat.le_of_ble_eq_true rfl) rfl ?_
    show Rn _ d _ _ 0 0 _ 32 [(0, (2, a0)), (1, (0, a1)), (2, (0, a2))] [(0, x29.1)] x29.2
    obtain rfl := Option.some.inj h
    exact r_ret (pc := 32) (r := some (0, x29.1)) (by decide +kernel) rfl trivial (Nat.le_of_ble_eq_true rfl) (Nat.le_of_ble_eq_true rfl)
  · have h := ite_t c6 h
    refine r_aload_n (pc := 9) 0 (n := 0) (by decide +kernel) rfl rfl ?_
    refine r_iload_n (pc := 10) 1 (n := 1) (by decide +kernel) rfl rfl ?_
    refine r_iload_n (pc := 11) 2 (n := 2) (by decide +kernel) rfl rfl ?_
    obtain ⟨_, q12c, h⟩ := bnd h
    obtain ⟨x12, q12, h⟩ := bnd h
    refine r_callV (pc := 12) (i := 252) (d2 := d - 1) (As := [(0, a1), (0, a2)]) (st := []) (st1 := [(0, a2), (0, a1), (2, a0)]) (by decide +kernel) yk_M_copy (by decide) rfl ⟨ml_M_252, vk_M_copy⟩ np_M_copy rfl (by omega) q12c (c_M_copy (d := d - 1) (by omega) q12) (Nat.le_of_ble_eq_true rfl) (Nat.le_of_ble_eq_true rfl) (Nat.le_of_ble_eq_true rfl) rfl ?_
    show Rn _ d _ _ 0 0 _ 15 [(0, (2, a0)), (1, (0, a1)), (2, (0, a2))] [] x12
    refine r_iconst (pc := 15) (z := 0) (by decide +kernel) ⟨by decide, by decide⟩ ?_
    obtain rfl := Option.some.inj h
    exact r_ret (pc := 16) (r := some (0, 0)) (by decide +kernel) rfl trivial (Nat.le_of_ble_eq_true rfl) (Nat.le_of_ble_eq_true rfl)

/-! TreeTonguesModel.newTongue()I -/
noncomputable def D_M_newTongue (a0 : Int) (M : Mem) : Option (Int × Mem) := (ck M a0 9 54).bind fun _ => (D_M_make a0 18 M).bind fun x3 => if 0 ≤ x3.1 then ((gf x3.2 a0 9 54 4).bind fun g16 => (ck x3.2 a0 9 54).bind fun _ => (D_M_copy a0 18 g16 x3.2).bind fun x19 => (gf x19 a0 9 54 5).bind fun g23 => (gf x19 a0 9 54 4).bind fun g27 => (wt x19 12 g23 g27 0).bind fun m31 => (gf m31 a0 9 54 4).bind fun g34 => (pf m31 a0 9 54 4 (wr (g34 + 1))).bind fun m39 => (gf m39 a0 9 54 4).bind fun g43 => some (wr (g43 - 1), m39)) else (some ((-5), x3.2))
theorem c_M_newTongue {d : Nat} (hd : 8 ≤ d) {a0 : Int} {M : Mem} {x : Int × Mem} (h : D_M_newTongue a0 M = some x) : Ct d Y_M_newTongue [(2, a0)] M (some (0, x.1), x.2) 0 0 := by
  refine ct_of yk_M_newTongue (Nat.le_of_ble_eq_true rfl) ?_
  rw [D_M_newTongue] at h
  show Rn Y_M_newTongue d 0 0 0 0 (some (0, x.1), x.2) 0 [(0, (2, a0))] [] M
  refine r_aload_n (pc := 0) 0 (n := 0) (by decide +kernel) rfl rfl ?_
  refine r_bipush (pc := 1) (z := 18) (by decide +kernel) ⟨by decide, by decide⟩ ?_
  obtain ⟨_, q3c, h⟩ := bnd h
  obtain ⟨x3, q3, h⟩ := bnd h
  refine r_callV (pc := 3) (i := 255) (d2 := d - 1) (As := [(0, 18)]) (st := []) (st1 := [(0, 18), (2, a0)]) (by decide +kernel) yk_M_make (by decide) rfl ⟨ml_M_255, vk_M_make⟩ np_M_make rfl (by omega) q3c (c_M_make (d := d - 1) (by omega) q3) (Nat.le_of_ble_eq_true rfl) (Nat.le_of_ble_eq_true rfl) (Nat.le_of_ble_eq_true rfl) rfl ?_
  show Rn _ d _ _ 0 0 _ 6 [(0, (2, a0))] [(0, x3.1)] x3.2
  refine r_if_ge (pc := 6) (off := 6) (tgt := 12) (by decide +kernel) (by decide) (fun c6 => ?_) (fun c6 => ?_)
  · have h := ite_t c6 h
    refine r_aload_n (pc := 12) 0 (n := 0) (by decide +kernel) rfl rfl ?_
    refine r_bipush (pc := 13) (z := 18) (by decide +kernel) ⟨by decide, by decide⟩ ?_
    refine r_aload_n (pc := 15) 0 (n := 0) (by decide +kernel) rfl rfl ?_
    obtain ⟨g16, q16, h⟩ := bnd h
    refine r_get (pc := 16) (by decide +kernel) fl_M_132.r (by decide) rfl q16 ?_
    obtain ⟨_, q19c, h⟩ := bnd h
    obtain ⟨x19, q19, h⟩ := bnd h
    refine r_callV (pc := 19) (i := 252) (d2 := d - 1) (As := [(0, 18), (0, g16)]) (st := []) (st1 := [(0, g16), (0, 18), (2, a0)]) (by decide +kernel) yk_M_copy (by decide) rfl ⟨ml_M_252, vk_M_copy⟩ np_M_copy rfl (by omega) q19c (c_M_copy (d := d - 1) (by omega) q19) (Nat.le_of_ble_eq_true rfl) (Nat.le_of_ble_eq_true rfl) (Nat.le_of_ble_eq_true rfl) rfl ?_
    show Rn _ d _ _ 0 0 _ 22 [(0, (2, a0))] [] x19
    refine r_aload_n (pc := 22) 0 (n := 0) (by decide +kernel) rfl rfl ?_
    obtain ⟨g23, q23, h⟩ := bnd h
    refine r_get (pc := 23) (by decide +kernel) fl_M_16.r (by decide) rfl q23 ?_
    refine r_aload_n (pc := 26) 0 (n := 0) (by decide +kernel) rfl rfl ?_
    obtain ⟨g27, q27, h⟩ := bnd h
    refine r_get (pc := 27) (by decide +kernel) fl_M_132.r (by decide) rfl q27 ?_
    refine r_iconst (pc := 30) (z := 0) (by decide +kernel) ⟨by decide, by decide⟩ ?_
    obtain ⟨m31, q31, h⟩ := bnd h
    refine r_zast (pc := 31) (by decide +kernel) (Or.inl rfl) q31 ?_
    refine r_aload_n (pc := 32) 0 (n := 0) (by decide +kernel) rfl rfl ?_
    refine r_dup (pc := 33) (by decide +kernel) rfl ?_
    obtain ⟨g34, q34, h⟩ := bnd h
    refine r_get (pc := 34) (by decide +kernel) fl_M_132.r (by decide) rfl q34 ?_
    refine r_iconst (pc := 37) (z := 1) (by decide +kernel) ⟨by decide, by decide⟩ ?_
    refine r_iadd (pc := 38) (by decide +kernel) ?_
    obtain ⟨m39, q39, h⟩ := bnd h
    refine r_put (pc := 39) (by decide +kernel) fl_M_132 (by decide) (Or.inr nf_9_4) rfl (fun h3 => by cases h3) q39 ?_
    refine r_aload_n (pc := 42) 0 (n := 0) (by decide +kernel) rfl rfl ?_
    obtain ⟨g43, q43, h⟩ := bnd h
    refine r_get (pc := 43) (by decide +kernel) fl_M_132.r (by decide) rfl q43 ?_
    refine r_iconst (pc := 46) (z := 1) (by decide +kernel) ⟨by decide, by decide⟩ ?_
    refine r_isub (pc := 47) (by decide +kernel) ?_
    obtain rfl := Option.some.inj h
    exact r_ret (pc := 48) (r := some (0, wr (g43 - 1))) (by decide +kernel) rfl trivial (Nat.le_of_ble_eq_true rfl) (Nat.le_of_ble_eq_true rfl)
  · have h := ite_f c6 h
    refine r_bipush (pc := 9) (z := (-5)) (by decide +kernel) ⟨by decide, by decide⟩ ?_
    obtain rfl := Option.some.inj h
    exact r_ret (pc := 11) (r := some (0, (-5))) (by decide +kernel) rfl trivial (Nat.le_of_ble_eq_true rfl) (Nat.le_of_ble_eq_true rfl)

/-! TreeTonguesModel.of(III)I -/
noncomputable def D_M_of (a0 a1 a2 a3 : Int) (M : Mem) : Option (Int × Mem) := (D_M_in a1 0 3 M).bind fun x6 => if x6.1 = 0 then (some ((-2), x6.2)) else ((ck x6.2 a0 9 54).bind fun _ => (D_M_isTongue a0 a2 x6.2).bind fun x14 => if x14.1 = 0 then (some ((-2), x14.2)) else ((ck x14.2 a0 9 54).bind fun _ => (D_M_isTongue a0 a3 x14.2).bind fun x22 => if x22.1 = 0 then (some ((-2), x22.2)) else ((gf x22.2 a0 9 54 4).bind fun g32 => if g32 = 16 then (some ((-4), x22.2)) else ((ck x22.2 a0 9 54).bind fun _ => (D_M_load a0 a2 16 x22.2).bind fun x47 => if x47.1 < 0 then (some ((-5), x47.2)) else ((ck x47.2 a0 9 54).bind fun _ => (D_M_load a0 a3 17 x47.2).bind fun x57 => if 0 ≤ x57.1 then ((pf x57.2 a0 9 54 20 1).bind fun m68 => (pf m68 a0 9 54 21 a1).bind fun m73 => (ck m73 a0 9 54).bind fun _ => (D_M_newTongue a0 m73).bind fun x77 => some (x77.1, x77.2)) else (some ((-5), x57.2)))))))
theorem c_M_of {d : Nat} (hd : 9 ≤ d) {a0 a1 a2 a3 : Int} {M : Mem} {x : Int × Mem} (h : D_M_of a0 a1 a2 a3 M = some x) : Ct d Y_M_of [(2, a0), (0, a1), (0, a2), (0, a3)] M (some (0, x.1), x.2) 0 0 := by
  refine ct_of yk_M_of (Nat.le_of_ble_eq_true rfl) ?_
  rw [D_M_of] at h
  show Rn Y_M_of d 0 0 0 0 (some (0, x.1), x.2) 0 [(0, (2, a0)), (1, (0, a1)), (2, (0, a2)), (3, (0, a3))] [] M
  refine r_iload_n (pc := 0) 1 (n := 1) (by decide +kernel) rfl rfl ?_
  refine r_i2l (pc := 1) (by decide +kernel) ?_
  refine r_lconst (pc := 2) (n := 0) (z := 0) (by decide +kernel) rfl ?_
  refine r_ldc2 (pc := 3) (i := 258) (z := 3) (by decide +kernel) (mg 1106 (by decide +kernel) (by decide +kernel)) ⟨by decide, by decide⟩ ?_
  obtain ⟨x6, q6, h⟩ := bnd h
  refine r_callS (pc := 6) (i := 128) (d2 := d - 1) (As := [(1, a1), (1, 0), (1, 3)]) (st := []) (st1 := [(1, 3), (1, 0), (1, a1)]) (by decide +kernel) yk_M_in ⟨ml_M_128, sk_M_in⟩ np_M_in rfl (by omega) (c_M_in (d := d - 1) (by omega) q6) (Nat.le_of_ble_eq_true rfl) (Nat.le_of_ble_eq_true rfl) (Nat.le_of_ble_eq_true rfl) rfl ?_
  show Rn _ d _ _ 0 0 _ 9 [(0, (2, a0)), (1, (0, a1)), (2, (0, a2)), (3, (0, a3))] [(0, x6.1)] x6.2
  refine r_if_eq (pc := 9) (off := 19) (tgt := 28) (by decide +kernel) (by decide) (fun c9 => ?_) (fun c9 => ?_)
  · have h := ite_t c9 h
    refine r_bipush (pc := 28) (z := (-2)) (by decide +kernel) ⟨by decide, by decide⟩ ?_
    obtain rfl := Option.some.inj h
    exact r_ret (pc := 30) (r := some (0, (-2))) (by decide +kernel) rfl trivial (Nat.le_of_ble_eq_true rfl) (Nat.le_of_ble_eq_true rfl)
  · have h := ite_f c9 h
    refine r_aload_n (pc := 12) 0 (n := 0) (by decide +kernel) rfl rfl ?_
    refine r_iload_n (pc := 13) 2 (n := 2) (by decide +kernel) rfl rfl ?_
    obtain ⟨_, q14c, h⟩ := bnd h
    obtain ⟨x14, q14, h⟩ := bnd h
    refine r_callV (pc := 14) (i := 146) (d2 := d - 1) (As := [(0, a2)]) (st := []) (st1 := [(0, a2), (2, a0)]) (by decide +kernel) yk_M_isTongue (by decide) rfl ⟨ml_M_146, vk_M_isTongue⟩ np_M_isTongue rfl (by omega) q14c (c_M_isTongue (d := d - 1) (by omega) q14) (Nat.le_of_ble_eq_true rfl) (Nat.le_of_ble_eq_true rfl) (Nat.le_of_ble_eq_true rfl) rfl ?_
    show Rn _ d _ _ 0 0 _ 17 [(0, (2, a0)), (1, (0, a1)), (2, (0, a2)), (3, (0, a3))] [(0, x14.1)] x14.2
    refine r_if_eq (pc := 17) (off := 11) (tgt := 28) (by decide +kernel) (by decide) (fun c17 => ?_) (fun c17 => ?_)
    · have h := ite_t c17 h
      refine r_bipush (pc := 28) (z := (-2)) (by decide +kernel) ⟨by decide, by decide⟩ ?_
      obtain rfl := Option.some.inj h
      exact r_ret (pc := 30) (r := some (0, (-2))) (by decide +kernel) rfl trivial (Nat.le_of_ble_eq_true rfl) (Nat.le_of_ble_eq_true rfl)
    · have h := ite_f c17 h
      refine r_aload_n (pc := 20) 0 (n := 0) (by decide +kernel) rfl rfl ?_
      refine r_iload_n (pc := 21) 3 (n := 3) (by decide +kernel) rfl rfl ?_
      obtain ⟨_, q22c, h⟩ := bnd h
      obtain ⟨x22, q22, h⟩ := bnd h
      refine r_callV (pc := 22) (i := 146) (d2 := d - 1) (As := [(0, a3)]) (st := []) (st1 := [(0, a3), (2, a0)]) (by decide +kernel) yk_M_isTongue (by decide) rfl ⟨ml_M_146, vk_M_isTongue⟩ np_M_isTongue rfl (by omega) q22c (c_M_isTongue (d := d - 1) (by omega) q22) (Nat.le_of_ble_eq_true rfl) (Nat.le_of_ble_eq_true rfl) (Nat.le_of_ble_eq_true rfl) rfl ?_
      show Rn _ d _ _ 0 0 _ 25 [(0, (2, a0)), (1, (0, a1)), (2, (0, a2)), (3, (0, a3))] [(0, x22.1)] x22.2
      refine r_if_ne (pc := 25) (off := 6) (tgt := 31) (by decide +kernel) (by decide) (fun c25 => ?_) (fun c25 => ?_)
      · have h := ite_f c25 h
        refine r_aload_n (pc := 31) 0 (n := 0) (by decide +kernel) rfl rfl ?_
        obtain ⟨g32, q32, h⟩ := bnd h
        refine r_get (pc := 32) (by decide +kernel) fl_M_132.r (by decide) rfl q32 ?_
        refine r_bipush (pc := 35) (z := 16) (by decide +kernel) ⟨by decide, by decide⟩ ?_
        refine r_icmp_ne (pc := 37) (off := 6) (tgt := 43) (by decide +kernel) (by decide) (fun c37 => ?_) (fun c37 => ?_)
        · have h := ite_f c37 h
          refine r_aload_n (pc := 43) 0 (n := 0) (by decide +kernel) rfl rfl ?_
          refine r_iload_n (pc := 44) 2 (n := 2) (by decide +kernel) rfl rfl ?_
          refine r_bipush (pc := 45) (z := 16) (by decide +kernel) ⟨by decide, by decide⟩ ?_
          obtain ⟨_, q47c, h⟩ := bnd h
          obtain ⟨x47, q47, h⟩ := bnd h
          refine r_callV (pc := 47) (i := 260) (d2 := d - 1) (As := [(0, a2), (0, 16)]) (st := []) (st1 := [(0, 16), (0, a2), (2, a0)]) (by decide +kernel) yk_M_load (by decide) rfl ⟨ml_M_260, vk_M_load⟩ np_M_load rfl (by omega) q47c (c_M_load (d := d - 1) (by omega) q47) (Nat.le_of_ble_eq_true rfl) (Nat.le_of_ble_eq_true rfl) (Nat.le_of_ble_eq_true rfl) rfl ?_
          show Rn _ d _ _ 0 0 _ 50 [(0, (2, a0)), (1, (0, a1)), (2, (0, a2)), (3, (0, a3))] [(0, x47.1)] x47.2
          refine r_if_lt (pc := 50) (off := 13) (tgt := 63) (by decide +kernel) (by decide) (fun c50 => ?_) (fun c50 => ?_)
          · have h := ite_t c50 h
            refine r_bipush (pc := 63) (z := (-5)) (by decide +kernel) ⟨by decide, by decide⟩ ?_
            obtain rfl := Option.some.inj h
            exact r_ret (pc := 65) (r := some (0, (-5))) (by decide +kernel) rfl trivial (Nat.le_of_ble_eq_true rfl) (Nat.le_of_ble_eq_true rfl)
          · have h := ite_f c50 h
            refine r_aload_n (pc := 53) 0 (n := 0) (by decide +kernel) rfl rfl ?_
            refine r_iload_n (pc := 54) 3 (n := 3) (by decide +kernel) rfl rfl ?_
            refine r_bipush (pc := 55) (z := 17) (by decide +kernel) ⟨by decide, by decide⟩ ?_
            obtain ⟨_, q57c, h⟩ := bnd h
            obtain ⟨x57, q57, h⟩ := bnd h
            refine r_callV (pc := 57) (i := 260) (d2 := d - 1) (As := [(0, a3), (0, 17)]) (st := []) (st1 := [(0, 17), (0, a3), (2, a0)]) (by decide +kernel) yk_M_load (by decide) rfl ⟨ml_M_260, vk_M_load⟩ np_M_load rfl (by omega) q57c (c_M_load (d := d - 1) (by omega) q57) (Nat.le_of_ble_eq_true rfl) (Nat.le_of_ble_eq_true rfl) (Nat.le_of_ble_eq_true rfl) rfl ?_
            show Rn _ d _ _ 0 0 _ 60 [(0, (2, a0)), (1, (0, a1)), (2, (0, a2)), (3, (0, a3))] [(0, x57.1)] x57.2
            refine r_if_ge (pc := 60) (off := 6) (tgt := 66) (by decide +kernel) (by decide) (fun c60 => ?_) (fun c60 => ?_)
            · have h := ite_t c60 h
              refine r_aload_n (pc := 66) 0 (n := 0) (by decide +kernel) rfl rfl ?_
              refine r_iconst (pc := 67) (z := 1) (by decide +kernel) ⟨by decide, by decide⟩ ?_
              obtain ⟨m68, q68, h⟩ := bnd h
              refine r_put (pc := 68) (by decide +kernel) fl_M_170 (by decide) (Or.inr nf_9_20) rfl (fun h3 => by cases h3) q68 ?_
              refine r_aload_n (pc := 71) 0 (n := 0) (by decide +kernel) rfl rfl ?_
              refine r_iload_n (pc := 72) 1 (n := 1) (by decide +kernel) rfl rfl ?_
              obtain ⟨m73, q73, h⟩ := bnd h
              refine r_put (pc := 73) (by decide +kernel) fl_M_185 (by decide) (Or.inr nf_9_21) rfl (fun h3 => by cases h3) q73 ?_
              refine r_aload_n (pc := 76) 0 (n := 0) (by decide +kernel) rfl rfl ?_
              obtain ⟨_, q77c, h⟩ := bnd h
              obtain ⟨x77, q77, h⟩ := bnd h
              refine r_callV (pc := 77) (i := 264) (d2 := d - 1) (As := []) (st := []) (st1 := [(2, a0)]) (by decide +kernel) yk_M_newTongue (by decide) rfl ⟨ml_M_264, vk_M_newTongue⟩ np_M_newTongue rfl (by omega) q77c (c_M_newTongue (d := d - 1) (by omega) q77) (Nat.le_of_ble_eq_true rfl) (Nat.le_of_ble_eq_true rfl) (Nat.le_of_ble_eq_true rfl) rfl ?_
              show Rn _ d _ _ 0 0 _ 80 [(0, (2, a0)), (1, (0, a1)), (2, (0, a2)), (3, (0, a3))] [(0, x77.1)] x77.2
              obtain rfl := Option.some.inj h
              exact r_ret (pc := 80) (r := some (0, x77.1)) (by decide +kernel) rfl trivial (Nat.le_of_ble_eq_true rfl) (Nat.le_of_ble_eq_true rfl)
            · have h := ite_f c60 h
              refine r_bipush (pc := 63) (z := (-5)) (by decide +kernel) ⟨by decide, by decide⟩ ?_
              obtain rfl := Option.some.inj h
              exact r_ret (pc := 65) (r := some (0, (-5))) (by decide +kernel) rfl trivial (Nat.le_of_ble_eq_true rfl) (Nat.le_of_ble_eq_true rfl)
        · have h := ite_t c37 h
          refine r_bipush (pc := 40) (z := (-4)) (by decide +kernel) ⟨by decide, by decide⟩ ?_
          obtain rfl := Option.some.inj h
          exact r_ret (pc := 42) (r := some (0, (-4))) (by decide +kernel) rfl trivial (Nat.le_of_ble_eq_true rfl) (Nat.le_of_ble_eq_true rfl)
      · have h := ite_t c25 h
        refine r_bipush (pc := 28) (z := (-2)) (by decide +kernel) ⟨by decide, by decide⟩ ?_
        obtain rfl := Option.some.inj h
        exact r_ret (pc := 30) (r := some (0, (-2))) (by decide +kernel) rfl trivial (Nat.le_of_ble_eq_true rfl) (Nat.le_of_ble_eq_true rfl)

/-! TreeTonguesModel.plain(I)V -/
noncomputable def L_M_plain_17 (k : Mem → Option (Mem)) (v0 : Int) : Nat → Int → Mem → Option (Mem)
  | 0 => fun _ _ => none
  | n + 1 => fun v2 M => (gf M v0 9 54 0).bind fun g19 => if g19 ≤ v2 then (k  M) else ((gf M v0 9 54 23).bind fun g27 => (pf M v0 9 54 23 (ior g27 (ishl v2 (wr (3 * v2))))).bind fun m36 => L_M_plain_17 k v0 n (wr (v2 + 1)) m36)
noncomputable def D_M_plain (a0 a1 : Int) (M : Mem) : Option (Mem) := (pf M a0 9 54 20 2).bind fun m2 => (pf m2 a0 9 54 21 a1).bind fun m7 => (pf m7 a0 9 54 23 0).bind fun m12 => L_M_plain_17 (fun  m17 => some m17) a0 FU 0 m12
theorem sL_M_plain_17 {d mc ms : Nat} (hd : 1 ≤ d) {r : Mem} {k : Mem → Option (Mem)} {v0 : Int} (hk : ∀ (M : Mem), k M = some r → Rn Y_M_plain d mc ms 0 0 (none, r) 45 [] [] M) : ∀ (n : Nat) (v2 : Int) (M : Mem), L_M_plain_17 k v0 n v2 M = some r → Rn Y_M_plain d mc ms 0 0 (none, r) 17 [(0, (2, v0)), (2, (0, v2))] [] M := by
  intro n
  induction n with
  | zero => intro _ _ h; cases h
  | succ n ih =>
    intro v2 M h
    rw [L_M_plain_17] at h
    refine r_iload_n (pc := 17) 1 (n := 2) (by decide +kernel) rfl rfl ?_
    refine r_aload_n (pc := 18) 0 (n := 0) (by decide +kernel) rfl rfl ?_
    obtain ⟨g19, q19, h⟩ := bnd h
    refine r_get (pc := 19) (by decide +kernel) fl_M_124.r (by decide) rfl q19 ?_
    refine r_icmp_ge (pc := 22) (off := 23) (tgt := 45) (by decide +kernel) (by decide) (fun c22 => ?_) (fun c22 => ?_)
    · have h := ite_t c22 h
      refine r_lv [] rfl ?_
      exact hk  M h
    · have h := ite_f c22 h
      refine r_aload_n (pc := 25) 0 (n := 0) (by decide +kernel) rfl rfl ?_
      refine r_dup (pc := 26) (by decide +kernel) rfl ?_
      obtain ⟨g27, q27, h⟩ := bnd h
      refine r_get (pc := 27) (by decide +kernel) fl_M_149.r (by decide) rfl q27 ?_
      refine r_iload_n (pc := 30) 1 (n := 2) (by decide +kernel) rfl rfl ?_
      refine r_iconst (pc := 31) (z := 3) (by decide +kernel) ⟨by decide, by decide⟩ ?_
      refine r_iload_n (pc := 32) 1 (n := 2) (by decide +kernel) rfl rfl ?_
      refine r_imul (pc := 33) (by decide +kernel) ?_
      refine r_ishl (pc := 34) (by decide +kernel) ?_
      refine r_ior (pc := 35) (by decide +kernel) ?_
      obtain ⟨m36, q36, h⟩ := bnd h
      refine r_put (pc := 36) (by decide +kernel) fl_M_149 (by decide) (Or.inr nf_9_23) rfl (fun h3 => by cases h3) q36 ?_
      refine r_iinc (pc := 39) 1 (n := 1) (lv' := [(2, (0, wr (v2 + 1))), (0, (2, v0))]) (by decide +kernel) rfl (Nat.le_of_ble_eq_true rfl) rfl ?_
      refine r_goto (pc := 42) (off := (-25)) (tgt := 17) (by decide +kernel) (by decide) ?_
      refine r_lv [1, 0] rfl ?_
      exact ih (wr (v2 + 1)) m36 h
theorem c_M_plain {d : Nat} (hd : 1 ≤ d) {a0 a1 : Int} {M : Mem} {x : Mem} (h : D_M_plain a0 a1 M = some x) : Ct d Y_M_plain [(2, a0), (0, a1)] M (none, x) 0 0 := by
  refine ct_of yk_M_plain (Nat.le_of_ble_eq_true rfl) ?_
  rw [D_M_plain] at h
  show Rn Y_M_plain d 0 0 0 0 (none, x) 0 [(0, (2, a0)), (1, (0, a1))] [] M
  refine r_aload_n (pc := 0) 0 (n := 0) (by decide +kernel) rfl rfl ?_
  refine r_iconst (pc := 1) (z := 2) (by decide +kernel) ⟨by decide, by decide⟩ ?_
  obtain ⟨m2, q2, h⟩ := bnd h
  refine r_put (pc := 2) (by decide +kernel) fl_M_170 (by decide) (Or.inr nf_9_20) rfl (fun h3 => by cases h3) q2 ?_
  refine r_aload_n (pc := 5) 0 (n := 0) (by decide +kernel) rfl rfl ?_
  refine r_iload_n (pc := 6) 1 (n := 1) (by decide +kernel) rfl rfl ?_
  obtain ⟨m7, q7, h⟩ := bnd h
  refine r_put (pc := 7) (by decide +kernel) fl_M_185 (by decide) (Or.inr nf_9_21) rfl (fun h3 => by cases h3) q7 ?_
  refine r_aload_n (pc := 10) 0 (n := 0) (by decide +kernel) rfl rfl ?_
  refine r_iconst (pc := 11) (z := 0) (by decide +kernel) ⟨by decide, by decide⟩ ?_
  obtain ⟨m12, q12, h⟩ := bnd h
  refine r_put (pc := 12) (by decide +kernel) fl_M_149 (by decide) (Or.inr nf_9_23) rfl (fun h3 => by cases h3) q12 ?_
  refine r_iconst (pc := 15) (z := 0) (by decide +kernel) ⟨by decide, by decide⟩ ?_
  refine r_istore_n (pc := 16) (n := 2) (lv' := [(2, (0, 0)), (0, (2, a0)), (1, (0, a1))]) (by decide +kernel) rfl (Nat.le_of_ble_eq_true rfl) rfl ?_
  refine r_lv [1, 0] rfl ?_
  refine sL_M_plain_17 (by omega) ?_ _ _  _ h
  intro m17 h
  obtain rfl := Option.some.inj h
  exact r_ret (pc := 45) (r := none) (by decide +kernel) rfl trivial (Nat.le_of_ble_eq_true rfl) (Nat.le_of_ble_eq_true rfl)

/-! TreeTonguesModel.not(I)I -/
noncomputable def D_M_not (a0 a1 : Int) (M : Mem) : Option (Int × Mem) := (ck M a0 9 54).bind fun _ => (D_M_isTongue a0 a1 M).bind fun x2 => if x2.1 = 0 then (some ((-2), x2.2)) else ((gf x2.2 a0 9 54 4).bind fun g12 => if g12 = 16 then (some ((-4), x2.2)) else ((ck x2.2 a0 9 54).bind fun _ => (D_M_load a0 a1 16 x2.2).bind fun x27 => if 0 ≤ x27.1 then ((ck x27.2 a0 9 54).bind fun _ => (D_M_plain a0 0 x27.2).bind fun x38 => (ck x38 a0 9 54).bind fun _ => (D_M_newTongue a0 x38).bind fun x42 => some (x42.1, x42.2)) else (some ((-5), x27.2))))
theorem c_M_not {d : Nat} (hd : 9 ≤ d) {a0 a1 : Int} {M : Mem} {x : Int × Mem} (h : D_M_not a0 a1 M = some x) : Ct d Y_M_not [(2, a0), (0, a1)] M (some (0, x.1), x.2) 0 0 := by
  refine ct_of yk_M_not (Nat.le_of_ble_eq_true rfl) ?_
  rw [D_M_not] at h
  show Rn Y_M_not d 0 0 0 0 (some (0, x.1), x.2) 0 [(0, (2, a0)), (1, (0, a1))] [] M
  refine r_aload_n (pc := 0) 0 (n := 0) (by decide +kernel) rfl rfl ?_
  refine r_iload_n (pc := 1) 1 (n := 1) (by decide +kernel) rfl rfl ?_
  obtain ⟨_, q2c, h⟩ := bnd h
  obtain ⟨x2, q2, h⟩ := bnd h
  refine r_callV (pc := 2) (i := 146) (d2 := d - 1) (As := [(0, a1)]) (st := []) (st1 := [(0, a1), (2, a0)]) (by decide +kernel) yk_M_isTongue (by decide) rfl ⟨ml_M_146, vk_M_isTongue⟩ np_M_isTongue rfl (by omega) q2c (c_M_isTongue (d := d - 1) (by omega) q2) (Nat.le_of_ble_eq_true rfl) (Nat.le_of_ble_eq_true rfl) (Nat.le_of_ble_eq_true rfl) rfl ?_
  show Rn _ d _ _ 0 0 _ 5 [(0, (2, a0)), (1, (0, a1))] [(0, x2.1)] x2.2
  refine r_if_ne (pc := 5) (off := 6) (tgt := 11) (by decide +kernel) (by decide) (fun c5 => ?_) (fun c5 => ?_)
  · have h := ite_f c5 h
    refine r_aload_n (pc := 11) 0 (n := 0) (by decide +kernel) rfl rfl ?_
    obtain ⟨g12, q12, h⟩ := bnd h
    refine r_get (pc := 12) (by decide +kernel) fl_M_132.r (by decide) rfl q12 ?_
    refine r_bipush (pc := 15) (z := 16) (by decide +kernel) ⟨by decide, by decide⟩ ?_
    refine r_icmp_ne (pc := 17) (off := 6) (tgt := 23) (by decide +kernel) (by decide) (fun c17 => ?_) (fun c17 => ?_)
    · have h := ite_f c17 h
      refine r_aload_n (pc := 23) 0 (n := 0) (by decide +kernel) rfl rfl ?_
      refine r_iload_n (pc := 24) 1 (n := 1) (by decide +kernel) rfl rfl ?_
      refine r_bipush (pc := 25) (z := 16) (by decide +kernel) ⟨by decide, by decide⟩ ?_
      obtain ⟨_, q27c, h⟩ := bnd h
      obtain ⟨x27, q27, h⟩ := bnd h
      refine r_callV (pc := 27) (i := 260) (d2 := d - 1) (As := [(0, a1), (0, 16)]) (st := []) (st1 := [(0, 16), (0, a1), (2, a0)]) (by decide +kernel) yk_M_load (by decide) rfl ⟨ml_M_260, vk_M_load⟩ np_M_load rfl (by omega) q27c (c_M_load (d := d - 1) (by omega) q27) (Nat.le_of_ble_eq_true rfl) (Nat.le_of_ble_eq_true rfl) (Nat.le_of_ble_eq_true rfl) rfl ?_
      show Rn _ d _ _ 0 0 _ 30 [(0, (2, a0)), (1, (0, a1))] [(0, x27.1)] x27.2
      refine r_if_ge (pc := 30) (off := 6) (tgt := 36) (by decide +kernel) (by decide) (fun c30 => ?_) (fun c30 => ?_)
      · have h := ite_t c30 h
        refine r_aload_n (pc := 36) 0 (n := 0) (by decide +kernel) rfl rfl ?_
        refine r_iconst (pc := 37) (z := 0) (by decide +kernel) ⟨by decide, by decide⟩ ?_
        obtain ⟨_, q38c, h⟩ := bnd h
        obtain ⟨x38, q38, h⟩ := bnd h
        refine r_callV (pc := 38) (i := 268) (d2 := d - 1) (As := [(0, 0)]) (st := []) (st1 := [(0, 0), (2, a0)]) (by decide +kernel) yk_M_plain (by decide) rfl ⟨ml_M_268, vk_M_plain⟩ np_M_plain rfl (by omega) q38c (c_M_plain (d := d - 1) (by omega) q38) (Nat.le_of_ble_eq_true rfl) (Nat.le_of_ble_eq_true rfl) (Nat.le_of_ble_eq_true rfl) rfl ?_
        show Rn _ d _ _ 0 0 _ 41 [(0, (2, a0)), (1, (0, a1))] [] x38
        refine r_aload_n (pc := 41) 0 (n := 0) (by decide +kernel) rfl rfl ?_
        obtain ⟨_, q42c, h⟩ := bnd h
        obtain ⟨x42, q42, h⟩ := bnd h
        refine r_callV (pc := 42) (i := 264) (d2 := d - 1) (As := []) (st := []) (st1 := [(2, a0)]) (by decide +kernel) yk_M_newTongue (by decide) rfl ⟨ml_M_264, vk_M_newTongue⟩ np_M_newTongue rfl (by omega) q42c (c_M_newTongue (d := d - 1) (by omega) q42) (Nat.le_of_ble_eq_true rfl) (Nat.le_of_ble_eq_true rfl) (Nat.le_of_ble_eq_true rfl) rfl ?_
        show Rn _ d _ _ 0 0 _ 45 [(0, (2, a0)), (1, (0, a1))] [(0, x42.1)] x42.2
        obtain rfl := Option.some.inj h
        exact r_ret (pc := 45) (r := some (0, x42.1)) (by decide +kernel) rfl trivial (Nat.le_of_ble_eq_true rfl) (Nat.le_of_ble_eq_true rfl)
      · have h := ite_f c30 h
        refine r_bipush (pc := 33) (z := (-5)) (by decide +kernel) ⟨by decide, by decide⟩ ?_
        obtain rfl := Option.some.inj h
        exact r_ret (pc := 35) (r := some (0, (-5))) (by decide +kernel) rfl trivial (Nat.le_of_ble_eq_true rfl) (Nat.le_of_ble_eq_true rfl)
    · have h := ite_t c17 h
      refine r_bipush (pc := 20) (z := (-4)) (by decide +kernel) ⟨by decide, by decide⟩ ?_
      obtain rfl := Option.some.inj h
      exact r_ret (pc := 22) (r := some (0, (-4))) (by decide +kernel) rfl trivial (Nat.le_of_ble_eq_true rfl) (Nat.le_of_ble_eq_true rfl)
  · have h := ite_t c5 h
    refine r_bipush (pc := 8) (z := (-2)) (by decide +kernel) ⟨by decide, by decide⟩ ?_
    obtain rfl := Option.some.inj h
    exact r_ret (pc := 10) (r := some (0, (-2))) (by decide +kernel) rfl trivial (Nat.le_of_ble_eq_true rfl) (Nat.le_of_ble_eq_true rfl)

/-! TreeTonguesModel.isMap(I)Z -/
noncomputable def L_M_isMap_23 (k : Int → Mem → Option (Int × Mem)) (v0 : Int) (v1 : Int) : Nat → Int → Int → Mem → Option (Int × Mem)
  | 0 => fun _ _ _ => none
  | n + 1 => fun v2 v3 M => (gf M v0 9 54 0).bind fun g25 => if g25 ≤ v3 then (k v2 M) else (if v2 = 0 then (k v2 M) else (lt (iand (ishr v1 (wr (3 * v3))) 7) fun u4_43 => (gf M v0 9 54 0).bind fun g48 => ((if g48 ≤ u4_43 then (some 0) else ((gf M v0 9 54 1).bind fun g55 => (rd M 10 g55 u4_43).bind fun e60 => (gf M v0 9 54 1).bind fun g62 => (rd M 10 g62 v3).bind fun e66 => if e60 = e66 then (some 1) else (some 0))).bind fun (t51i : Int) => if t51i = 0 then (some 0) else (some 1)).bind fun (t51 : Int) => L_M_isMap_23 k v0 v1 n t51 (wr (v3 + 1)) M))
noncomputable def D_M_isMap (a0 a1 : Int) (M : Mem) : Option (Int × Mem) := ((if a1 < 0 then (some 0) else ((gf M a0 9 54 0).bind fun g7 => if (ishr a1 (wr (3 * g7))) = 0 then (some 1) else (some 0))).bind fun (t1i : Int) => if t1i = 0 then (some 0) else (some 1)).bind fun (t1 : Int) => L_M_isMap_23 (fun w2_23 m23 => (bz w2_23).bind fun _ => some (w2_23, m23)) a0 a1 FU t1 0 M
theorem sL_M_isMap_23 {d mc ms : Nat} (hd : 1 ≤ d) {r : Int × Mem} {k : Int → Mem → Option (Int × Mem)} {v0 : Int} {v1 : Int} (hk : ∀ (v2 : Int) (M : Mem), k v2 M = some r → Rn Y_M_isMap d mc ms 0 0 (some (0, r.1), r.2) 82 [(2, (0, v2))] [] M) : ∀ (n : Nat) (v2 : Int) (v3 : Int) (M : Mem), L_M_isMap_23 k v0 v1 n v2 v3 M = some r → Rn Y_M_isMap d mc ms 0 0 (some (0, r.1), r.2) 23 [(0, (2, v0)), (1, (0, v1)), (2, (0, v2)), (3, (0, v3))] [] M := by
  intro n
  induction n with
  | zero => intro _ _ _ h; cases h
  | succ n ih =>
    intro v2 v3 M h
    rw [L_M_isMap_23] at h
    refine r_iload_n (pc := 23) 3 (n := 3) (by decide +kernel) rfl rfl ?_
    refine r_aload_n (pc := 24) 0 (n := 0) (by decide +kernel) rfl rfl ?_
    obtain ⟨g25, q25, h⟩ := bnd h
    refine r_get (pc := 25) (by decide +kernel) fl_M_124.r (by decide) rfl q25 ?_
    refine r_icmp_ge (pc := 28) (off := 54) (tgt := 82) (by decide +kernel) (by decide) (fun c28 => ?_) (fun c28 => ?_)
    · have h := ite_t c28 h
      refine r_lv [2] rfl ?_
      exact hk v2 M h
    · have h := ite_f c28 h
      refine r_iload_n (pc := 31) 2 (n := 2) (by decide +kernel) rfl rfl ?_
      refine r_if_eq (pc := 32) (off := 50) (tgt := 82) (by decide +kernel) (by decide) (fun c32 => ?_) (fun c32 => ?_)
      · have h := ite_t c32 h
        refine r_lv [2] rfl ?_
        exact hk v2 M h
      · have h := ite_f c32 h
        refine r_iload_n (pc := 35) 1 (n := 1) (by decide +kernel) rfl rfl ?_
        refine r_iconst (pc := 36) (z := 3) (by decide +kernel) ⟨by decide, by decide⟩ ?_
        refine r_iload_n (pc := 37) 3 (n := 3) (by decide +kernel) rfl rfl ?_
        refine r_imul (pc := 38) (by decide +kernel) ?_
        refine r_ishr (pc := 39) (by decide +kernel) ?_
        refine r_bipush (pc := 40) (z := 7) (by decide +kernel) ⟨by decide, by decide⟩ ?_
        refine r_iand (pc := 42) (by decide +kernel) ?_
        obtain ⟨u4_43, q43, h⟩ := lt_o h
        refine r_eq q43 ?_
        refine r_istore (pc := 43) (lv' := [(4, (0, u4_43)), (0, (2, v0)), (1, (0, v1)), (2, (0, v2)), (3, (0, v3))]) (by decide +kernel) (Nat.le_of_ble_eq_true rfl) rfl ?_
        refine r_iload (pc := 45) 0 (by decide +kernel) rfl ?_
        refine r_aload_n (pc := 47) 1 (n := 0) (by decide +kernel) rfl rfl ?_
        obtain ⟨g48, q48, h⟩ := bnd h
        refine r_get (pc := 48) (by decide +kernel) fl_M_124.r (by decide) rfl q48 ?_
        obtain ⟨t51, ht51, h⟩ := bnd h
        have E51_0 : Rn Y_M_isMap d mc ms 0 0 (some (0, r.1), r.2) 75 [(0, (2, v0)), (1, (0, v1)), (3, (0, v3))] [(0, t51)] M := by
          refine r_istore_n (pc := 75) (n := 2) (lv' := [(2, (0, t51)), (0, (2, v0)), (1, (0, v1)), (3, (0, v3))]) (by decide +kernel) rfl (Nat.le_of_ble_eq_true rfl) rfl ?_
          refine r_iinc (pc := 76) 3 (n := 1) (lv' := [(3, (0, wr (v3 + 1))), (2, (0, t51)), (0, (2, v0)), (1, (0, v1))]) (by decide +kernel) rfl (Nat.le_of_ble_eq_true rfl) rfl ?_
          refine r_goto (pc := 79) (off := (-56)) (tgt := 23) (by decide +kernel) (by decide) ?_
          refine r_lv [2, 3, 1, 0] rfl ?_
          exact ih t51 (wr (v3 + 1)) M h
        obtain ⟨t51i, ht51i, ht51⟩ := bnd ht51
        have E51i_0 : t51i = 0 → Rn Y_M_isMap d mc ms 0 0 (some (0, r.1), r.2) 74 [(0, (2, v0)), (1, (0, v1)), (3, (0, v3))] [] M := by
          intro y0
          have ht51 := ite_t y0 ht51
          refine r_iconst (pc := 74) (z := 0) (by decide +kernel) ⟨by decide, by decide⟩ ?_
          obtain rfl := Option.some.inj ht51
          exact E51_0
        have E51i_1 : ¬ t51i = 0 → Rn Y_M_isMap d mc ms 0 0 (some (0, r.1), r.2) 70 [(0, (2, v0)), (1, (0, v1)), (3, (0, v3))] [] M := by
          intro n0
          have ht51 := ite_f n0 ht51
          refine r_iconst (pc := 70) (z := 1) (by decide +kernel) ⟨by decide, by decide⟩ ?_
          refine r_goto (pc := 71) (off := 4) (tgt := 75) (by decide +kernel) (by decide) ?_
          obtain rfl := Option.some.inj ht51
          exact E51_0
        refine r_icmp_ge (pc := 51) (off := 23) (tgt := 74) (by decide +kernel) (by decide) (fun c51 => ?_) (fun c51 => ?_)
        · have ht51i := ite_t c51 ht51i
          obtain rfl := Option.some.inj ht51i
          refine r_lv [1, 2, 4] rfl ?_
          exact E51i_0 rfl
        · have ht51i := ite_f c51 ht51i
          refine r_aload_n (pc := 54) 1 (n := 0) (by decide +kernel) rfl rfl ?_
          obtain ⟨g55, q55, ht51i⟩ := bnd ht51i
          refine r_get (pc := 55) (by decide +kernel) fl_M_7.r (by decide) rfl q55 ?_
          refine r_iload (pc := 58) 0 (by decide +kernel) rfl ?_
          obtain ⟨e60, q60, ht51i⟩ := bnd ht51i
          refine r_iald (pc := 60) (by decide +kernel) q60 ?_
          refine r_aload_n (pc := 61) 1 (n := 0) (by decide +kernel) rfl rfl ?_
          obtain ⟨g62, q62, ht51i⟩ := bnd ht51i
          refine r_get (pc := 62) (by decide +kernel) fl_M_7.r (by decide) rfl q62 ?_
          refine r_iload_n (pc := 65) 4 (n := 3) (by decide +kernel) rfl rfl ?_
          obtain ⟨e66, q66, ht51i⟩ := bnd ht51i
          refine r_iald (pc := 66) (by decide +kernel) q66 ?_
          refine r_icmp_ne (pc := 67) (off := 7) (tgt := 74) (by decide +kernel) (by decide) (fun c67 => ?_) (fun c67 => ?_)
          · have ht51i := ite_f c67 ht51i
            obtain rfl := Option.some.inj ht51i
            refine r_lv [1, 2, 4] rfl ?_
            exact E51i_0 rfl
          · have ht51i := ite_t c67 ht51i
            obtain rfl := Option.some.inj ht51i
            refine r_lv [1, 2, 4] rfl ?_
            exact E51i_1 (show ¬ (1 : Int) = 0 by decide)
theorem c_M_isMap {d : Nat} (hd : 1 ≤ d) {a0 a1 : Int} {M : Mem} {x : Int × Mem} (h : D_M_isMap a0 a1 M = some x) : Ct d Y_M_isMap [(2, a0), (0, a1)] M (some (0, x.1), x.2) 0 0 := by
  refine ct_of yk_M_isMap (Nat.le_of_ble_eq_true rfl) ?_
  rw [D_M_isMap] at h
  show Rn Y_M_isMap d 0 0 0 0 (some (0, x.1), x.2) 0 [(0, (2, a0)), (1, (0, a1))] [] M
  refine r_iload_n (pc := 0) 1 (n := 1) (by decide +kernel) rfl rfl ?_
  obtain ⟨t1, ht1, h⟩ := bnd h
  have E1_0 : Rn Y_M_isMap d 0 0 0 0 (some (0, x.1), x.2) 20 [(0, (2, a0)), (1, (0, a1))] [(0, t1)] M := by
    refine r_istore_n (pc := 20) (n := 2) (lv' := [(2, (0, t1)), (0, (2, a0)), (1, (0, a1))]) (by decide +kernel) rfl (Nat.le_of_ble_eq_true rfl) rfl ?_
    refine r_iconst (pc := 21) (z := 0) (by decide +kernel) ⟨by decide, by decide⟩ ?_
    refine r_istore_n (pc := 22) (n := 3) (lv' := [(3, (0, 0)), (2, (0, t1)), (0, (2, a0)), (1, (0, a1))]) (by decide +kernel) rfl (Nat.le_of_ble_eq_true rfl) rfl ?_
    refine r_lv [2, 3, 1, 0] rfl ?_
    refine sL_M_isMap_23 (by omega) ?_ _ _ _  _ h
    intro w2_23 m23 h
    refine r_iload_n (pc := 82) 0 (n := 2) (by decide +kernel) rfl rfl ?_
    obtain ⟨_, qz, h⟩ := bnd h
    obtain rfl := Option.some.inj h
    exact r_ret (pc := 83) (r := some (0, w2_23)) (by decide +kernel) rfl (bz_s qz) (Nat.le_of_ble_eq_true rfl) (Nat.le_of_ble_eq_true rfl)
  obtain ⟨t1i, ht1i, ht1⟩ := bnd ht1
  have E1i_0 : t1i = 0 → Rn Y_M_isMap d 0 0 0 0 (some (0, x.1), x.2) 19 [(0, (2, a0)), (1, (0, a1))] [] M := by
    intro y0
    have ht1 := ite_t y0 ht1
    refine r_iconst (pc := 19) (z := 0) (by decide +kernel) ⟨by decide, by decide⟩ ?_
    obtain rfl := Option.some.inj ht1
    exact E1_0
  have E1i_1 : ¬ t1i = 0 → Rn Y_M_isMap d 0 0 0 0 (some (0, x.1), x.2) 15 [(0, (2, a0)), (1, (0, a1))] [] M := by
    intro n0
    have ht1 := ite_f n0 ht1
    refine r_iconst (pc := 15) (z := 1) (by decide +kernel) ⟨by decide, by decide⟩ ?_
    refine r_goto (pc := 16) (off := 4) (tgt := 20) (by decide +kernel) (by decide) ?_
    obtain rfl := Option.some.inj ht1
    exact E1_0
  refine r_if_lt (pc := 1) (off := 18) (tgt := 19) (by decide +kernel) (by decide) (fun c1 => ?_) (fun c1 => ?_)
  · have ht1i := ite_t c1 ht1i
    obtain rfl := Option.some.inj ht1i
    exact E1i_0 rfl
  · have ht1i := ite_f c1 ht1i
    refine r_iload_n (pc := 4) 1 (n := 1) (by decide +kernel) rfl rfl ?_
    refine r_iconst (pc := 5) (z := 3) (by decide +kernel) ⟨by decide, by decide⟩ ?_
    refine r_aload_n (pc := 6) 0 (n := 0) (by decide +kernel) rfl rfl ?_
    obtain ⟨g7, q7, ht1i⟩ := bnd ht1i
    refine r_get (pc := 7) (by decide +kernel) fl_M_124.r (by decide) rfl q7 ?_
    refine r_imul (pc := 10) (by decide +kernel) ?_
    refine r_ishr (pc := 11) (by decide +kernel) ?_
    refine r_if_ne (pc := 12) (off := 7) (tgt := 19) (by decide +kernel) (by decide) (fun c12 => ?_) (fun c12 => ?_)
    · have ht1i := ite_f c12 ht1i
      obtain rfl := Option.some.inj ht1i
      exact E1i_0 rfl
    · have ht1i := ite_t c12 ht1i
      obtain rfl := Option.some.inj ht1i
      exact E1i_1 (show ¬ (1 : Int) = 0 by decide)

/-! TreeTonguesModel.renamed(II)I -/
noncomputable def D_M_renamed (a0 a1 a2 : Int) (M : Mem) : Option (Int × Mem) := (ck M a0 9 54).bind fun _ => (D_M_isTongue a0 a1 M).bind fun x2 => if x2.1 = 0 then (some ((-2), x2.2)) else ((ck x2.2 a0 9 54).bind fun _ => (D_M_isMap a0 a2 x2.2).bind fun x10 => if x10.1 = 0 then (some ((-2), x10.2)) else ((gf x10.2 a0 9 54 4).bind fun g20 => if g20 = 16 then (some ((-4), x10.2)) else ((ck x10.2 a0 9 54).bind fun _ => (D_M_load a0 a1 16 x10.2).bind fun x35 => if 0 ≤ x35.1 then ((pf x35.2 a0 9 54 20 3).bind fun m46 => (pf m46 a0 9 54 23 a2).bind fun m51 => (ck m51 a0 9 54).bind fun _ => (D_M_newTongue a0 m51).bind fun x55 => some (x55.1, x55.2)) else (some ((-5), x35.2)))))
theorem c_M_renamed {d : Nat} (hd : 9 ≤ d) {a0 a1 a2 : Int} {M : Mem} {x : Int × Mem} (h : D_M_renamed a0 a1 a2 M = some x) : Ct d Y_M_renamed [(2, a0), (0, a1), (0, a2)] M (some (0, x.1), x.2) 0 0 := by
  refine ct_of yk_M_renamed (Nat.le_of_ble_eq_true rfl) ?_
  rw [D_M_renamed] at h
  show Rn Y_M_renamed d 0 0 0 0 (some (0, x.1), x.2) 0 [(0, (2, a0)), (1, (0, a1)), (2, (0, a2))] [] M
  refine r_aload_n (pc := 0) 0 (n := 0) (by decide +kernel) rfl rfl ?_
  refine r_iload_n (pc := 1) 1 (n := 1) (by decide +kernel) rfl rfl ?_
  obtain ⟨_, q2c, h⟩ := bnd h
  obtain ⟨x2, q2, h⟩ := bnd h
  refine r_callV (pc := 2) (i := 146) (d2 := d - 1) (As := [(0, a1)]) (st := []) (st1 := [(0, a1), (2, a0)]) (by decide +kernel) yk_M_isTongue (by decide) rfl ⟨ml_M_146, vk_M_isTongue⟩ np_M_isTongue rfl (by omega) q2c (c_M_isTongue (d := d - 1) (by omega) q2) (Nat.le_of_ble_eq_true rfl) (Nat.le_of_ble_eq_true rfl) (Nat.le_of_ble_eq_true rfl) rfl ?_
  show Rn _ d _ _ 0 0 _ 5 [(0, (2, a0)), (1, (0, a1)), (2, (0, a2))] [(0, x2.1)] x2.2
  refine r_if_eq (pc := 5) (off := 11) (tgt := 16) (by decide +kernel) (by decide) (fun c5 => ?_) (fun c5 => ?_)
  · have h := ite_t c5 h
    refine r_bipush (pc := 16) (z := (-2)) (by decide +kernel) ⟨by decide, by decide⟩ ?_
    obtain rfl := Option.some.inj h
    exact r_ret (pc := 18) (r := some (0, (-2))) (by decide +kernel) rfl trivial (Nat.le_of_ble_eq_true rfl) (Nat.le_of_ble_eq_true rfl)
  · have h := ite_f c5 h
    refine r_aload_n (pc := 8) 0 (n := 0) (by decide +kernel) rfl rfl ?_
    refine r_iload_n (pc := 9) 2 (n := 2) (by decide +kernel) rfl rfl ?_
    obtain ⟨_, q10c, h⟩ := bnd h
    obtain ⟨x10, q10, h⟩ := bnd h
    refine r_callV (pc := 10) (i := 272) (d2 := d - 1) (As := [(0, a2)]) (st := []) (st1 := [(0, a2), (2, a0)]) (by decide +kernel) yk_M_isMap (by decide) rfl ⟨ml_M_272, vk_M_isMap⟩ np_M_isMap rfl (by omega) q10c (c_M_isMap (d := d - 1) (by omega) q10) (Nat.le_of_ble_eq_true rfl) (Nat.le_of_ble_eq_true rfl) (Nat.le_of_ble_eq_true rfl) rfl ?_
    show Rn _ d _ _ 0 0 _ 13 [(0, (2, a0)), (1, (0, a1)), (2, (0, a2))] [(0, x10.1)] x10.2
    refine r_if_ne (pc := 13) (off := 6) (tgt := 19) (by decide +kernel) (by decide) (fun c13 => ?_) (fun c13 => ?_)
    · have h := ite_f c13 h
      refine r_aload_n (pc := 19) 0 (n := 0) (by decide +kernel) rfl rfl ?_
      obtain ⟨g20, q20, h⟩ := bnd h
      refine r_get (pc := 20) (by decide +kernel) fl_M_132.r (by decide) rfl q20 ?_
      refine r_bipush (pc := 23) (z := 16) (by decide +kernel) ⟨by decide, by decide⟩ ?_
      refine r_icmp_ne (pc := 25) (off := 6) (tgt := 31) (by decide +kernel) (by decide) (fun c25 => ?_) (fun c25 => ?_)
      · have h := ite_f c25 h
        refine r_aload_n (pc := 31) 0 (n := 0) (by decide +kernel) rfl rfl ?_
        refine r_iload_n (pc := 32) 1 (n := 1) (by decide +kernel) rfl rfl ?_
        refine r_bipush (pc := 33) (z := 16) (by decide +kernel) ⟨by decide, by decide⟩ ?_
        obtain ⟨_, q35c, h⟩ := bnd h
        obtain ⟨x35, q35, h⟩ := bnd h
        refine r_callV (pc := 35) (i := 260) (d2 := d - 1) (As := [(0, a1), (0, 16)]) (st := []) (st1 := [(0, 16), (0, a1), (2, a0)]) (by decide +kernel) yk_M_load (by decide) rfl ⟨ml_M_260, vk_M_load⟩ np_M_load rfl (by omega) q35c (c_M_load (d := d - 1) (by omega) q35) (Nat.le_of_ble_eq_true rfl) (Nat.le_of_ble_eq_true rfl) (Nat.le_of_ble_eq_true rfl) rfl ?_
        show Rn _ d _ _ 0 0 _ 38 [(0, (2, a0)), (1, (0, a1)), (2, (0, a2))] [(0, x35.1)] x35.2
        refine r_if_ge (pc := 38) (off := 6) (tgt := 44) (by decide +kernel) (by decide) (fun c38 => ?_) (fun c38 => ?_)
        · have h := ite_t c38 h
          refine r_aload_n (pc := 44) 0 (n := 0) (by decide +kernel) rfl rfl ?_
          refine r_iconst (pc := 45) (z := 3) (by decide +kernel) ⟨by decide, by decide⟩ ?_
          obtain ⟨m46, q46, h⟩ := bnd h
          refine r_put (pc := 46) (by decide +kernel) fl_M_170 (by decide) (Or.inr nf_9_20) rfl (fun h3 => by cases h3) q46 ?_
          refine r_aload_n (pc := 49) 0 (n := 0) (by decide +kernel) rfl rfl ?_
          refine r_iload_n (pc := 50) 2 (n := 2) (by decide +kernel) rfl rfl ?_
          obtain ⟨m51, q51, h⟩ := bnd h
          refine r_put (pc := 51) (by decide +kernel) fl_M_149 (by decide) (Or.inr nf_9_23) rfl (fun h3 => by cases h3) q51 ?_
          refine r_aload_n (pc := 54) 0 (n := 0) (by decide +kernel) rfl rfl ?_
          obtain ⟨_, q55c, h⟩ := bnd h
          obtain ⟨x55, q55, h⟩ := bnd h
          refine r_callV (pc := 55) (i := 264) (d2 := d - 1) (As := []) (st := []) (st1 := [(2, a0)]) (by decide +kernel) yk_M_newTongue (by decide) rfl ⟨ml_M_264, vk_M_newTongue⟩ np_M_newTongue rfl (by omega) q55c (c_M_newTongue (d := d - 1) (by omega) q55) (Nat.le_of_ble_eq_true rfl) (Nat.le_of_ble_eq_true rfl) (Nat.le_of_ble_eq_true rfl) rfl ?_
          show Rn _ d _ _ 0 0 _ 58 [(0, (2, a0)), (1, (0, a1)), (2, (0, a2))] [(0, x55.1)] x55.2
          obtain rfl := Option.some.inj h
          exact r_ret (pc := 58) (r := some (0, x55.1)) (by decide +kernel) rfl trivial (Nat.le_of_ble_eq_true rfl) (Nat.le_of_ble_eq_true rfl)
        · have h := ite_f c38 h
          refine r_bipush (pc := 41) (z := (-5)) (by decide +kernel) ⟨by decide, by decide⟩ ?_
          obtain rfl := Option.some.inj h
          exact r_ret (pc := 43) (r := some (0, (-5))) (by decide +kernel) rfl trivial (Nat.le_of_ble_eq_true rfl) (Nat.le_of_ble_eq_true rfl)
      · have h := ite_t c25 h
        refine r_bipush (pc := 28) (z := (-4)) (by decide +kernel) ⟨by decide, by decide⟩ ?_
        obtain rfl := Option.some.inj h
        exact r_ret (pc := 30) (r := some (0, (-4))) (by decide +kernel) rfl trivial (Nat.le_of_ble_eq_true rfl) (Nat.le_of_ble_eq_true rfl)
    · have h := ite_t c13 h
      refine r_bipush (pc := 16) (z := (-2)) (by decide +kernel) ⟨by decide, by decide⟩ ?_
      obtain rfl := Option.some.inj h
      exact r_ret (pc := 18) (r := some (0, (-2))) (by decide +kernel) rfl trivial (Nat.le_of_ble_eq_true rfl) (Nat.le_of_ble_eq_true rfl)

/-! TreeTonguesModel.back(II)I -/
noncomputable def D_M_back (a0 a1 a2 : Int) (M : Mem) : Option (Int × Mem) := (ck M a0 9 54).bind fun _ => (D_M_isTongue a0 a1 M).bind fun x2 => if x2.1 = 0 then (some ((-2), x2.2)) else ((ck x2.2 a0 9 54).bind fun _ => (D_M_isMap a0 a2 x2.2).bind fun x10 => if x10.1 = 0 then (some ((-2), x10.2)) else ((gf x10.2 a0 9 54 4).bind fun g20 => if g20 = 16 then (some ((-4), x10.2)) else ((ck x10.2 a0 9 54).bind fun _ => (D_M_load a0 a1 16 x10.2).bind fun x35 => if 0 ≤ x35.1 then ((pf x35.2 a0 9 54 20 2).bind fun m46 => (pf m46 a0 9 54 21 1).bind fun m51 => (pf m51 a0 9 54 23 a2).bind fun m56 => (ck m56 a0 9 54).bind fun _ => (D_M_newTongue a0 m56).bind fun x60 => some (x60.1, x60.2)) else (some ((-5), x35.2)))))
theorem c_M_back {d : Nat} (hd : 9 ≤ d) {a0 a1 a2 : Int} {M : Mem} {x : Int × Mem} (h : D_M_back a0 a1 a2 M = some x) : Ct d Y_M_back [(2, a0), (0, a1), (0, a2)] M (some (0, x.1), x.2) 0 0 := by
  refine ct_of yk_M_back (Nat.le_of_ble_eq_true rfl) ?_
  rw [D_M_back] at h
  show Rn Y_M_back d 0 0 0 0 (some (0, x.1), x.2) 0 [(0, (2, a0)), (1, (0, a1)), (2, (0, a2))] [] M
  refine r_aload_n (pc := 0) 0 (n := 0) (by decide +kernel) rfl rfl ?_
  refine r_iload_n (pc := 1) 1 (n := 1) (by decide +kernel) rfl rfl ?_
  obtain ⟨_, q2c, h⟩ := bnd h
  obtain ⟨x2, q2, h⟩ := bnd h
  refine r_callV (pc := 2) (i := 146) (d2 := d - 1) (As := [(0, a1)]) (st := []) (st1 := [(0, a1), (2, a0)]) (by decide +kernel) yk_M_isTongue (by decide) rfl ⟨ml_M_146, vk_M_isTongue⟩ np_M_isTongue rfl (by omega) q2c (c_M_isTongue (d := d - 1) (by omega) q2) (Nat.le_of_ble_eq_true rfl) (Nat.le_of_ble_eq_true rfl) (Nat.le_of_ble_eq_true rfl) rfl ?_
  show Rn _ d _ _ 0 0 _ 5 [(0, (2, a0)), (1, (0, a1)), (2, (0, a2))] [(0, x2.1)] x2.2
  refine r_if_eq (pc := 5) (off := 11) (tgt := 16) (by decide +kernel) (by decide) (fun c5 => ?_) (fun c5 => ?_)
  · have h := ite_t c5 h
    refine r_bipush (pc := 16) (z := (-2)) (by decide +kernel) ⟨by decide, by decide⟩ ?_
    obtain rfl := Option.some.inj h
    exact r_ret (pc := 18) (r := some (0, (-2))) (by decide +kernel) rfl trivial (Nat.le_of_ble_eq_true rfl) (Nat.le_of_ble_eq_true rfl)
  · have h := ite_f c5 h
    refine r_aload_n (pc := 8) 0 (n := 0) (by decide +kernel) rfl rfl ?_
    refine r_iload_n (pc := 9) 2 (n := 2) (by decide +kernel) rfl rfl ?_
    obtain ⟨_, q10c, h⟩ := bnd h
    obtain ⟨x10, q10, h⟩ := bnd h
    refine r_callV (pc := 10) (i := 272) (d2 := d - 1) (As := [(0, a2)]) (st := []) (st1 := [(0, a2), (2, a0)]) (by decide +kernel) yk_M_isMap (by decide) rfl ⟨ml_M_272, vk_M_isMap⟩ np_M_isMap rfl (by omega) q10c (c_M_isMap (d := d - 1) (by omega) q10) (Nat.le_of_ble_eq_true rfl) (Nat.le_of_ble_eq_true rfl) (Nat.le_of_ble_eq_true rfl) rfl ?_
    show Rn _ d _ _ 0 0 _ 13 [(0, (2, a0)), (1, (0, a1)), (2, (0, a2))] [(0, x10.1)] x10.2
    refine r_if_ne (pc := 13) (off := 6) (tgt := 19) (by decide +kernel) (by decide) (fun c13 => ?_) (fun c13 => ?_)
    · have h := ite_f c13 h
      refine r_aload_n (pc := 19) 0 (n := 0) (by decide +kernel) rfl rfl ?_
      obtain ⟨g20, q20, h⟩ := bnd h
      refine r_get (pc := 20) (by decide +kernel) fl_M_132.r (by decide) rfl q20 ?_
      refine r_bipush (pc := 23) (z := 16) (by decide +kernel) ⟨by decide, by decide⟩ ?_
      refine r_icmp_ne (pc := 25) (off := 6) (tgt := 31) (by decide +kernel) (by decide) (fun c25 => ?_) (fun c25 => ?_)
      · have h := ite_f c25 h
        refine r_aload_n (pc := 31) 0 (n := 0) (by decide +kernel) rfl rfl ?_
        refine r_iload_n (pc := 32) 1 (n := 1) (by decide +kernel) rfl rfl ?_
        refine r_bipush (pc := 33) (z := 16) (by decide +kernel) ⟨by decide, by decide⟩ ?_
        obtain ⟨_, q35c, h⟩ := bnd h
        obtain ⟨x35, q35, h⟩ := bnd h
        refine r_callV (pc := 35) (i := 260) (d2 := d - 1) (As := [(0, a1), (0, 16)]) (st := []) (st1 := [(0, 16), (0, a1), (2, a0)]) (by decide +kernel) yk_M_load (by decide) rfl ⟨ml_M_260, vk_M_load⟩ np_M_load rfl (by omega) q35c (c_M_load (d := d - 1) (by omega) q35) (Nat.le_of_ble_eq_true rfl) (Nat.le_of_ble_eq_true rfl) (Nat.le_of_ble_eq_true rfl) rfl ?_
        show Rn _ d _ _ 0 0 _ 38 [(0, (2, a0)), (1, (0, a1)), (2, (0, a2))] [(0, x35.1)] x35.2
        refine r_if_ge (pc := 38) (off := 6) (tgt := 44) (by decide +kernel) (by decide) (fun c38 => ?_) (fun c38 => ?_)
        · have h := ite_t c38 h
          refine r_aload_n (pc := 44) 0 (n := 0) (by decide +kernel) rfl rfl ?_
          refine r_iconst (pc := 45) (z := 2) (by decide +kernel) ⟨by decide, by decide⟩ ?_
          obtain ⟨m46, q46, h⟩ := bnd h
          refine r_put (pc := 46) (by decide +kernel) fl_M_170 (by decide) (Or.inr nf_9_20) rfl (fun h3 => by cases h3) q46 ?_
          refine r_aload_n (pc := 49) 0 (n := 0) (by decide +kernel) rfl rfl ?_
          refine r_iconst (pc := 50) (z := 1) (by decide +kernel) ⟨by decide, by decide⟩ ?_
          obtain ⟨m51, q51, h⟩ := bnd h
          refine r_put (pc := 51) (by decide +kernel) fl_M_185 (by decide) (Or.inr nf_9_21) rfl (fun h3 => by cases h3) q51 ?_
          refine r_aload_n (pc := 54) 0 (n := 0) (by decide +kernel) rfl rfl ?_
          refine r_iload_n (pc := 55) 2 (n := 2) (by decide +kernel) rfl rfl ?_
          obtain ⟨m56, q56, h⟩ := bnd h
          refine r_put (pc := 56) (by decide +kernel) fl_M_149 (by decide) (Or.inr nf_9_23) rfl (fun h3 => by cases h3) q56 ?_
          refine r_aload_n (pc := 59) 0 (n := 0) (by decide +kernel) rfl rfl ?_
          obtain ⟨_, q60c, h⟩ := bnd h
          obtain ⟨x60, q60, h⟩ := bnd h
          refine r_callV (pc := 60) (i := 264) (d2 := d - 1) (As := []) (st := []) (st1 := [(2, a0)]) (by decide +kernel) yk_M_newTongue (by decide) rfl ⟨ml_M_264, vk_M_newTongue⟩ np_M_newTongue rfl (by omega) q60c (c_M_newTongue (d := d - 1) (by omega) q60) (Nat.le_of_ble_eq_true rfl) (Nat.le_of_ble_eq_true rfl) (Nat.le_of_ble_eq_true rfl) rfl ?_
          show Rn _ d _ _ 0 0 _ 63 [(0, (2, a0)), (1, (0, a1)), (2, (0, a2))] [(0, x60.1)] x60.2
          obtain rfl := Option.some.inj h
          exact r_ret (pc := 63) (r := some (0, x60.1)) (by decide +kernel) rfl trivial (Nat.le_of_ble_eq_true rfl) (Nat.le_of_ble_eq_true rfl)
        · have h := ite_f c38 h
          refine r_bipush (pc := 41) (z := (-5)) (by decide +kernel) ⟨by decide, by decide⟩ ?_
          obtain rfl := Option.some.inj h
          exact r_ret (pc := 43) (r := some (0, (-5))) (by decide +kernel) rfl trivial (Nat.le_of_ble_eq_true rfl) (Nat.le_of_ble_eq_true rfl)
      · have h := ite_t c25 h
        refine r_bipush (pc := 28) (z := (-4)) (by decide +kernel) ⟨by decide, by decide⟩ ?_
        obtain rfl := Option.some.inj h
        exact r_ret (pc := 30) (r := some (0, (-4))) (by decide +kernel) rfl trivial (Nat.le_of_ble_eq_true rfl) (Nat.le_of_ble_eq_true rfl)
    · have h := ite_t c13 h
      refine r_bipush (pc := 16) (z := (-2)) (by decide +kernel) ⟨by decide, by decide⟩ ?_
      obtain rfl := Option.some.inj h
      exact r_ret (pc := 18) (r := some (0, (-2))) (by decide +kernel) rfl trivial (Nat.le_of_ble_eq_true rfl) (Nat.le_of_ble_eq_true rfl)

/-! TreeTonguesModel.usefulOf(I)I -/
noncomputable def L_M_usefulOf_4 (k : Int → Mem → Option (Int × Mem)) (v0 : Int) (v1 : Int) : Nat → Int → Int → Mem → Option (Int × Mem)
  | 0 => fun _ _ _ => none
  | n + 1 => fun v2 v3 M => (gf M v0 9 54 13).bind fun g6 => (rd M 10 g6 v1).bind fun e10 => if e10 ≤ v3 then (k v2 M) else ((gf M v0 9 54 15).bind fun g16 => (rd M 12 g16 (wr ((wr (6 * v1)) + v3))).bind fun e25 => (if e25 = 0 then (some 0) else (some (ishl 1 v3))).bind fun (t26 : Int) => lt (ior v2 t26) fun u2_37 => L_M_usefulOf_4 k v0 v1 n u2_37 (wr (v3 + 1)) M)
noncomputable def L_M_usefulOf_92 (k : Int → Mem → Option (Int × Mem)) (v0 : Int) (v1 : Int) (v3 : Int) (v4 : Int) (v5 : Int) : Nat → Int → Int → Mem → Option (Int × Mem)
  | 0 => fun _ _ _ => none
  | n + 1 => fun v2 v6 M => (gf M v0 9 54 1).bind fun g95 => (rd M 10 g95 v4).bind fun e100 => (if e100 ≤ 1 then (some 1) else ((gf M v0 9 54 13).bind fun g106 => (rd M 10 g106 v1).bind fun e110 => some e110)).bind fun (t102 : Int) => if t102 ≤ v6 then (k v2 M) else ((ck M v0 9 54).bind fun _ => (D_M_step v0 v1 v4 v5 v6 M).bind fun x127 => (if (iand (ishr v2 x127.1) 1) = 1 then ((gf x127.2 v0 9 54 1).bind fun g143 => (rd x127.2 10 g143 v4).bind fun e148 => (if e148 ≤ 1 then (some 0) else (some (ishl 1 v6))).bind fun (t150 : Int) => lt (ior v2 (ior (ishl 1 v5) t150)) fun u2_163 => some u2_163) else (some v2)).bind fun (t134 : Int) => L_M_usefulOf_92 k v0 v1 v3 v4 v5 n t134 (wr (v6 + 1)) x127.2)
noncomputable def L_M_usefulOf_68 (k : Int → Mem → Option (Int × Mem)) (v0 : Int) (v1 : Int) (v3 : Int) (v4 : Int) : Nat → Int → Int → Mem → Option (Int × Mem)
  | 0 => fun _ _ _ => none
  | n + 1 => fun v2 v5 M => (gf M v0 9 54 13).bind fun g71 => (rd M 10 g71 v1).bind fun e75 => (if e75 ≤ v5 then (some 0) else ((gf M v0 9 54 1).bind fun g80 => (rd M 10 g80 v4).bind fun e85 => if e85 ≤ 0 then (some 0) else (some 1))).bind fun (t76 : Int) => if t76 = 0 then (k v2 M) else (L_M_usefulOf_92 (fun w2_92 m92 => L_M_usefulOf_68 k v0 v1 v3 v4 n w2_92 (wr (v5 + 1)) m92) v0 v1 v3 v4 v5 FU v2 0 M)
noncomputable def L_M_usefulOf_56 (k : Int → Mem → Option (Int × Mem)) (v0 : Int) (v1 : Int) (v3 : Int) : Nat → Int → Int → Mem → Option (Int × Mem)
  | 0 => fun _ _ _ => none
  | n + 1 => fun v2 v4 M => (gf M v0 9 54 0).bind fun g59 => if g59 ≤ v4 then (k v2 M) else (L_M_usefulOf_68 (fun w2_68 m68 => L_M_usefulOf_56 k v0 v1 v3 n w2_68 (wr (v4 + 1)) m68) v0 v1 v3 v4 FU v2 0 M)
noncomputable def L_M_usefulOf_46 (k : Int → Mem → Option (Int × Mem)) (v0 : Int) (v1 : Int) : Nat → Int → Int → Mem → Option (Int × Mem)
  | 0 => fun _ _ _ => none
  | n + 1 => fun v2 v3 M => if v2 = v3 then (k v2 M) else (L_M_usefulOf_56 (fun w2_56 m56 => L_M_usefulOf_46 k v0 v1 n w2_56 v2 m56) v0 v1 v2 FU v2 0 M)
noncomputable def D_M_usefulOf (a0 a1 : Int) (M : Mem) : Option (Int × Mem) := L_M_usefulOf_4 (fun w2_4 m4 => L_M_usefulOf_46 (fun w2_46 m46 => some (w2_46, m46)) a0 a1 FU w2_4 (-1) m4) a0 a1 FU 0 0 M
theorem sL_M_usefulOf_4 {d mc ms : Nat} (hd : 2 ≤ d) {r : Int × Mem} {k : Int → Mem → Option (Int × Mem)} {v0 : Int} {v1 : Int} (hk : ∀ (v2 : Int) (M : Mem), k v2 M = some r → Rn Y_M_usefulOf d mc ms 0 0 (some (0, r.1), r.2) 44 [(0, (2, v0)), (1, (0, v1)), (2, (0, v2))] [] M) : ∀ (n : Nat) (v2 : Int) (v3 : Int) (M : Mem), L_M_usefulOf_4 k v0 v1 n v2 v3 M = some r → Rn Y_M_usefulOf d mc ms 0 0 (some (0, r.1), r.2) 4 [(0, (2, v0)), (1, (0, v1)), (2, (0, v2)), (3, (0, v3))] [] M := by
  intro n
  induction n with
  | zero => intro _ _ _ h; cases h
  | succ n ih =>
    intro v2 v3 M h
    rw [L_M_usefulOf_4] at h
    refine r_iload_n (pc := 4) 3 (n := 3) (by decide +kernel) rfl rfl ?_
    refine r_aload_n (pc := 5) 0 (n := 0) (by decide +kernel) rfl rfl ?_
    obtain ⟨g6, q6, h⟩ := bnd h
    refine r_get (pc := 6) (by decide +kernel) fl_M_41.r (by decide) rfl q6 ?_
    refine r_iload_n (pc := 9) 1 (n := 1) (by decide +kernel) rfl rfl ?_
    obtain ⟨e10, q10, h⟩ := bnd h
    refine r_iald (pc := 10) (by decide +kernel) q10 ?_
    refine r_icmp_ge (pc := 11) (off := 33) (tgt := 44) (by decide +kernel) (by decide) (fun c11 => ?_) (fun c11 => ?_)
    · have h := ite_t c11 h
      refine r_lv [0, 1, 2] rfl ?_
      exact hk v2 M h
    · have h := ite_f c11 h
      refine r_iload_n (pc := 14) 2 (n := 2) (by decide +kernel) rfl rfl ?_
      refine r_aload_n (pc := 15) 0 (n := 0) (by decide +kernel) rfl rfl ?_
      obtain ⟨g16, q16, h⟩ := bnd h
      refine r_get (pc := 16) (by decide +kernel) fl_M_47.r (by decide) rfl q16 ?_
      refine r_bipush (pc := 19) (z := 6) (by decide +kernel) ⟨by decide, by decide⟩ ?_
      refine r_iload_n (pc := 21) 1 (n := 1) (by decide +kernel) rfl rfl ?_
      refine r_imul (pc := 22) (by decide +kernel) ?_
      refine r_iload_n (pc := 23) 3 (n := 3) (by decide +kernel) rfl rfl ?_
      refine r_iadd (pc := 24) (by decide +kernel) ?_
      obtain ⟨e25, q25, h⟩ := bnd h
      refine r_zald (pc := 25) (by decide +kernel) q25 ?_
      obtain ⟨t26, ht26, h⟩ := bnd h
      have E26_0 : Rn Y_M_usefulOf d mc ms 0 0 (some (0, r.1), r.2) 36 [(0, (2, v0)), (1, (0, v1)), (3, (0, v3))] [(0, t26), (0, v2)] M := by
        refine r_ior (pc := 36) (by decide +kernel) ?_
        obtain ⟨u2_37, q37, h⟩ := lt_o h
        refine r_eq q37 ?_
        refine r_istore_n (pc := 37) (n := 2) (lv' := [(2, (0, u2_37)), (0, (2, v0)), (1, (0, v1)), (3, (0, v3))]) (by decide +kernel) rfl (Nat.le_of_ble_eq_true rfl) rfl ?_
        refine r_iinc (pc := 38) 3 (n := 1) (lv' := [(3, (0, wr (v3 + 1))), (2, (0, u2_37)), (0, (2, v0)), (1, (0, v1))]) (by decide +kernel) rfl (Nat.le_of_ble_eq_true rfl) rfl ?_
        refine r_goto (pc := 41) (off := (-37)) (tgt := 4) (by decide +kernel) (by decide) ?_
        refine r_lv [2, 3, 1, 0] rfl ?_
        exact ih u2_37 (wr (v3 + 1)) M h
      refine r_if_eq (pc := 26) (off := 9) (tgt := 35) (by decide +kernel) (by decide) (fun c26 => ?_) (fun c26 => ?_)
      · have ht26 := ite_t c26 ht26
        refine r_iconst (pc := 35) (z := 0) (by decide +kernel) ⟨by decide, by decide⟩ ?_
        obtain rfl := Option.some.inj ht26
        refine r_lv [0, 1, 3] rfl ?_
        exact E26_0
      · have ht26 := ite_f c26 ht26
        refine r_iconst (pc := 29) (z := 1) (by decide +kernel) ⟨by decide, by decide⟩ ?_
        refine r_iload_n (pc := 30) 3 (n := 3) (by decide +kernel) rfl rfl ?_
        refine r_ishl (pc := 31) (by decide +kernel) ?_
        refine r_goto (pc := 32) (off := 4) (tgt := 36) (by decide +kernel) (by decide) ?_
        obtain rfl := Option.some.inj ht26
        refine r_lv [0, 1, 3] rfl ?_
        exact E26_0
theorem sL_M_usefulOf_92 {d mc ms : Nat} (hd : 2 ≤ d) {r : Int × Mem} {k : Int → Mem → Option (Int × Mem)} {v0 : Int} {v1 : Int} {v3 : Int} {v4 : Int} {v5 : Int} (hk : ∀ (v2 : Int) (M : Mem), k v2 M = some r → Rn Y_M_usefulOf d mc ms 0 0 (some (0, r.1), r.2) 170 [(0, (2, v0)), (1, (0, v1)), (2, (0, v2)), (3, (0, v3)), (4, (0, v4)), (5, (0, v5))] [] M) : ∀ (n : Nat) (v2 : Int) (v6 : Int) (M : Mem), L_M_usefulOf_92 k v0 v1 v3 v4 v5 n v2 v6 M = some r → Rn Y_M_usefulOf d mc ms 0 0 (some (0, r.1), r.2) 92 [(0, (2, v0)), (1, (0, v1)), (2, (0, v2)), (3, (0, v3)), (4, (0, v4)), (5, (0, v5)), (6, (0, v6))] [] M := by
  intro n
  induction n with
  | zero => intro _ _ _ h; cases h
  | succ n ih =>
    intro v2 v6 M h
    rw [L_M_usefulOf_92] at h
    refine r_iload (pc := 92) 6 (by decide +kernel) rfl ?_
    refine r_aload_n (pc := 94) 0 (n := 0) (by decide +kernel) rfl rfl ?_
    obtain ⟨g95, q95, h⟩ := bnd h
    refine r_get (pc := 95) (by decide +kernel) fl_M_7.r (by decide) rfl q95 ?_
    refine r_iload (pc := 98) 4 (by decide +kernel) rfl ?_
    obtain ⟨e100, q100, h⟩ := bnd h
    refine r_iald (pc := 100) (by decide +kernel) q100 ?_
    refine r_iconst (pc := 101) (z := 1) (by decide +kernel) ⟨by decide, by decide⟩ ?_
    obtain ⟨t102, ht102, h⟩ := bnd h
    have E102_0 : Rn Y_M_usefulOf d mc ms 0 0 (some (0, r.1), r.2) 115 [(0, (2, v0)), (1, (0, v1)), (2, (0, v2)), (3, (0, v3)), (4, (0, v4)), (5, (0, v5)), (6, (0, v6))] [(0, t102), (0, v6)] M := by
      refine r_icmp_ge (pc := 115) (off := 55) (tgt := 170) (by decide +kernel) (by decide) (fun c115 => ?_) (fun c115 => ?_)
      · have h := ite_t c115 h
        refine r_lv [0, 1, 2, 3, 4, 5] rfl ?_
        exact hk v2 M h
      · have h := ite_f c115 h
        refine r_iload_n (pc := 118) 2 (n := 2) (by decide +kernel) rfl rfl ?_
        refine r_aload_n (pc := 119) 0 (n := 0) (by decide +kernel) rfl rfl ?_
        refine r_iload_n (pc := 120) 1 (n := 1) (by decide +kernel) rfl rfl ?_
        refine r_iload (pc := 121) 4 (by decide +kernel) rfl ?_
        refine r_iload (pc := 123) 5 (by decide +kernel) rfl ?_
        refine r_iload (pc := 125) 6 (by decide +kernel) rfl ?_
        obtain ⟨_, q127c, h⟩ := bnd h
        obtain ⟨x127, q127, h⟩ := bnd h
        refine r_callV (pc := 127) (i := 155) (d2 := d - 1) (As := [(0, v1), (0, v4), (0, v5), (0, v6)]) (st := [(0, v2)]) (st1 := [(0, v6), (0, v5), (0, v4), (0, v1), (2, v0), (0, v2)]) (by decide +kernel) yk_M_step (by decide) rfl ⟨ml_M_155, vk_M_step⟩ np_M_step rfl (by omega) q127c (c_M_step (d := d - 1) (by omega) q127) (Nat.le_of_ble_eq_true rfl) (Nat.le_of_ble_eq_true rfl) (Nat.le_of_ble_eq_true rfl) rfl ?_
        show Rn _ d _ _ 0 0 _ 130 [(0, (2, v0)), (1, (0, v1)), (2, (0, v2)), (3, (0, v3)), (4, (0, v4)), (5, (0, v5)), (6, (0, v6))] [(0, x127.1), (0, v2)] x127.2
        refine r_ishr (pc := 130) (by decide +kernel) ?_
        refine r_iconst (pc := 131) (z := 1) (by decide +kernel) ⟨by decide, by decide⟩ ?_
        refine r_iand (pc := 132) (by decide +kernel) ?_
        refine r_iconst (pc := 133) (z := 1) (by decide +kernel) ⟨by decide, by decide⟩ ?_
        obtain ⟨t134, ht134, h⟩ := bnd h
        have E134_0 : Rn Y_M_usefulOf d mc ms 0 0 (some (0, r.1), r.2) 164 [(0, (2, v0)), (1, (0, v1)), (2, (0, t134)), (3, (0, v3)), (4, (0, v4)), (5, (0, v5)), (6, (0, v6))] [] x127.2 := by
          refine r_iinc (pc := 164) 6 (n := 1) (lv' := [(6, (0, wr (v6 + 1))), (0, (2, v0)), (1, (0, v1)), (2, (0, t134)), (3, (0, v3)), (4, (0, v4)), (5, (0, v5))]) (by decide +kernel) rfl (Nat.le_of_ble_eq_true rfl) rfl ?_
          refine r_goto (pc := 167) (off := (-75)) (tgt := 92) (by decide +kernel) (by decide) ?_
          refine r_lv [1, 2, 3, 4, 5, 6, 0] rfl ?_
          exact ih t134 (wr (v6 + 1)) x127.2 h
        refine r_icmp_ne (pc := 134) (off := 30) (tgt := 164) (by decide +kernel) (by decide) (fun c134 => ?_) (fun c134 => ?_)
        · have ht134 := ite_f c134 ht134
          obtain rfl := Option.some.inj ht134
          exact E134_0
        · have ht134 := ite_t c134 ht134
          refine r_iload_n (pc := 137) 2 (n := 2) (by decide +kernel) rfl rfl ?_
          refine r_iconst (pc := 138) (z := 1) (by decide +kernel) ⟨by decide, by decide⟩ ?_
          refine r_iload (pc := 139) 5 (by decide +kernel) rfl ?_
          refine r_ishl (pc := 141) (by decide +kernel) ?_
          refine r_aload_n (pc := 142) 0 (n := 0) (by decide +kernel) rfl rfl ?_
          obtain ⟨g143, q143, ht134⟩ := bnd ht134
          refine r_get (pc := 143) (by decide +kernel) fl_M_7.r (by decide) rfl q143 ?_
          refine r_iload (pc := 146) 4 (by decide +kernel) rfl ?_
          obtain ⟨e148, q148, ht134⟩ := bnd ht134
          refine r_iald (pc := 148) (by decide +kernel) q148 ?_
          refine r_iconst (pc := 149) (z := 1) (by decide +kernel) ⟨by decide, by decide⟩ ?_
          obtain ⟨t150, ht150, ht134⟩ := bnd ht134
          have E150_0 : Rn Y_M_usefulOf d mc ms 0 0 (some (0, r.1), r.2) 161 [(0, (2, v0)), (1, (0, v1)), (3, (0, v3)), (4, (0, v4)), (5, (0, v5)), (6, (0, v6))] [(0, t150), (0, ishl 1 v5), (0, v2)] x127.2 := by
            refine r_ior (pc := 161) (by decide +kernel) ?_
            refine r_ior (pc := 162) (by decide +kernel) ?_
            obtain ⟨u2_163, q163, ht134⟩ := lt_o ht134
            refine r_eq q163 ?_
            refine r_istore_n (pc := 163) (n := 2) (lv' := [(2, (0, u2_163)), (0, (2, v0)), (1, (0, v1)), (3, (0, v3)), (4, (0, v4)), (5, (0, v5)), (6, (0, v6))]) (by decide +kernel) rfl (Nat.le_of_ble_eq_true rfl) rfl ?_
            obtain rfl := Option.some.inj ht134
            refine r_lv [1, 2, 0, 3, 4, 5, 6] rfl ?_
            exact E134_0
          refine r_icmp_le (pc := 150) (off := 10) (tgt := 160) (by decide +kernel) (by decide) (fun c150 => ?_) (fun c150 => ?_)
          · have ht150 := ite_t c150 ht150
            refine r_iconst (pc := 160) (z := 0) (by decide +kernel) ⟨by decide, by decide⟩ ?_
            obtain rfl := Option.some.inj ht150
            refine r_lv [0, 1, 3, 4, 5, 6] rfl ?_
            exact E150_0
          · have ht150 := ite_f c150 ht150
            refine r_iconst (pc := 153) (z := 1) (by decide +kernel) ⟨by decide, by decide⟩ ?_
            refine r_iload (pc := 154) 6 (by decide +kernel) rfl ?_
            refine r_ishl (pc := 156) (by decide +kernel) ?_
            refine r_goto (pc := 157) (off := 4) (tgt := 161) (by decide +kernel) (by decide) ?_
            obtain rfl := Option.some.inj ht150
            refine r_lv [0, 1, 3, 4, 5, 6] rfl ?_
            exact E150_0
    refine r_icmp_le (pc := 102) (off := 12) (tgt := 114) (by decide +kernel) (by decide) (fun c102 => ?_) (fun c102 => ?_)
    · have ht102 := ite_t c102 ht102
      refine r_iconst (pc := 114) (z := 1) (by decide +kernel) ⟨by decide, by decide⟩ ?_
      obtain rfl := Option.some.inj ht102
      exact E102_0
    · have ht102 := ite_f c102 ht102
      refine r_aload_n (pc := 105) 0 (n := 0) (by decide +kernel) rfl rfl ?_
      obtain ⟨g106, q106, ht102⟩ := bnd ht102
      refine r_get (pc := 106) (by decide +kernel) fl_M_41.r (by decide) rfl q106 ?_
      refine r_iload_n (pc := 109) 1 (n := 1) (by decide +kernel) rfl rfl ?_
      obtain ⟨e110, q110, ht102⟩ := bnd ht102
      refine r_iald (pc := 110) (by decide +kernel) q110 ?_
      refine r_goto (pc := 111) (off := 4) (tgt := 115) (by decide +kernel) (by decide) ?_
      obtain rfl := Option.some.inj ht102
      exact E102_0
theorem sL_M_usefulOf_68 {d mc ms : Nat} (hd : 2 ≤ d) {r : Int × Mem} {k : Int → Mem → Option (Int × Mem)} {v0 : Int} {v1 : Int} {v3 : Int} {v4 : Int} (hk : ∀ (v2 : Int) (M : Mem), k v2 M = some r → Rn Y_M_usefulOf d mc ms 0 0 (some (0, r.1), r.2) 176 [(0, (2, v0)), (1, (0, v1)), (2, (0, v2)), (3, (0, v3)), (4, (0, v4))] [] M) : ∀ (n : Nat) (v2 : Int) (v5 : Int) (M : Mem), L_M_usefulOf_68 k v0 v1 v3 v4 n v2 v5 M = some r → Rn Y_M_usefulOf d mc ms 0 0 (some (0, r.1), r.2) 68 [(0, (2, v0)), (1, (0, v1)), (2, (0, v2)), (3, (0, v3)), (4, (0, v4)), (5, (0, v5))] [] M := by
  intro n
  induction n with
  | zero => intro _ _ _ h; cases h
  | succ n ih =>
    intro v2 v5 M h
    rw [L_M_usefulOf_68] at h
    refine r_iload (pc := 68) 5 (by decide +kernel) rfl ?_
    refine r_aload_n (pc := 70) 0 (n := 0) (by decide +kernel) rfl rfl ?_
    obtain ⟨g71, q71, h⟩ := bnd h
    refine r_get (pc := 71) (by decide +kernel) fl_M_41.r (by decide) rfl q71 ?_
    refine r_iload_n (pc := 74) 1 (n := 1) (by decide +kernel) rfl rfl ?_
    obtain ⟨e75, q75, h⟩ := bnd h
    refine r_iald (pc := 75) (by decide +kernel) q75 ?_
    obtain ⟨t76, ht76, h⟩ := bnd h
    have E76_0 : t76 = 0 → Rn Y_M_usefulOf d mc ms 0 0 (some (0, r.1), r.2) 176 [(0, (2, v0)), (1, (0, v1)), (2, (0, v2)), (3, (0, v3)), (4, (0, v4))] [] M := by
      intro y0
      have h := ite_t y0 h
      exact hk v2 M h
    have E76_1 : ¬ t76 = 0 → Rn Y_M_usefulOf d mc ms 0 0 (some (0, r.1), r.2) 89 [(0, (2, v0)), (1, (0, v1)), (2, (0, v2)), (3, (0, v3)), (4, (0, v4)), (5, (0, v5))] [] M := by
      intro n0
      have h := ite_f n0 h
      refine r_iconst (pc := 89) (z := 0) (by decide +kernel) ⟨by decide, by decide⟩ ?_
      refine r_istore (pc := 90) (lv' := [(6, (0, 0)), (0, (2, v0)), (1, (0, v1)), (2, (0, v2)), (3, (0, v3)), (4, (0, v4)), (5, (0, v5))]) (by decide +kernel) (Nat.le_of_ble_eq_true rfl) rfl ?_
      refine r_lv [1, 2, 3, 4, 5, 6, 0] rfl ?_
      refine sL_M_usefulOf_92 (by omega) ?_ _ _ _  _ h
      intro w2_92 m92 h
      refine r_iinc (pc := 170) 5 (n := 1) (lv' := [(5, (0, wr (v5 + 1))), (0, (2, v0)), (1, (0, v1)), (2, (0, w2_92)), (3, (0, v3)), (4, (0, v4))]) (by decide +kernel) rfl (Nat.le_of_ble_eq_true rfl) rfl ?_
      refine r_goto (pc := 173) (off := (-105)) (tgt := 68) (by decide +kernel) (by decide) ?_
      refine r_lv [1, 2, 3, 4, 5, 0] rfl ?_
      exact ih w2_92 (wr (v5 + 1)) m92 h
    refine r_icmp_ge (pc := 76) (off := 100) (tgt := 176) (by decide +kernel) (by decide) (fun c76 => ?_) (fun c76 => ?_)
    · have ht76 := ite_t c76 ht76
      obtain rfl := Option.some.inj ht76
      refine r_lv [0, 1, 2, 3, 4] rfl ?_
      exact E76_0 rfl
    · have ht76 := ite_f c76 ht76
      refine r_aload_n (pc := 79) 0 (n := 0) (by decide +kernel) rfl rfl ?_
      obtain ⟨g80, q80, ht76⟩ := bnd ht76
      refine r_get (pc := 80) (by decide +kernel) fl_M_7.r (by decide) rfl q80 ?_
      refine r_iload (pc := 83) 4 (by decide +kernel) rfl ?_
      obtain ⟨e85, q85, ht76⟩ := bnd ht76
      refine r_iald (pc := 85) (by decide +kernel) q85 ?_
      refine r_if_le (pc := 86) (off := 90) (tgt := 176) (by decide +kernel) (by decide) (fun c86 => ?_) (fun c86 => ?_)
      · have ht76 := ite_t c86 ht76
        obtain rfl := Option.some.inj ht76
        refine r_lv [0, 1, 2, 3, 4] rfl ?_
        exact E76_0 rfl
      · have ht76 := ite_f c86 ht76
        obtain rfl := Option.some.inj ht76
        exact E76_1 (show ¬ (1 : Int) = 0 by decide)
theorem sL_M_usefulOf_56 {d mc ms : Nat} (hd : 2 ≤ d) {r : Int × Mem} {k : Int → Mem → Option (Int × Mem)} {v0 : Int} {v1 : Int} {v3 : Int} (hk : ∀ (v2 : Int) (M : Mem), k v2 M = some r → Rn Y_M_usefulOf d mc ms 0 0 (some (0, r.1), r.2) 182 [(0, (2, v0)), (1, (0, v1)), (2, (0, v2)), (3, (0, v3))] [] M) : ∀ (n : Nat) (v2 : Int) (v4 : Int) (M : Mem), L_M_usefulOf_56 k v0 v1 v3 n v2 v4 M = some r → Rn Y_M_usefulOf d mc ms 0 0 (some (0, r.1), r.2) 56 [(0, (2, v0)), (1, (0, v1)), (2, (0, v2)), (3, (0, v3)), (4, (0, v4))] [] M := by
  intro n
  induction n with
  | zero => intro _ _ _ h; cases h
  | succ n ih =>
    intro v2 v4 M h
    rw [L_M_usefulOf_56] at h
    refine r_iload (pc := 56) 4 (by decide +kernel) rfl ?_
    refine r_aload_n (pc := 58) 0 (n := 0) (by decide +kernel) rfl rfl ?_
    obtain ⟨g59, q59, h⟩ := bnd h
    refine r_get (pc := 59) (by decide +kernel) fl_M_124.r (by decide) rfl q59 ?_
    refine r_icmp_ge (pc := 62) (off := 120) (tgt := 182) (by decide +kernel) (by decide) (fun c62 => ?_) (fun c62 => ?_)
    · have h := ite_t c62 h
      refine r_lv [0, 1, 2, 3] rfl ?_
      exact hk v2 M h
    · have h := ite_f c62 h
      refine r_iconst (pc := 65) (z := 0) (by decide +kernel) ⟨by decide, by decide⟩ ?_
      refine r_istore (pc := 66) (lv' := [(5, (0, 0)), (0, (2, v0)), (1, (0, v1)), (2, (0, v2)), (3, (0, v3)), (4, (0, v4))]) (by decide +kernel) (Nat.le_of_ble_eq_true rfl) rfl ?_
      refine r_lv [1, 2, 3, 4, 5, 0] rfl ?_
      refine sL_M_usefulOf_68 (by omega) ?_ _ _ _  _ h
      intro w2_68 m68 h
      refine r_iinc (pc := 176) 4 (n := 1) (lv' := [(4, (0, wr (v4 + 1))), (0, (2, v0)), (1, (0, v1)), (2, (0, w2_68)), (3, (0, v3))]) (by decide +kernel) rfl (Nat.le_of_ble_eq_true rfl) rfl ?_
      refine r_goto (pc := 179) (off := (-123)) (tgt := 56) (by decide +kernel) (by decide) ?_
      refine r_lv [1, 2, 3, 4, 0] rfl ?_
      exact ih w2_68 (wr (v4 + 1)) m68 h
theorem sL_M_usefulOf_46 {d mc ms : Nat} (hd : 2 ≤ d) {r : Int × Mem} {k : Int → Mem → Option (Int × Mem)} {v0 : Int} {v1 : Int} (hk : ∀ (v2 : Int) (M : Mem), k v2 M = some r → Rn Y_M_usefulOf d mc ms 0 0 (some (0, r.1), r.2) 185 [(2, (0, v2))] [] M) : ∀ (n : Nat) (v2 : Int) (v3 : Int) (M : Mem), L_M_usefulOf_46 k v0 v1 n v2 v3 M = some r → Rn Y_M_usefulOf d mc ms 0 0 (some (0, r.1), r.2) 46 [(0, (2, v0)), (1, (0, v1)), (2, (0, v2)), (3, (0, v3))] [] M := by
  intro n
  induction n with
  | zero => intro _ _ _ h; cases h
  | succ n ih =>
    intro v2 v3 M h
    rw [L_M_usefulOf_46] at h
    refine r_iload_n (pc := 46) 2 (n := 2) (by decide +kernel) rfl rfl ?_
    refine r_iload_n (pc := 47) 3 (n := 3) (by decide +kernel) rfl rfl ?_
    refine r_icmp_eq (pc := 48) (off := 137) (tgt := 185) (by decide +kernel) (by decide) (fun c48 => ?_) (fun c48 => ?_)
    · have h := ite_t c48 h
      refine r_lv [2] rfl ?_
      exact hk v2 M h
    · have h := ite_f c48 h
      refine r_iload_n (pc := 51) 2 (n := 2) (by decide +kernel) rfl rfl ?_
      refine r_istore_n (pc := 52) (n := 3) (lv' := [(3, (0, v2)), (0, (2, v0)), (1, (0, v1)), (2, (0, v2))]) (by decide +kernel) rfl (Nat.le_of_ble_eq_true rfl) rfl ?_
      refine r_iconst (pc := 53) (z := 0) (by decide +kernel) ⟨by decide, by decide⟩ ?_
      refine r_istore (pc := 54) (lv' := [(4, (0, 0)), (3, (0, v2)), (0, (2, v0)), (1, (0, v1)), (2, (0, v2))]) (by decide +kernel) (Nat.le_of_ble_eq_true rfl) rfl ?_
      refine r_lv [2, 3, 4, 1, 0] rfl ?_
      refine sL_M_usefulOf_56 (by omega) ?_ _ _ _  _ h
      intro w2_56 m56 h
      refine r_goto (pc := 182) (off := (-136)) (tgt := 46) (by decide +kernel) (by decide) ?_
      exact ih w2_56 v2 m56 h
theorem c_M_usefulOf {d : Nat} (hd : 2 ≤ d) {a0 a1 : Int} {M : Mem} {x : Int × Mem} (h : D_M_usefulOf a0 a1 M = some x) : Ct d Y_M_usefulOf [(2, a0), (0, a1)] M (some (0, x.1), x.2) 0 0 := by
  refine ct_of yk_M_usefulOf (Nat.le_of_ble_eq_true rfl) ?_
  rw [D_M_usefulOf] at h
  show Rn Y_M_usefulOf d 0 0 0 0 (some (0, x.1), x.2) 0 [(0, (2, a0)), (1, (0, a1))] [] M
  refine r_iconst (pc := 0) (z := 0) (by decide +kernel) ⟨by decide, by decide⟩ ?_
  refine r_istore_n (pc := 1) (n := 2) (lv' := [(2, (0, 0)), (0, (2, a0)), (1, (0, a1))]) (by decide +kernel) rfl (Nat.le_of_ble_eq_true rfl) rfl ?_
  refine r_iconst (pc := 2) (z := 0) (by decide +kernel) ⟨by decide, by decide⟩ ?_
  refine r_istore_n (pc := 3) (n := 3) (lv' := [(3, (0, 0)), (2, (0, 0)), (0, (2, a0)), (1, (0, a1))]) (by decide +kernel) rfl (Nat.le_of_ble_eq_true rfl) rfl ?_
  refine r_lv [2, 3, 1, 0] rfl ?_
  refine sL_M_usefulOf_4 (by omega) ?_ _ _ _  _ h
  intro w2_4 m4 h
  refine r_iconst (pc := 44) (z := (-1)) (by decide +kernel) ⟨by decide, by decide⟩ ?_
  refine r_istore_n (pc := 45) (n := 3) (lv' := [(3, (0, (-1))), (0, (2, a0)), (1, (0, a1)), (2, (0, w2_4))]) (by decide +kernel) rfl (Nat.le_of_ble_eq_true rfl) rfl ?_
  refine r_lv [1, 2, 3, 0] rfl ?_
  refine sL_M_usefulOf_46 (by omega) ?_ _ _ _  _ h
  intro w2_46 m46 h
  refine r_iload_n (pc := 185) 0 (n := 2) (by decide +kernel) rfl rfl ?_
  obtain rfl := Option.some.inj h
  exact r_ret (pc := 186) (r := some (0, w2_46)) (by decide +kernel) rfl trivial (Nat.le_of_ble_eq_true rfl) (Nat.le_of_ble_eq_true rfl)
