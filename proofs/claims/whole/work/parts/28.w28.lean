/-! TreeTonguesModel.countIn(I)J -/
noncomputable def L_M_countIn_5 (k : Int → Mem → Option (Int × Mem)) (v0 : Int) (v1 : Int) : Nat → Int → Int → Mem → Option (Int × Mem)
  | 0 => fun _ _ _ => none
  | n + 1 => fun v2 v4 M => (gf M v0 9 54 13).bind fun g8 => (rd M 10 g8 16).bind fun e13 => if e13 ≤ v4 then (k v2 M) else ((gf M v0 9 54 15).bind fun g18 => (rd M 12 g18 (wr (96 + v4))).bind fun e26 => (if e26 = 0 then (some (v2, M)) else ((gf M v0 9 54 45).bind fun g32 => (rd M 11 g32 (wr ((wr (41 * v4)) + v1))).bind fun e42 => (D_M_plus v2 e42 M).bind fun x43 => some (x43.1, x43.2))).bind fun (t27 : Int × Mem) => L_M_countIn_5 k v0 v1 n t27.1 (wr (v4 + 1)) t27.2)
noncomputable def D_M_countIn (a0 a1 : Int) (M : Mem) : Option (Int × Mem) := L_M_countIn_5 (fun w2_5 m5 => some (w2_5, m5)) a0 a1 FU 0 0 M
theorem sL_M_countIn_5 {d mc ms : Nat} (hd : 2 ≤ d) {r : Int × Mem} {k : Int → Mem → Option (Int × Mem)} {v0 : Int} {v1 : Int} (hk : ∀ (v2 : Int) (M : Mem), k v2 M = some r → Rn Y_M_countIn d mc ms 0 0 (some (1, r.1), r.2) 57 [(2, (1, v2))] [] M) : ∀ (n : Nat) (v2 : Int) (v4 : Int) (M : Mem), L_M_countIn_5 k v0 v1 n v2 v4 M = some r → Rn Y_M_countIn d mc ms 0 0 (some (1, r.1), r.2) 5 [(0, (2, v0)), (1, (0, v1)), (2, (1, v2)), (4, (0, v4))] [] M := by
  intro n
  induction n with
  | zero => intro _ _ _ h; cases h
  | succ n ih =>
    intro v2 v4 M h
    rw [L_M_countIn_5] at h
    refine r_iload (pc := 5) 3 (by decide +kernel) rfl ?_
    refine r_aload_n (pc := 7) 0 (n := 0) (by decide +kernel) rfl rfl ?_
    obtain ⟨g8, q8, h⟩ := bnd h
    refine r_get (pc := 8) (by decide +kernel) fl_M_41.r (by decide) rfl q8 ?_
    refine r_bipush (pc := 11) (z := 16) (by decide +kernel) ⟨by decide, by decide⟩ ?_
    obtain ⟨e13, q13, h⟩ := bnd h
    refine r_iald (pc := 13) (by decide +kernel) q13 ?_
    refine r_icmp_ge (pc := 14) (off := 43) (tgt := 57) (by decide +kernel) (by decide) (fun c14 => ?_) (fun c14 => ?_)
    · have h := ite_t c14 h
      refine r_lv [2] rfl ?_
      exact hk v2 M h
    · have h := ite_f c14 h
      refine r_aload_n (pc := 17) 0 (n := 0) (by decide +kernel) rfl rfl ?_
      obtain ⟨g18, q18, h⟩ := bnd h
      refine r_get (pc := 18) (by decide +kernel) fl_M_47.r (by decide) rfl q18 ?_
      refine r_bipush (pc := 21) (z := 96) (by decide +kernel) ⟨by decide, by decide⟩ ?_
      refine r_iload (pc := 23) 3 (by decide +kernel) rfl ?_
      refine r_iadd (pc := 25) (by decide +kernel) ?_
      obtain ⟨e26, q26, h⟩ := bnd h
      refine r_zald (pc := 26) (by decide +kernel) q26 ?_
      obtain ⟨t27, ht27, h⟩ := bnd h
      have E27_0 : Rn Y_M_countIn d mc ms 0 0 (some (1, r.1), r.2) 50 [(0, (2, v0)), (1, (0, v1)), (4, (0, v4))] [(1, t27.1)] t27.2 := by
        refine r_lstore_n (pc := 50) (n := 2) (lv' := [(2, (1, t27.1)), (0, (2, v0)), (1, (0, v1)), (4, (0, v4))]) (by decide +kernel) rfl (Nat.le_of_ble_eq_true rfl) rfl ?_
        refine r_iinc (pc := 51) 3 (n := 1) (lv' := [(4, (0, wr (v4 + 1))), (2, (1, t27.1)), (0, (2, v0)), (1, (0, v1))]) (by decide +kernel) rfl (Nat.le_of_ble_eq_true rfl) rfl ?_
        refine r_goto (pc := 54) (off := (-49)) (tgt := 5) (by decide +kernel) (by decide) ?_
        refine r_lv [2, 3, 1, 0] rfl ?_
        exact ih t27.1 (wr (v4 + 1)) t27.2 h
      refine r_if_eq (pc := 27) (off := 22) (tgt := 49) (by decide +kernel) (by decide) (fun c27 => ?_) (fun c27 => ?_)
      · have ht27 := ite_t c27 ht27
        refine r_lload_n (pc := 49) 2 (n := 2) (by decide +kernel) rfl rfl ?_
        obtain rfl := Option.some.inj ht27
        refine r_lv [0, 1, 3] rfl ?_
        exact E27_0
      · have ht27 := ite_f c27 ht27
        refine r_lload_n (pc := 30) 2 (n := 2) (by decide +kernel) rfl rfl ?_
        refine r_aload_n (pc := 31) 0 (n := 0) (by decide +kernel) rfl rfl ?_
        obtain ⟨g32, q32, ht27⟩ := bnd ht27
        refine r_get (pc := 32) (by decide +kernel) fl_M_102.r (by decide) rfl q32 ?_
        refine r_bipush (pc := 35) (z := 41) (by decide +kernel) ⟨by decide, by decide⟩ ?_
        refine r_iload (pc := 37) 3 (by decide +kernel) rfl ?_
        refine r_imul (pc := 39) (by decide +kernel) ?_
        refine r_iload_n (pc := 40) 1 (n := 1) (by decide +kernel) rfl rfl ?_
        refine r_iadd (pc := 41) (by decide +kernel) ?_
        obtain ⟨e42, q42, ht27⟩ := bnd ht27
        refine r_lald (pc := 42) (by decide +kernel) q42 ?_
        obtain ⟨x43, q43, ht27⟩ := bnd ht27
        refine r_callS (pc := 43) (i := 293) (d2 := d - 1) (As := [(1, v2), (1, e42)]) (st := []) (st1 := [(1, e42), (1, v2)]) (by decide +kernel) yk_M_plus ⟨ml_M_293, sk_M_plus⟩ np_M_plus rfl (by omega) (c_M_plus (d := d - 1) (by omega) q43) (Nat.le_of_ble_eq_true rfl) (Nat.le_of_ble_eq_true rfl) (Nat.le_of_ble_eq_true rfl) rfl ?_
        show Rn _ d _ _ 0 0 _ 46 [(0, (2, v0)), (1, (0, v1)), (2, (1, v2)), (4, (0, v4))] [(1, x43.1)] x43.2
        refine r_goto (pc := 46) (off := 4) (tgt := 50) (by decide +kernel) (by decide) ?_
        obtain rfl := Option.some.inj ht27
        refine r_lv [0, 1, 3] rfl ?_
        exact E27_0
theorem c_M_countIn {d : Nat} (hd : 2 ≤ d) {a0 a1 : Int} {M : Mem} {x : Int × Mem} (h : D_M_countIn a0 a1 M = some x) : Ct d Y_M_countIn [(2, a0), (0, a1)] M (some (1, x.1), x.2) 0 0 := by
  refine ct_of yk_M_countIn (Nat.le_of_ble_eq_true rfl) ?_
  rw [D_M_countIn] at h
  show Rn Y_M_countIn d 0 0 0 0 (some (1, x.1), x.2) 0 [(0, (2, a0)), (1, (0, a1))] [] M
  refine r_lconst (pc := 0) (n := 0) (z := 0) (by decide +kernel) rfl ?_
  refine r_lstore_n (pc := 1) (n := 2) (lv' := [(2, (1, 0)), (0, (2, a0)), (1, (0, a1))]) (by decide +kernel) rfl (Nat.le_of_ble_eq_true rfl) rfl ?_
  refine r_iconst (pc := 2) (z := 0) (by decide +kernel) ⟨by decide, by decide⟩ ?_
  refine r_istore (pc := 3) (lv' := [(4, (0, 0)), (2, (1, 0)), (0, (2, a0)), (1, (0, a1))]) (by decide +kernel) (Nat.le_of_ble_eq_true rfl) rfl ?_
  refine r_lv [2, 3, 1, 0] rfl ?_
  refine sL_M_countIn_5 (by omega) ?_ _ _ _  _ h
  intro w2_5 m5 h
  refine r_lload_n (pc := 57) 0 (n := 2) (by decide +kernel) rfl rfl ?_
  obtain rfl := Option.some.inj h
  exact r_ret (pc := 58) (r := some (1, w2_5)) (by decide +kernel) rfl trivial (Nat.le_of_ble_eq_true rfl) (Nat.le_of_ble_eq_true rfl)

/-! TreeTonguesModel.count(II)J -/
noncomputable def D_M_count (a0 a1 a2 : Int) (M : Mem) : Option (Int × Mem) := (ck M a0 9 54).bind fun _ => (D_M_isTongue a0 a1 M).bind fun x2 => if x2.1 = 0 then (some ((-1), x2.2)) else ((D_M_in a2 1 40 x2.2).bind fun x14 => if x14.1 = 0 then (some ((-1), x14.2)) else ((ck x14.2 a0 9 54).bind fun _ => (D_M_load a0 a1 16 x14.2).bind fun x24 => if 0 ≤ x24.1 then ((ck x24.2 a0 9 54).bind fun _ => (D_M_countAll a0 x24.2).bind fun x35 => (ck x35 a0 9 54).bind fun _ => (D_M_countIn a0 a2 x35).bind fun x40 => some (x40.1, x40.2)) else (some ((-1), x24.2))))
theorem c_M_count {d : Nat} (hd : 9 ≤ d) {a0 a1 a2 : Int} {M : Mem} {x : Int × Mem} (h : D_M_count a0 a1 a2 M = some x) : Ct d Y_M_count [(2, a0), (0, a1), (0, a2)] M (some (1, x.1), x.2) 0 0 := by
  refine ct_of yk_M_count (Nat.le_of_ble_eq_true rfl) ?_
  rw [D_M_count] at h
  show Rn Y_M_count d 0 0 0 0 (some (1, x.1), x.2) 0 [(0, (2, a0)), (1, (0, a1)), (2, (0, a2))] [] M
  refine r_aload_n (pc := 0) 0 (n := 0) (by decide +kernel) rfl rfl ?_
  refine r_iload_n (pc := 1) 1 (n := 1) (by decide +kernel) rfl rfl ?_
  obtain ⟨_, q2c, h⟩ := bnd h
  obtain ⟨x2, q2, h⟩ := bnd h
  refine r_callV (pc := 2) (i := 146) (d2 := d - 1) (As := [(0, a1)]) (st := []) (st1 := [(0, a1), (2, a0)]) (by decide +kernel) yk_M_isTongue (by decide) rfl ⟨ml_M_146, vk_M_isTongue⟩ np_M_isTongue rfl (by omega) q2c (c_M_isTongue (d := d - 1) (by omega) q2) (Nat.le_of_ble_eq_true rfl) (Nat.le_of_ble_eq_true rfl) (Nat.le_of_ble_eq_true rfl) rfl ?_
  show Rn _ d _ _ 0 0 _ 5 [(0, (2, a0)), (1, (0, a1)), (2, (0, a2))] [(0, x2.1)] x2.2
  refine r_if_eq (pc := 5) (off := 25) (tgt := 30) (by decide +kernel) (by decide) (fun c5 => ?_) (fun c5 => ?_)
  · have h := ite_t c5 h
    refine r_ldc2 (pc := 30) (i := 302) (z := (-1)) (by decide +kernel) (mg 1297 (by decide +kernel) (by decide +kernel)) ⟨by decide, by decide⟩ ?_
    obtain rfl := Option.some.inj h
    exact r_ret (pc := 33) (r := some (1, (-1))) (by decide +kernel) rfl trivial (Nat.le_of_ble_eq_true rfl) (Nat.le_of_ble_eq_true rfl)
  · have h := ite_f c5 h
    refine r_iload_n (pc := 8) 2 (n := 2) (by decide +kernel) rfl rfl ?_
    refine r_i2l (pc := 9) (by decide +kernel) ?_
    refine r_lconst (pc := 10) (n := 1) (z := 1) (by decide +kernel) rfl ?_
    refine r_ldc2 (pc := 11) (i := 300) (z := 40) (by decide +kernel) (mg 1296 (by decide +kernel) (by decide +kernel)) ⟨by decide, by decide⟩ ?_
    obtain ⟨x14, q14, h⟩ := bnd h
    refine r_callS (pc := 14) (i := 128) (d2 := d - 1) (As := [(1, a2), (1, 1), (1, 40)]) (st := []) (st1 := [(1, 40), (1, 1), (1, a2)]) (by decide +kernel) yk_M_in ⟨ml_M_128, sk_M_in⟩ np_M_in rfl (by omega) (c_M_in (d := d - 1) (by omega) q14) (Nat.le_of_ble_eq_true rfl) (Nat.le_of_ble_eq_true rfl) (Nat.le_of_ble_eq_true rfl) rfl ?_
    show Rn _ d _ _ 0 0 _ 17 [(0, (2, a0)), (1, (0, a1)), (2, (0, a2))] [(0, x14.1)] x14.2
    refine r_if_eq (pc := 17) (off := 13) (tgt := 30) (by decide +kernel) (by decide) (fun c17 => ?_) (fun c17 => ?_)
    · have h := ite_t c17 h
      refine r_ldc2 (pc := 30) (i := 302) (z := (-1)) (by decide +kernel) (mg 1297 (by decide +kernel) (by decide +kernel)) ⟨by decide, by decide⟩ ?_
      obtain rfl := Option.some.inj h
      exact r_ret (pc := 33) (r := some (1, (-1))) (by decide +kernel) rfl trivial (Nat.le_of_ble_eq_true rfl) (Nat.le_of_ble_eq_true rfl)
    · have h := ite_f c17 h
      refine r_aload_n (pc := 20) 0 (n := 0) (by decide +kernel) rfl rfl ?_
      refine r_iload_n (pc := 21) 1 (n := 1) (by decide +kernel) rfl rfl ?_
      refine r_bipush (pc := 22) (z := 16) (by decide +kernel) ⟨by decide, by decide⟩ ?_
      obtain ⟨_, q24c, h⟩ := bnd h
      obtain ⟨x24, q24, h⟩ := bnd h
      refine r_callV (pc := 24) (i := 260) (d2 := d - 1) (As := [(0, a1), (0, 16)]) (st := []) (st1 := [(0, 16), (0, a1), (2, a0)]) (by decide +kernel) yk_M_load (by decide) rfl ⟨ml_M_260, vk_M_load⟩ np_M_load rfl (by omega) q24c (c_M_load (d := d - 1) (by omega) q24) (Nat.le_of_ble_eq_true rfl) (Nat.le_of_ble_eq_true rfl) (Nat.le_of_ble_eq_true rfl) rfl ?_
      show Rn _ d _ _ 0 0 _ 27 [(0, (2, a0)), (1, (0, a1)), (2, (0, a2))] [(0, x24.1)] x24.2
      refine r_if_ge (pc := 27) (off := 7) (tgt := 34) (by decide +kernel) (by decide) (fun c27 => ?_) (fun c27 => ?_)
      · have h := ite_t c27 h
        refine r_aload_n (pc := 34) 0 (n := 0) (by decide +kernel) rfl rfl ?_
        obtain ⟨_, q35c, h⟩ := bnd h
        obtain ⟨x35, q35, h⟩ := bnd h
        refine r_callV (pc := 35) (i := 304) (d2 := d - 1) (As := []) (st := []) (st1 := [(2, a0)]) (by decide +kernel) yk_M_countAll (by decide) rfl ⟨ml_M_304, vk_M_countAll⟩ np_M_countAll rfl (by omega) q35c (c_M_countAll (d := d - 1) (by omega) q35) (Nat.le_of_ble_eq_true rfl) (Nat.le_of_ble_eq_true rfl) (Nat.le_of_ble_eq_true rfl) rfl ?_
        show Rn _ d _ _ 0 0 _ 38 [(0, (2, a0)), (1, (0, a1)), (2, (0, a2))] [] x35
        refine r_aload_n (pc := 38) 0 (n := 0) (by decide +kernel) rfl rfl ?_
        refine r_iload_n (pc := 39) 2 (n := 2) (by decide +kernel) rfl rfl ?_
        obtain ⟨_, q40c, h⟩ := bnd h
        obtain ⟨x40, q40, h⟩ := bnd h
        refine r_callV (pc := 40) (i := 307) (d2 := d - 1) (As := [(0, a2)]) (st := []) (st1 := [(0, a2), (2, a0)]) (by decide +kernel) yk_M_countIn (by decide) rfl ⟨ml_M_307, vk_M_countIn⟩ np_M_countIn rfl (by omega) q40c (c_M_countIn (d := d - 1) (by omega) q40) (Nat.le_of_ble_eq_true rfl) (Nat.le_of_ble_eq_true rfl) (Nat.le_of_ble_eq_true rfl) rfl ?_
        show Rn _ d _ _ 0 0 _ 43 [(0, (2, a0)), (1, (0, a1)), (2, (0, a2))] [(1, x40.1)] x40.2
        obtain rfl := Option.some.inj h
        exact r_ret (pc := 43) (r := some (1, x40.1)) (by decide +kernel) rfl trivial (Nat.le_of_ble_eq_true rfl) (Nat.le_of_ble_eq_true rfl)
      · have h := ite_f c27 h
        refine r_ldc2 (pc := 30) (i := 302) (z := (-1)) (by decide +kernel) (mg 1297 (by decide +kernel) (by decide +kernel)) ⟨by decide, by decide⟩ ?_
        obtain rfl := Option.some.inj h
        exact r_ret (pc := 33) (r := some (1, (-1))) (by decide +kernel) rfl trivial (Nat.le_of_ble_eq_true rfl) (Nat.le_of_ble_eq_true rfl)

/-! TreeTonguesModel.layLast(I)V -/
noncomputable def L_M_layLast_2 (k : Mem → Option (Mem)) (v0 : Int) (v1 : Int) : Nat → Int → Mem → Option (Mem)
  | 0 => fun _ _ => none
  | n + 1 => fun v2 M => (gf M v0 9 54 13).bind fun g4 => (rd M 10 g4 16).bind fun e9 => if e9 ≤ v2 then (k  M) else ((gf M v0 9 54 46).bind fun g14 => (gf M v0 9 54 15).bind fun g24 => (rd M 12 g24 (wr (96 + v2))).bind fun e31 => (if e31 = 0 then (some 0) else (some 1)).bind fun (t32 : Int) => (wt M 11 g14 (wr ((wr (6 * v1)) + v2)) t32).bind fun m40 => L_M_layLast_2 k v0 v1 n (wr (v2 + 1)) m40)
noncomputable def D_M_layLast (a0 a1 : Int) (M : Mem) : Option (Mem) := L_M_layLast_2 (fun  m2 => some m2) a0 a1 FU 0 M
theorem sL_M_layLast_2 {d mc ms : Nat} (hd : 1 ≤ d) {r : Mem} {k : Mem → Option (Mem)} {v0 : Int} {v1 : Int} (hk : ∀ (M : Mem), k M = some r → Rn Y_M_layLast d mc ms 0 0 (none, r) 47 [] [] M) : ∀ (n : Nat) (v2 : Int) (M : Mem), L_M_layLast_2 k v0 v1 n v2 M = some r → Rn Y_M_layLast d mc ms 0 0 (none, r) 2 [(0, (2, v0)), (1, (0, v1)), (2, (0, v2))] [] M := by
  intro n
  induction n with
  | zero => intro _ _ h; cases h
  | succ n ih =>
    intro v2 M h
    rw [L_M_layLast_2] at h
    refine r_iload_n (pc := 2) 2 (n := 2) (by decide +kernel) rfl rfl ?_
    refine r_aload_n (pc := 3) 0 (n := 0) (by decide +kernel) rfl rfl ?_
    obtain ⟨g4, q4, h⟩ := bnd h
    refine r_get (pc := 4) (by decide +kernel) fl_M_41.r (by decide) rfl q4 ?_
    refine r_bipush (pc := 7) (z := 16) (by decide +kernel) ⟨by decide, by decide⟩ ?_
    obtain ⟨e9, q9, h⟩ := bnd h
    refine r_iald (pc := 9) (by decide +kernel) q9 ?_
    refine r_icmp_ge (pc := 10) (off := 37) (tgt := 47) (by decide +kernel) (by decide) (fun c10 => ?_) (fun c10 => ?_)
    · have h := ite_t c10 h
      refine r_lv [] rfl ?_
      exact hk  M h
    · have h := ite_f c10 h
      refine r_aload_n (pc := 13) 0 (n := 0) (by decide +kernel) rfl rfl ?_
      obtain ⟨g14, q14, h⟩ := bnd h
      refine r_get (pc := 14) (by decide +kernel) fl_M_106.r (by decide) rfl q14 ?_
      refine r_bipush (pc := 17) (z := 6) (by decide +kernel) ⟨by decide, by decide⟩ ?_
      refine r_iload_n (pc := 19) 1 (n := 1) (by decide +kernel) rfl rfl ?_
      refine r_imul (pc := 20) (by decide +kernel) ?_
      refine r_iload_n (pc := 21) 2 (n := 2) (by decide +kernel) rfl rfl ?_
      refine r_iadd (pc := 22) (by decide +kernel) ?_
      refine r_aload_n (pc := 23) 0 (n := 0) (by decide +kernel) rfl rfl ?_
      obtain ⟨g24, q24, h⟩ := bnd h
      refine r_get (pc := 24) (by decide +kernel) fl_M_47.r (by decide) rfl q24 ?_
      refine r_bipush (pc := 27) (z := 96) (by decide +kernel) ⟨by decide, by decide⟩ ?_
      refine r_iload_n (pc := 29) 2 (n := 2) (by decide +kernel) rfl rfl ?_
      refine r_iadd (pc := 30) (by decide +kernel) ?_
      obtain ⟨e31, q31, h⟩ := bnd h
      refine r_zald (pc := 31) (by decide +kernel) q31 ?_
      obtain ⟨t32, ht32, h⟩ := bnd h
      have E32_0 : Rn Y_M_layLast d mc ms 0 0 (none, r) 40 [(0, (2, v0)), (1, (0, v1)), (2, (0, v2))] [(1, t32), (0, wr ((wr (6 * v1)) + v2)), (2, g14)] M := by
        obtain ⟨m40, q40, h⟩ := bnd h
        refine r_last (pc := 40) (by decide +kernel) q40 ?_
        refine r_iinc (pc := 41) 2 (n := 1) (lv' := [(2, (0, wr (v2 + 1))), (0, (2, v0)), (1, (0, v1))]) (by decide +kernel) rfl (Nat.le_of_ble_eq_true rfl) rfl ?_
        refine r_goto (pc := 44) (off := (-42)) (tgt := 2) (by decide +kernel) (by decide) ?_
        refine r_lv [1, 2, 0] rfl ?_
        exact ih (wr (v2 + 1)) m40 h
      refine r_if_eq (pc := 32) (off := 7) (tgt := 39) (by decide +kernel) (by decide) (fun c32 => ?_) (fun c32 => ?_)
      · have ht32 := ite_t c32 ht32
        refine r_lconst (pc := 39) (n := 0) (z := 0) (by decide +kernel) rfl ?_
        obtain rfl := Option.some.inj ht32
        exact E32_0
      · have ht32 := ite_f c32 ht32
        refine r_lconst (pc := 35) (n := 1) (z := 1) (by decide +kernel) rfl ?_
        refine r_goto (pc := 36) (off := 4) (tgt := 40) (by decide +kernel) (by decide) ?_
        obtain rfl := Option.some.inj ht32
        exact E32_0
theorem c_M_layLast {d : Nat} (hd : 1 ≤ d) {a0 a1 : Int} {M : Mem} {x : Mem} (h : D_M_layLast a0 a1 M = some x) : Ct d Y_M_layLast [(2, a0), (0, a1)] M (none, x) 0 0 := by
  refine ct_of yk_M_layLast (Nat.le_of_ble_eq_true rfl) ?_
  rw [D_M_layLast] at h
  show Rn Y_M_layLast d 0 0 0 0 (none, x) 0 [(0, (2, a0)), (1, (0, a1))] [] M
  refine r_iconst (pc := 0) (z := 0) (by decide +kernel) ⟨by decide, by decide⟩ ?_
  refine r_istore_n (pc := 1) (n := 2) (lv' := [(2, (0, 0)), (0, (2, a0)), (1, (0, a1))]) (by decide +kernel) rfl (Nat.le_of_ble_eq_true rfl) rfl ?_
  refine r_lv [1, 2, 0] rfl ?_
  refine sL_M_layLast_2 (by omega) ?_ _ _  _ h
  intro m2 h
  obtain rfl := Option.some.inj h
  exact r_ret (pc := 47) (r := none) (by decide +kernel) rfl trivial (Nat.le_of_ble_eq_true rfl) (Nat.le_of_ble_eq_true rfl)

/-! TreeTonguesModel.behind(IIII)J -/
noncomputable def L_M_behind_6 (k : Int → Mem → Option (Int × Mem)) (v0 : Int) (v1 : Int) (v2 : Int) (v3 : Int) (v4 : Int) : Nat → Int → Int → Mem → Option (Int × Mem)
  | 0 => fun _ _ _ => none
  | n + 1 => fun v5 v7 M => (gf M v0 9 54 13).bind fun g9 => (rd M 10 g9 16).bind fun e14 => if e14 ≤ v7 then (k v5 M) else ((gf M v0 9 54 45).bind fun g21 => (rd M 11 g21 (wr ((wr (41 * v7)) + v4))).bind fun e32 => (gf M v0 9 54 46).bind fun g34 => (ck M v0 9 54).bind fun _ => (D_M_step v0 16 v2 v3 v7 M).bind fun x48 => (rd x48.2 11 g34 (wr ((wr (6 * v1)) + x48.1))).bind fun e52 => (D_M_times e32 e52 x48.2).bind fun x53 => (D_M_plus v5 x53.1 x53.2).bind fun x56 => L_M_behind_6 k v0 v1 v2 v3 v4 n x56.1 (wr (v7 + 1)) x56.2)
noncomputable def D_M_behind (a0 a1 a2 a3 a4 : Int) (M : Mem) : Option (Int × Mem) := L_M_behind_6 (fun w5_6 m6 => some (w5_6, m6)) a0 a1 a2 a3 a4 FU 0 0 M
theorem sL_M_behind_6 {d mc ms : Nat} (hd : 2 ≤ d) {r : Int × Mem} {k : Int → Mem → Option (Int × Mem)} {v0 : Int} {v1 : Int} {v2 : Int} {v3 : Int} {v4 : Int} (hk : ∀ (v5 : Int) (M : Mem), k v5 M = some r → Rn Y_M_behind d mc ms 0 0 (some (1, r.1), r.2) 67 [(5, (1, v5))] [] M) : ∀ (n : Nat) (v5 : Int) (v7 : Int) (M : Mem), L_M_behind_6 k v0 v1 v2 v3 v4 n v5 v7 M = some r → Rn Y_M_behind d mc ms 0 0 (some (1, r.1), r.2) 6 [(0, (2, v0)), (1, (0, v1)), (2, (0, v2)), (3, (0, v3)), (4, (0, v4)), (5, (1, v5)), (7, (0, v7))] [] M := by
  intro n
  induction n with
  | zero => intro _ _ _ h; cases h
  | succ n ih =>
    intro v5 v7 M h
    rw [L_M_behind_6] at h
    refine r_iload (pc := 6) 6 (by decide +kernel) rfl ?_
    refine r_aload_n (pc := 8) 0 (n := 0) (by decide +kernel) rfl rfl ?_
    obtain ⟨g9, q9, h⟩ := bnd h
    refine r_get (pc := 9) (by decide +kernel) fl_M_41.r (by decide) rfl q9 ?_
    refine r_bipush (pc := 12) (z := 16) (by decide +kernel) ⟨by decide, by decide⟩ ?_
    obtain ⟨e14, q14, h⟩ := bnd h
    refine r_iald (pc := 14) (by decide +kernel) q14 ?_
    refine r_icmp_ge (pc := 15) (off := 52) (tgt := 67) (by decide +kernel) (by decide) (fun c15 => ?_) (fun c15 => ?_)
    · have h := ite_t c15 h
      refine r_lv [5] rfl ?_
      exact hk v5 M h
    · have h := ite_f c15 h
      refine r_lload (pc := 18) 5 (by decide +kernel) rfl ?_
      refine r_aload_n (pc := 20) 0 (n := 0) (by decide +kernel) rfl rfl ?_
      obtain ⟨g21, q21, h⟩ := bnd h
      refine r_get (pc := 21) (by decide +kernel) fl_M_102.r (by decide) rfl q21 ?_
      refine r_bipush (pc := 24) (z := 41) (by decide +kernel) ⟨by decide, by decide⟩ ?_
      refine r_iload (pc := 26) 6 (by decide +kernel) rfl ?_
      refine r_imul (pc := 28) (by decide +kernel) ?_
      refine r_iload (pc := 29) 4 (by decide +kernel) rfl ?_
      refine r_iadd (pc := 31) (by decide +kernel) ?_
      obtain ⟨e32, q32, h⟩ := bnd h
      refine r_lald (pc := 32) (by decide +kernel) q32 ?_
      refine r_aload_n (pc := 33) 0 (n := 0) (by decide +kernel) rfl rfl ?_
      obtain ⟨g34, q34, h⟩ := bnd h
      refine r_get (pc := 34) (by decide +kernel) fl_M_106.r (by decide) rfl q34 ?_
      refine r_bipush (pc := 37) (z := 6) (by decide +kernel) ⟨by decide, by decide⟩ ?_
      refine r_iload_n (pc := 39) 1 (n := 1) (by decide +kernel) rfl rfl ?_
      refine r_imul (pc := 40) (by decide +kernel) ?_
      refine r_aload_n (pc := 41) 0 (n := 0) (by decide +kernel) rfl rfl ?_
      refine r_bipush (pc := 42) (z := 16) (by decide +kernel) ⟨by decide, by decide⟩ ?_
      refine r_iload_n (pc := 44) 2 (n := 2) (by decide +kernel) rfl rfl ?_
      refine r_iload_n (pc := 45) 3 (n := 3) (by decide +kernel) rfl rfl ?_
      refine r_iload (pc := 46) 6 (by decide +kernel) rfl ?_
      obtain ⟨_, q48c, h⟩ := bnd h
      obtain ⟨x48, q48, h⟩ := bnd h
      refine r_callV (pc := 48) (i := 155) (d2 := d - 1) (As := [(0, 16), (0, v2), (0, v3), (0, v7)]) (st := [(0, wr (6 * v1)), (2, g34), (1, e32), (1, v5)]) (st1 := [(0, v7), (0, v3), (0, v2), (0, 16), (2, v0), (0, wr (6 * v1)), (2, g34), (1, e32), (1, v5)]) (by decide +kernel) yk_M_step (by decide) rfl ⟨ml_M_155, vk_M_step⟩ np_M_step rfl (by omega) q48c (c_M_step (d := d - 1) (by omega) q48) (Nat.le_of_ble_eq_true rfl) (Nat.le_of_ble_eq_true rfl) (Nat.le_of_ble_eq_true rfl) rfl ?_
      show Rn _ d _ _ 0 0 _ 51 [(0, (2, v0)), (1, (0, v1)), (2, (0, v2)), (3, (0, v3)), (4, (0, v4)), (5, (1, v5)), (7, (0, v7))] [(0, x48.1), (0, wr (6 * v1)), (2, g34), (1, e32), (1, v5)] x48.2
      refine r_iadd (pc := 51) (by decide +kernel) ?_
      obtain ⟨e52, q52, h⟩ := bnd h
      refine r_lald (pc := 52) (by decide +kernel) q52 ?_
      obtain ⟨x53, q53, h⟩ := bnd h
      refine r_callS (pc := 53) (i := 297) (d2 := d - 1) (As := [(1, e32), (1, e52)]) (st := [(1, v5)]) (st1 := [(1, e52), (1, e32), (1, v5)]) (by decide +kernel) yk_M_times ⟨ml_M_297, sk_M_times⟩ np_M_times rfl (by omega) (c_M_times (d := d - 1) (by omega) q53) (Nat.le_of_ble_eq_true rfl) (Nat.le_of_ble_eq_true rfl) (Nat.le_of_ble_eq_true rfl) rfl ?_
      show Rn _ d _ _ 0 0 _ 56 [(0, (2, v0)), (1, (0, v1)), (2, (0, v2)), (3, (0, v3)), (4, (0, v4)), (5, (1, v5)), (7, (0, v7))] [(1, x53.1), (1, v5)] x53.2
      obtain ⟨x56, q56, h⟩ := bnd h
      refine r_callS (pc := 56) (i := 293) (d2 := d - 1) (As := [(1, v5), (1, x53.1)]) (st := []) (st1 := [(1, x53.1), (1, v5)]) (by decide +kernel) yk_M_plus ⟨ml_M_293, sk_M_plus⟩ np_M_plus rfl (by omega) (c_M_plus (d := d - 1) (by omega) q56) (Nat.le_of_ble_eq_true rfl) (Nat.le_of_ble_eq_true rfl) (Nat.le_of_ble_eq_true rfl) rfl ?_
      show Rn _ d _ _ 0 0 _ 59 [(0, (2, v0)), (1, (0, v1)), (2, (0, v2)), (3, (0, v3)), (4, (0, v4)), (5, (1, v5)), (7, (0, v7))] [(1, x56.1)] x56.2
      refine r_lstore (pc := 59) (lv' := [(5, (1, x56.1)), (0, (2, v0)), (1, (0, v1)), (2, (0, v2)), (3, (0, v3)), (4, (0, v4)), (7, (0, v7))]) (by decide +kernel) (Nat.le_of_ble_eq_true rfl) rfl ?_
      refine r_iinc (pc := 61) 6 (n := 1) (lv' := [(7, (0, wr (v7 + 1))), (5, (1, x56.1)), (0, (2, v0)), (1, (0, v1)), (2, (0, v2)), (3, (0, v3)), (4, (0, v4))]) (by decide +kernel) rfl (Nat.le_of_ble_eq_true rfl) rfl ?_
      refine r_goto (pc := 64) (off := (-58)) (tgt := 6) (by decide +kernel) (by decide) ?_
      refine r_lv [2, 3, 4, 5, 6, 1, 0] rfl ?_
      exact ih x56.1 (wr (v7 + 1)) x56.2 h
theorem c_M_behind {d : Nat} (hd : 2 ≤ d) {a0 a1 a2 a3 a4 : Int} {M : Mem} {x : Int × Mem} (h : D_M_behind a0 a1 a2 a3 a4 M = some x) : Ct d Y_M_behind [(2, a0), (0, a1), (0, a2), (0, a3), (0, a4)] M (some (1, x.1), x.2) 0 0 := by
  refine ct_of yk_M_behind (Nat.le_of_ble_eq_true rfl) ?_
  rw [D_M_behind] at h
  show Rn Y_M_behind d 0 0 0 0 (some (1, x.1), x.2) 0 [(0, (2, a0)), (1, (0, a1)), (2, (0, a2)), (3, (0, a3)), (4, (0, a4))] [] M
  refine r_lconst (pc := 0) (n := 0) (z := 0) (by decide +kernel) rfl ?_
  refine r_lstore (pc := 1) (lv' := [(5, (1, 0)), (0, (2, a0)), (1, (0, a1)), (2, (0, a2)), (3, (0, a3)), (4, (0, a4))]) (by decide +kernel) (Nat.le_of_ble_eq_true rfl) rfl ?_
  refine r_iconst (pc := 3) (z := 0) (by decide +kernel) ⟨by decide, by decide⟩ ?_
  refine r_istore (pc := 4) (lv' := [(7, (0, 0)), (5, (1, 0)), (0, (2, a0)), (1, (0, a1)), (2, (0, a2)), (3, (0, a3)), (4, (0, a4))]) (by decide +kernel) (Nat.le_of_ble_eq_true rfl) rfl ?_
  refine r_lv [2, 3, 4, 5, 6, 1, 0] rfl ?_
  refine sL_M_behind_6 (by omega) ?_ _ _ _  _ h
  intro w5_6 m6 h
  refine r_lload (pc := 67) 0 (by decide +kernel) rfl ?_
  obtain rfl := Option.some.inj h
  exact r_ret (pc := 69) (r := some (1, w5_6)) (by decide +kernel) rfl trivial (Nat.le_of_ble_eq_true rfl) (Nat.le_of_ble_eq_true rfl)

/-! TreeTonguesModel.weigh(IIII)J -/
noncomputable def L_M_weigh_44 (k : Int → Mem → Option (Int × Mem)) (v0 : Int) (v1 : Int) (v2 : Int) (v3 : Int) (v4 : Int) : Nat → Int → Int → Mem → Option (Int × Mem)
  | 0 => fun _ _ _ => none
  | n + 1 => fun v5 v7 M => (gf M v0 9 54 13).bind fun g47 => (rd M 10 g47 16).bind fun e52 => (if e52 ≤ v7 then (some 0) else (if v3 ≤ 1 then (some 0) else (some 1))).bind fun (t53 : Int) => if t53 = 0 then (k v5 M) else ((gf M v0 9 54 1).bind fun g62 => (rd M 10 g62 v2).bind fun e66 => (if e66 = 1 then ((gf M v0 9 54 45).bind fun g74 => (rd M 11 g74 (wr ((wr ((wr (41 * v7)) + v3)) - 1))).bind fun e86 => (gf M v0 9 54 46).bind fun g88 => (ck M v0 9 54).bind fun _ => (D_M_step v0 16 v2 v7 0 M).bind fun x102 => (rd x102.2 11 g88 (wr ((wr (6 * v1)) + x102.1))).bind fun e106 => (D_M_times e86 e106 x102.2).bind fun x107 => (D_M_plus v5 x107.1 x107.2).bind fun x110 => some (x110.1, x110.2)) else ((gf M v0 9 54 45).bind fun g121 => (rd M 11 g121 (wr ((wr (41 * v7)) + v4))).bind fun e132 => (ck M v0 9 54).bind fun _ => (D_M_behind v0 v1 v2 v7 (wr ((wr (v3 - 1)) - v4)) M).bind fun x144 => (D_M_times e132 x144.1 x144.2).bind fun x147 => (D_M_plus v5 x147.1 x147.2).bind fun x150 => some (x150.1, x150.2))).bind fun (t68 : Int × Mem) => L_M_weigh_44 k v0 v1 v2 v3 v4 n t68.1 (wr (v7 + 1)) t68.2)
noncomputable def D_M_weigh (a0 a1 a2 a3 a4 : Int) (M : Mem) : Option (Int × Mem) := (gf M a0 9 54 1).bind fun g1 => (rd M 10 g1 a2).bind fun e5 => if e5 = 0 then (if a3 = 1 then ((gf M a0 9 54 46).bind fun g15 => (ck M a0 9 54).bind fun _ => (D_M_step a0 16 a2 0 0 M).bind fun x28 => (rd x28.2 11 g15 (wr ((wr (6 * a1)) + x28.1))).bind fun e32 => some (e32, x28.2)) else (some (0, M))) else (L_M_weigh_44 (fun w5_44 m44 => some (w5_44, m44)) a0 a1 a2 a3 a4 FU 0 0 M)
theorem sL_M_weigh_44 {d mc ms : Nat} (hd : 3 ≤ d) {r : Int × Mem} {k : Int → Mem → Option (Int × Mem)} {v0 : Int} {v1 : Int} {v2 : Int} {v3 : Int} {v4 : Int} (hk : ∀ (v5 : Int) (M : Mem), k v5 M = some r → Rn Y_M_weigh d mc ms 0 0 (some (1, r.1), r.2) 161 [(5, (1, v5))] [] M) : ∀ (n : Nat) (v5 : Int) (v7 : Int) (M : Mem), L_M_weigh_44 k v0 v1 v2 v3 v4 n v5 v7 M = some r → Rn Y_M_weigh d mc ms 0 0 (some (1, r.1), r.2) 44 [(0, (2, v0)), (1, (0, v1)), (2, (0, v2)), (3, (0, v3)), (4, (0, v4)), (5, (1, v5)), (7, (0, v7))] [] M := by
  intro n
  induction n with
  | zero => intro _ _ _ h; cases h
  | succ n ih =>
    intro v5 v7 M h
    rw [L_M_weigh_44] at h
    refine r_iload (pc := 44) 6 (by decide +kernel) rfl ?_
    refine r_aload_n (pc := 46) 0 (n := 0) (by decide +kernel) rfl rfl ?_
    obtain ⟨g47, q47, h⟩ := bnd h
    refine r_get (pc := 47) (by decide +kernel) fl_M_41.r (by decide) rfl q47 ?_
    refine r_bipush (pc := 50) (z := 16) (by decide +kernel) ⟨by decide, by decide⟩ ?_
    obtain ⟨e52, q52, h⟩ := bnd h
    refine r_iald (pc := 52) (by decide +kernel) q52 ?_
    obtain ⟨t53, ht53, h⟩ := bnd h
    have E53_0 : t53 = 0 → Rn Y_M_weigh d mc ms 0 0 (some (1, r.1), r.2) 161 [(5, (1, v5))] [] M := by
      intro y0
      have h := ite_t y0 h
      exact hk v5 M h
    have E53_1 : ¬ t53 = 0 → Rn Y_M_weigh d mc ms 0 0 (some (1, r.1), r.2) 61 [(0, (2, v0)), (1, (0, v1)), (2, (0, v2)), (3, (0, v3)), (4, (0, v4)), (5, (1, v5)), (7, (0, v7))] [] M := by
      intro n0
      have h := ite_f n0 h
      refine r_aload_n (pc := 61) 0 (n := 0) (by decide +kernel) rfl rfl ?_
      obtain ⟨g62, q62, h⟩ := bnd h
      refine r_get (pc := 62) (by decide +kernel) fl_M_7.r (by decide) rfl q62 ?_
      refine r_iload_n (pc := 65) 2 (n := 2) (by decide +kernel) rfl rfl ?_
      obtain ⟨e66, q66, h⟩ := bnd h
      refine r_iald (pc := 66) (by decide +kernel) q66 ?_
      refine r_iconst (pc := 67) (z := 1) (by decide +kernel) ⟨by decide, by decide⟩ ?_
      obtain ⟨t68, ht68, h⟩ := bnd h
      have E68_0 : Rn Y_M_weigh d mc ms 0 0 (some (1, r.1), r.2) 155 [(0, (2, v0)), (1, (0, v1)), (2, (0, v2)), (3, (0, v3)), (4, (0, v4)), (5, (1, t68.1)), (7, (0, v7))] [] t68.2 := by
        refine r_iinc (pc := 155) 6 (n := 1) (lv' := [(7, (0, wr (v7 + 1))), (0, (2, v0)), (1, (0, v1)), (2, (0, v2)), (3, (0, v3)), (4, (0, v4)), (5, (1, t68.1))]) (by decide +kernel) rfl (Nat.le_of_ble_eq_true rfl) rfl ?_
        refine r_goto (pc := 158) (off := (-114)) (tgt := 44) (by decide +kernel) (by decide) ?_
        refine r_lv [1, 2, 3, 4, 5, 6, 0] rfl ?_
        exact ih t68.1 (wr (v7 + 1)) t68.2 h
      refine r_icmp_ne (pc := 68) (off := 50) (tgt := 118) (by decide +kernel) (by decide) (fun c68 => ?_) (fun c68 => ?_)
      · have ht68 := ite_f c68 ht68
        refine r_lload (pc := 118) 5 (by decide +kernel) rfl ?_
        refine r_aload_n (pc := 120) 0 (n := 0) (by decide +kernel) rfl rfl ?_
        obtain ⟨g121, q121, ht68⟩ := bnd ht68
        refine r_get (pc := 121) (by decide +kernel) fl_M_102.r (by decide) rfl q121 ?_
        refine r_bipush (pc := 124) (z := 41) (by decide +kernel) ⟨by decide, by decide⟩ ?_
        refine r_iload (pc := 126) 6 (by decide +kernel) rfl ?_
        refine r_imul (pc := 128) (by decide +kernel) ?_
        refine r_iload (pc := 129) 4 (by decide +kernel) rfl ?_
        refine r_iadd (pc := 131) (by decide +kernel) ?_
        obtain ⟨e132, q132, ht68⟩ := bnd ht68
        refine r_lald (pc := 132) (by decide +kernel) q132 ?_
        refine r_aload_n (pc := 133) 0 (n := 0) (by decide +kernel) rfl rfl ?_
        refine r_iload_n (pc := 134) 1 (n := 1) (by decide +kernel) rfl rfl ?_
        refine r_iload_n (pc := 135) 2 (n := 2) (by decide +kernel) rfl rfl ?_
        refine r_iload (pc := 136) 6 (by decide +kernel) rfl ?_
        refine r_iload_n (pc := 138) 3 (n := 3) (by decide +kernel) rfl rfl ?_
        refine r_iconst (pc := 139) (z := 1) (by decide +kernel) ⟨by decide, by decide⟩ ?_
        refine r_isub (pc := 140) (by decide +kernel) ?_
        refine r_iload (pc := 141) 4 (by decide +kernel) rfl ?_
        refine r_isub (pc := 143) (by decide +kernel) ?_
        obtain ⟨_, q144c, ht68⟩ := bnd ht68
        obtain ⟨x144, q144, ht68⟩ := bnd ht68
        refine r_callV (pc := 144) (i := 311) (d2 := d - 1) (As := [(0, v1), (0, v2), (0, v7), (0, wr ((wr (v3 - 1)) - v4))]) (st := [(1, e132), (1, v5)]) (st1 := [(0, wr ((wr (v3 - 1)) - v4)), (0, v7), (0, v2), (0, v1), (2, v0), (1, e132), (1, v5)]) (by decide +kernel) yk_M_behind (by decide) rfl ⟨ml_M_311, vk_M_behind⟩ np_M_behind rfl (by omega) q144c (c_M_behind (d := d - 1) (by omega) q144) (Nat.le_of_ble_eq_true rfl) (Nat.le_of_ble_eq_true rfl) (Nat.le_of_ble_eq_true rfl) rfl ?_
        show Rn _ d _ _ 0 0 _ 147 [(0, (2, v0)), (1, (0, v1)), (2, (0, v2)), (3, (0, v3)), (4, (0, v4)), (5, (1, v5)), (7, (0, v7))] [(1, x144.1), (1, e132), (1, v5)] x144.2
        obtain ⟨x147, q147, ht68⟩ := bnd ht68
        refine r_callS (pc := 147) (i := 297) (d2 := d - 1) (As := [(1, e132), (1, x144.1)]) (st := [(1, v5)]) (st1 := [(1, x144.1), (1, e132), (1, v5)]) (by decide +kernel) yk_M_times ⟨ml_M_297, sk_M_times⟩ np_M_times rfl (by omega) (c_M_times (d := d - 1) (by omega) q147) (Nat.le_of_ble_eq_true rfl) (Nat.le_of_ble_eq_true rfl) (Nat.le_of_ble_eq_true rfl) rfl ?_
        show Rn _ d _ _ 0 0 _ 150 [(0, (2, v0)), (1, (0, v1)), (2, (0, v2)), (3, (0, v3)), (4, (0, v4)), (5, (1, v5)), (7, (0, v7))] [(1, x147.1), (1, v5)] x147.2
        obtain ⟨x150, q150, ht68⟩ := bnd ht68
        refine r_callS (pc := 150) (i := 293) (d2 := d - 1) (As := [(1, v5), (1, x147.1)]) (st := []) (st1 := [(1, x147.1), (1, v5)]) (by decide +kernel) yk_M_plus ⟨ml_M_293, sk_M_plus⟩ np_M_plus rfl (by omega) (c_M_plus (d := d - 1) (by omega) q150) (Nat.le_of_ble_eq_true rfl) (Nat.le_of_ble_eq_true rfl) (Nat.le_of_ble_eq_true rfl) rfl ?_
        show Rn _ d _ _ 0 0 _ 153 [(0, (2, v0)), (1, (0, v1)), (2, (0, v2)), (3, (0, v3)), (4, (0, v4)), (5, (1, v5)), (7, (0, v7))] [(1, x150.1)] x150.2
        refine r_lstore (pc := 153) (lv' := [(5, (1, x150.1)), (0, (2, v0)), (1, (0, v1)), (2, (0, v2)), (3, (0, v3)), (4, (0, v4)), (7, (0, v7))]) (by decide +kernel) (Nat.le_of_ble_eq_true rfl) rfl ?_
        obtain rfl := Option.some.inj ht68
        refine r_lv [1, 2, 3, 4, 5, 0, 6] rfl ?_
        exact E68_0
      · have ht68 := ite_t c68 ht68
        refine r_lload (pc := 71) 5 (by decide +kernel) rfl ?_
        refine r_aload_n (pc := 73) 0 (n := 0) (by decide +kernel) rfl rfl ?_
        obtain ⟨g74, q74, ht68⟩ := bnd ht68
        refine r_get (pc := 74) (by decide +kernel) fl_M_102.r (by decide) rfl q74 ?_
        refine r_bipush (pc := 77) (z := 41) (by decide +kernel) ⟨by decide, by decide⟩ ?_
        refine r_iload (pc := 79) 6 (by decide +kernel) rfl ?_
        refine r_imul (pc := 81) (by decide +kernel) ?_
        refine r_iload_n (pc := 82) 3 (n := 3) (by decide +kernel) rfl rfl ?_
        refine r_iadd (pc := 83) (by decide +kernel) ?_
        refine r_iconst (pc := 84) (z := 1) (by decide +kernel) ⟨by decide, by decide⟩ ?_
        refine r_isub (pc := 85) (by decide +kernel) ?_
        obtain ⟨e86, q86, ht68⟩ := bnd ht68
        refine r_lald (pc := 86) (by decide +kernel) q86 ?_
        refine r_aload_n (pc := 87) 0 (n := 0) (by decide +kernel) rfl rfl ?_
        obtain ⟨g88, q88, ht68⟩ := bnd ht68
        refine r_get (pc := 88) (by decide +kernel) fl_M_106.r (by decide) rfl q88 ?_
        refine r_bipush (pc := 91) (z := 6) (by decide +kernel) ⟨by decide, by decide⟩ ?_
        refine r_iload_n (pc := 93) 1 (n := 1) (by decide +kernel) rfl rfl ?_
        refine r_imul (pc := 94) (by decide +kernel) ?_
        refine r_aload_n (pc := 95) 0 (n := 0) (by decide +kernel) rfl rfl ?_
        refine r_bipush (pc := 96) (z := 16) (by decide +kernel) ⟨by decide, by decide⟩ ?_
        refine r_iload_n (pc := 98) 2 (n := 2) (by decide +kernel) rfl rfl ?_
        refine r_iload (pc := 99) 6 (by decide +kernel) rfl ?_
        refine r_iconst (pc := 101) (z := 0) (by decide +kernel) ⟨by decide, by decide⟩ ?_
        obtain ⟨_, q102c, ht68⟩ := bnd ht68
        obtain ⟨x102, q102, ht68⟩ := bnd ht68
        refine r_callV (pc := 102) (i := 155) (d2 := d - 1) (As := [(0, 16), (0, v2), (0, v7), (0, 0)]) (st := [(0, wr (6 * v1)), (2, g88), (1, e86), (1, v5)]) (st1 := [(0, 0), (0, v7), (0, v2), (0, 16), (2, v0), (0, wr (6 * v1)), (2, g88), (1, e86), (1, v5)]) (by decide +kernel) yk_M_step (by decide) rfl ⟨ml_M_155, vk_M_step⟩ np_M_step rfl (by omega) q102c (c_M_step (d := d - 1) (by omega) q102) (Nat.le_of_ble_eq_true rfl) (Nat.le_of_ble_eq_true rfl) (Nat.le_of_ble_eq_true rfl) rfl ?_
        show Rn _ d _ _ 0 0 _ 105 [(0, (2, v0)), (1, (0, v1)), (2, (0, v2)), (3, (0, v3)), (4, (0, v4)), (5, (1, v5)), (7, (0, v7))] [(0, x102.1), (0, wr (6 * v1)), (2, g88), (1, e86), (1, v5)] x102.2
        refine r_iadd (pc := 105) (by decide +kernel) ?_
        obtain ⟨e106, q106, ht68⟩ := bnd ht68
        refine r_lald (pc := 106) (by decide +kernel) q106 ?_
        obtain ⟨x107, q107, ht68⟩ := bnd ht68
        refine r_callS (pc := 107) (i := 297) (d2 := d - 1) (As := [(1, e86), (1, e106)]) (st := [(1, v5)]) (st1 := [(1, e106), (1, e86), (1, v5)]) (by decide +kernel) yk_M_times ⟨ml_M_297, sk_M_times⟩ np_M_times rfl (by omega) (c_M_times (d := d - 1) (by omega) q107) (Nat.le_of_ble_eq_true rfl) (Nat.le_of_ble_eq_true rfl) (Nat.le_of_ble_eq_true rfl) rfl ?_
        show Rn _ d _ _ 0 0 _ 110 [(0, (2, v0)), (1, (0, v1)), (2, (0, v2)), (3, (0, v3)), (4, (0, v4)), (5, (1, v5)), (7, (0, v7))] [(1, x107.1), (1, v5)] x107.2
        obtain ⟨x110, q110, ht68⟩ := bnd ht68
        refine r_callS (pc := 110) (i := 293) (d2 := d - 1) (As := [(1, v5), (1, x107.1)]) (st := []) (st1 := [(1, x107.1), (1, v5)]) (by decide +kernel) yk_M_plus ⟨ml_M_293, sk_M_plus⟩ np_M_plus rfl (by omega) (c_M_plus (d := d - 1) (by omega) q110) (Nat.le_of_ble_eq_true rfl) (Nat.le_of_ble_eq_true rfl) (Nat.le_of_ble_eq_true rfl) rfl ?_
        show Rn _ d _ _ 0 0 _ 113 [(0, (2, v0)), (1, (0, v1)), (2, (0, v2)), (3, (0, v3)), (4, (0, v4)), (5, (1, v5)), (7, (0, v7))] [(1, x110.1)] x110.2
        refine r_lstore (pc := 113) (lv' := [(5, (1, x110.1)), (0, (2, v0)), (1, (0, v1)), (2, (0, v2)), (3, (0, v3)), (4, (0, v4)), (7, (0, v7))]) (by decide +kernel) (Nat.le_of_ble_eq_true rfl) rfl ?_
        refine r_goto (pc := 115) (off := 40) (tgt := 155) (by decide +kernel) (by decide) ?_
        obtain rfl := Option.some.inj ht68
        refine r_lv [1, 2, 3, 4, 5, 0, 6] rfl ?_
        exact E68_0
    refine r_icmp_ge (pc := 53) (off := 108) (tgt := 161) (by decide +kernel) (by decide) (fun c53 => ?_) (fun c53 => ?_)
    · have ht53 := ite_t c53 ht53
      obtain rfl := Option.some.inj ht53
      refine r_lv [5] rfl ?_
      exact E53_0 rfl
    · have ht53 := ite_f c53 ht53
      refine r_iload_n (pc := 56) 3 (n := 3) (by decide +kernel) rfl rfl ?_
      refine r_iconst (pc := 57) (z := 1) (by decide +kernel) ⟨by decide, by decide⟩ ?_
      refine r_icmp_le (pc := 58) (off := 103) (tgt := 161) (by decide +kernel) (by decide) (fun c58 => ?_) (fun c58 => ?_)
      · have ht53 := ite_t c58 ht53
        obtain rfl := Option.some.inj ht53
        refine r_lv [5] rfl ?_
        exact E53_0 rfl
      · have ht53 := ite_f c58 ht53
        obtain rfl := Option.some.inj ht53
        exact E53_1 (show ¬ (1 : Int) = 0 by decide)
theorem c_M_weigh {d : Nat} (hd : 3 ≤ d) {a0 a1 a2 a3 a4 : Int} {M : Mem} {x : Int × Mem} (h : D_M_weigh a0 a1 a2 a3 a4 M = some x) : Ct d Y_M_weigh [(2, a0), (0, a1), (0, a2), (0, a3), (0, a4)] M (some (1, x.1), x.2) 0 0 := by
  refine ct_of yk_M_weigh (Nat.le_of_ble_eq_true rfl) ?_
  rw [D_M_weigh] at h
  show Rn Y_M_weigh d 0 0 0 0 (some (1, x.1), x.2) 0 [(0, (2, a0)), (1, (0, a1)), (2, (0, a2)), (3, (0, a3)), (4, (0, a4))] [] M
  refine r_aload_n (pc := 0) 0 (n := 0) (by decide +kernel) rfl rfl ?_
  obtain ⟨g1, q1, h⟩ := bnd h
  refine r_get (pc := 1) (by decide +kernel) fl_M_7.r (by decide) rfl q1 ?_
  refine r_iload_n (pc := 4) 2 (n := 2) (by decide +kernel) rfl rfl ?_
  obtain ⟨e5, q5, h⟩ := bnd h
  refine r_iald (pc := 5) (by decide +kernel) q5 ?_
  refine r_if_ne (pc := 6) (off := 32) (tgt := 38) (by decide +kernel) (by decide) (fun c6 => ?_) (fun c6 => ?_)
  · have h := ite_f c6 h
    refine r_lconst (pc := 38) (n := 0) (z := 0) (by decide +kernel) rfl ?_
    refine r_lstore (pc := 39) (lv' := [(5, (1, 0)), (0, (2, a0)), (1, (0, a1)), (2, (0, a2)), (3, (0, a3)), (4, (0, a4))]) (by decide +kernel) (Nat.le_of_ble_eq_true rfl) rfl ?_
    refine r_iconst (pc := 41) (z := 0) (by decide +kernel) ⟨by decide, by decide⟩ ?_
    refine r_istore (pc := 42) (lv' := [(7, (0, 0)), (5, (1, 0)), (0, (2, a0)), (1, (0, a1)), (2, (0, a2)), (3, (0, a3)), (4, (0, a4))]) (by decide +kernel) (Nat.le_of_ble_eq_true rfl) rfl ?_
    refine r_lv [2, 3, 4, 5, 6, 1, 0] rfl ?_
    refine sL_M_weigh_44 (by omega) ?_ _ _ _  _ h
    intro w5_44 m44 h
    refine r_lload (pc := 161) 0 (by decide +kernel) rfl ?_
    obtain rfl := Option.some.inj h
    exact r_ret (pc := 163) (r := some (1, w5_44)) (by decide +kernel) rfl trivial (Nat.le_of_ble_eq_true rfl) (Nat.le_of_ble_eq_true rfl)
  · have h := ite_t c6 h
    refine r_iload_n (pc := 9) 3 (n := 3) (by decide +kernel) rfl rfl ?_
    refine r_iconst (pc := 10) (z := 1) (by decide +kernel) ⟨by decide, by decide⟩ ?_
    refine r_icmp_ne (pc := 11) (off := 25) (tgt := 36) (by decide +kernel) (by decide) (fun c11 => ?_) (fun c11 => ?_)
    · have h := ite_f c11 h
      refine r_lconst (pc := 36) (n := 0) (z := 0) (by decide +kernel) rfl ?_
      obtain rfl := Option.some.inj h
      exact r_ret (pc := 37) (r := some (1, 0)) (by decide +kernel) rfl trivial (Nat.le_of_ble_eq_true rfl) (Nat.le_of_ble_eq_true rfl)
    · have h := ite_t c11 h
      refine r_aload_n (pc := 14) 0 (n := 0) (by decide +kernel) rfl rfl ?_
      obtain ⟨g15, q15, h⟩ := bnd h
      refine r_get (pc := 15) (by decide +kernel) fl_M_106.r (by decide) rfl q15 ?_
      refine r_bipush (pc := 18) (z := 6) (by decide +kernel) ⟨by decide, by decide⟩ ?_
      refine r_iload_n (pc := 20) 1 (n := 1) (by decide +kernel) rfl rfl ?_
      refine r_imul (pc := 21) (by decide +kernel) ?_
      refine r_aload_n (pc := 22) 0 (n := 0) (by decide +kernel) rfl rfl ?_
      refine r_bipush (pc := 23) (z := 16) (by decide +kernel) ⟨by decide, by decide⟩ ?_
      refine r_iload_n (pc := 25) 2 (n := 2) (by decide +kernel) rfl rfl ?_
      refine r_iconst (pc := 26) (z := 0) (by decide +kernel) ⟨by decide, by decide⟩ ?_
      refine r_iconst (pc := 27) (z := 0) (by decide +kernel) ⟨by decide, by decide⟩ ?_
      obtain ⟨_, q28c, h⟩ := bnd h
      obtain ⟨x28, q28, h⟩ := bnd h
      refine r_callV (pc := 28) (i := 155) (d2 := d - 1) (As := [(0, 16), (0, a2), (0, 0), (0, 0)]) (st := [(0, wr (6 * a1)), (2, g15)]) (st1 := [(0, 0), (0, 0), (0, a2), (0, 16), (2, a0), (0, wr (6 * a1)), (2, g15)]) (by decide +kernel) yk_M_step (by decide) rfl ⟨ml_M_155, vk_M_step⟩ np_M_step rfl (by omega) q28c (c_M_step (d := d - 1) (by omega) q28) (Nat.le_of_ble_eq_true rfl) (Nat.le_of_ble_eq_true rfl) (Nat.le_of_ble_eq_true rfl) rfl ?_
      show Rn _ d _ _ 0 0 _ 31 [(0, (2, a0)), (1, (0, a1)), (2, (0, a2)), (3, (0, a3)), (4, (0, a4))] [(0, x28.1), (0, wr (6 * a1)), (2, g15)] x28.2
      refine r_iadd (pc := 31) (by decide +kernel) ?_
      obtain ⟨e32, q32, h⟩ := bnd h
      refine r_lald (pc := 32) (by decide +kernel) q32 ?_
      refine r_goto (pc := 33) (off := 4) (tgt := 37) (by decide +kernel) (by decide) ?_
      obtain rfl := Option.some.inj h
      exact r_ret (pc := 37) (r := some (1, e32)) (by decide +kernel) rfl trivial (Nat.le_of_ble_eq_true rfl) (Nat.le_of_ble_eq_true rfl)

/-! TreeTonguesModel.choose(I)V -/
noncomputable def L_M_choose_57 (k : Mem → Option (Mem)) (v0 : Int) (v1 : Int) (v2 : Int) (v3 : Int) (v5 : Int) : Nat → Int → Mem → Option (Mem)
  | 0 => fun _ _ => none
  | n + 1 => fun v6 M => if v5 < v6 then (k  M) else ((ck M v0 9 54).bind fun _ => (D_M_weigh v0 v1 v3 v2 v6 M).bind fun x70 => (gf x70.2 v0 9 54 52).bind fun g76 => if 0 ≤ (lc g76 x70.1) then ((gf x70.2 v0 9 54 52).bind fun g121 => (pf x70.2 v0 9 54 52 (wl (g121 - x70.1))).bind fun m127 => L_M_choose_57 k v0 v1 v2 v3 v5 n (wr (v6 + 1)) m127) else ((gf x70.2 v0 9 54 48).bind fun g86 => (wt x70.2 10 g86 v1 v3).bind fun m91 => (gf m91 v0 9 54 49).bind fun g93 => (gf m91 v0 9 54 1).bind fun g98 => (rd m91 10 g98 v3).bind fun e102 => (if e102 = 2 then (some (wr ((wr (v2 - 1)) - v6))) else (some 0)).bind fun (t104 : Int) => (wt m91 10 g93 v1 t104).bind fun m117 => some m117))
noncomputable def L_M_choose_9 (k : Mem → Option (Mem)) (v0 : Int) (v1 : Int) (v2 : Int) : Nat → Int → Mem → Option (Mem)
  | 0 => fun _ _ => none
  | n + 1 => fun v3 M => (gf M v0 9 54 0).bind fun g11 => if g11 ≤ v3 then (k  M) else ((gf M v0 9 54 1).bind fun g18 => (rd M 10 g18 v3).bind fun e22 => (if e22 = 2 then (some 1) else (some 0)).bind fun (t24 : Int) => (gf M v0 9 54 1).bind fun g35 => (rd M 10 g35 v3).bind fun e39 => (if e39 = 2 then (some (wr (v2 - 2))) else (some 0)).bind fun (t41 : Int) => L_M_choose_57 (fun  m57 => L_M_choose_9 k v0 v1 v2 n (wr (v3 + 1)) m57) v0 v1 v2 v3 t41 FU t24 M)
noncomputable def D_M_choose (a0 a1 : Int) (M : Mem) : Option (Mem) := (gf M a0 9 54 47).bind fun g1 => (rd M 10 g1 a1).bind fun e5 => L_M_choose_9 (fun  m9 => some m9) a0 a1 e5 FU 0 M
theorem sL_M_choose_57 {d mc ms : Nat} (hd : 4 ≤ d) {r : Mem} {k : Mem → Option (Mem)} {v0 : Int} {v1 : Int} {v2 : Int} {v3 : Int} {v5 : Int} (hk : ∀ (M : Mem), k M = some r → Rn Y_M_choose d mc ms 0 0 (none, r) 136 [(0, (2, v0)), (1, (0, v1)), (2, (0, v2)), (3, (0, v3))] [] M) : ∀ (n : Nat) (v6 : Int) (M : Mem), L_M_choose_57 k v0 v1 v2 v3 v5 n v6 M = some r → Rn Y_M_choose d mc ms 0 0 (none, r) 57 [(0, (2, v0)), (1, (0, v1)), (2, (0, v2)), (3, (0, v3)), (5, (0, v5)), (6, (0, v6))] [] M := by
  intro n
  induction n with
  | zero => intro _ _ h; cases h
  | succ n ih =>
    intro v6 M h
    rw [L_M_choose_57] at h
    refine r_iload (pc := 57) 5 (by decide +kernel) rfl ?_
    refine r_iload (pc := 59) 4 (by decide +kernel) rfl ?_
    refine r_icmp_gt (pc := 61) (off := 75) (tgt := 136) (by decide +kernel) (by decide) (fun c61 => ?_) (fun c61 => ?_)
    · have h := ite_t c61 h
      refine r_lv [0, 1, 2, 3] rfl ?_
      exact hk  M h
    · have h := ite_f c61 h
      refine r_aload_n (pc := 64) 0 (n := 0) (by decide +kernel) rfl rfl ?_
      refine r_iload_n (pc := 65) 1 (n := 1) (by decide +kernel) rfl rfl ?_
      refine r_iload_n (pc := 66) 3 (n := 3) (by decide +kernel) rfl rfl ?_
      refine r_iload_n (pc := 67) 2 (n := 2) (by decide +kernel) rfl rfl ?_
      refine r_iload (pc := 68) 5 (by decide +kernel) rfl ?_
      obtain ⟨_, q70c, h⟩ := bnd h
      obtain ⟨x70, q70, h⟩ := bnd h
      refine r_callV (pc := 70) (i := 315) (d2 := d - 1) (As := [(0, v1), (0, v3), (0, v2), (0, v6)]) (st := []) (st1 := [(0, v6), (0, v2), (0, v3), (0, v1), (2, v0)]) (by decide +kernel) yk_M_weigh (by decide) rfl ⟨ml_M_315, vk_M_weigh⟩ np_M_weigh rfl (by omega) q70c (c_M_weigh (d := d - 1) (by omega) q70) (Nat.le_of_ble_eq_true rfl) (Nat.le_of_ble_eq_true rfl) (Nat.le_of_ble_eq_true rfl) rfl ?_
      show Rn _ d _ _ 0 0 _ 73 [(0, (2, v0)), (1, (0, v1)), (2, (0, v2)), (3, (0, v3)), (5, (0, v5)), (6, (0, v6))] [(1, x70.1)] x70.2
      refine r_lstore (pc := 73) (lv' := [(7, (1, x70.1)), (0, (2, v0)), (1, (0, v1)), (2, (0, v2)), (3, (0, v3)), (5, (0, v5)), (6, (0, v6))]) (by decide +kernel) (Nat.le_of_ble_eq_true rfl) rfl ?_
      refine r_aload_n (pc := 75) 1 (n := 0) (by decide +kernel) rfl rfl ?_
      obtain ⟨g76, q76, h⟩ := bnd h
      refine r_get (pc := 76) (by decide +kernel) fl_M_318.r (by decide) rfl q76 ?_
      refine r_lload (pc := 79) 0 (by decide +kernel) rfl ?_
      refine r_lcmp (pc := 81) (by decide +kernel) ?_
      refine r_if_ge (pc := 82) (off := 37) (tgt := 119) (by decide +kernel) (by decide) (fun c82 => ?_) (fun c82 => ?_)
      · have h := ite_t c82 h
        refine r_aload_n (pc := 119) 1 (n := 0) (by decide +kernel) rfl rfl ?_
        refine r_dup (pc := 120) (by decide +kernel) rfl ?_
        obtain ⟨g121, q121, h⟩ := bnd h
        refine r_get (pc := 121) (by decide +kernel) fl_M_318.r (by decide) rfl q121 ?_
        refine r_lload (pc := 124) 0 (by decide +kernel) rfl ?_
        refine r_lsub (pc := 126) (by decide +kernel) ?_
        obtain ⟨m127, q127, h⟩ := bnd h
        refine r_put (pc := 127) (by decide +kernel) fl_M_318 (by decide) (Or.inr nf_9_52) rfl (fun h3 => by cases h3) q127 ?_
        refine r_iinc (pc := 130) 6 (n := 1) (lv' := [(6, (0, wr (v6 + 1))), (7, (1, x70.1)), (0, (2, v0)), (1, (0, v1)), (2, (0, v2)), (3, (0, v3)), (5, (0, v5))]) (by decide +kernel) rfl (Nat.le_of_ble_eq_true rfl) rfl ?_
        refine r_goto (pc := 133) (off := (-76)) (tgt := 57) (by decide +kernel) (by decide) ?_
        refine r_lv [2, 3, 4, 5, 6, 0] rfl ?_
        exact ih (wr (v6 + 1)) m127 h
      · have h := ite_f c82 h
        refine r_aload_n (pc := 85) 1 (n := 0) (by decide +kernel) rfl rfl ?_
        obtain ⟨g86, q86, h⟩ := bnd h
        refine r_get (pc := 86) (by decide +kernel) fl_M_112.r (by decide) rfl q86 ?_
        refine r_iload_n (pc := 89) 2 (n := 1) (by decide +kernel) rfl rfl ?_
        refine r_iload_n (pc := 90) 4 (n := 3) (by decide +kernel) rfl rfl ?_
        obtain ⟨m91, q91, h⟩ := bnd h
        refine r_iast (pc := 91) (by decide +kernel) q91 ?_
        refine r_aload_n (pc := 92) 1 (n := 0) (by decide +kernel) rfl rfl ?_
        obtain ⟨g93, q93, h⟩ := bnd h
        refine r_get (pc := 93) (by decide +kernel) fl_M_115.r (by decide) rfl q93 ?_
        refine r_iload_n (pc := 96) 2 (n := 1) (by decide +kernel) rfl rfl ?_
        refine r_aload_n (pc := 97) 1 (n := 0) (by decide +kernel) rfl rfl ?_
        obtain ⟨g98, q98, h⟩ := bnd h
        refine r_get (pc := 98) (by decide +kernel) fl_M_7.r (by decide) rfl q98 ?_
        refine r_iload_n (pc := 101) 4 (n := 3) (by decide +kernel) rfl rfl ?_
        obtain ⟨e102, q102, h⟩ := bnd h
        refine r_iald (pc := 102) (by decide +kernel) q102 ?_
        refine r_iconst (pc := 103) (z := 2) (by decide +kernel) ⟨by decide, by decide⟩ ?_
        obtain ⟨t104, ht104, h⟩ := bnd h
        have E104_0 : Rn Y_M_choose d mc ms 0 0 (none, r) 117 [] [(0, t104), (0, v1), (2, g93)] m91 := by
          obtain ⟨m117, q117, h⟩ := bnd h
          refine r_iast (pc := 117) (by decide +kernel) q117 ?_
          obtain rfl := Option.some.inj h
          exact r_ret (pc := 118) (r := none) (by decide +kernel) rfl trivial (Nat.le_of_ble_eq_true rfl) (Nat.le_of_ble_eq_true rfl)
        refine r_icmp_ne (pc := 104) (off := 12) (tgt := 116) (by decide +kernel) (by decide) (fun c104 => ?_) (fun c104 => ?_)
        · have ht104 := ite_f c104 ht104
          refine r_iconst (pc := 116) (z := 0) (by decide +kernel) ⟨by decide, by decide⟩ ?_
          obtain rfl := Option.some.inj ht104
          refine r_lv [] rfl ?_
          exact E104_0
        · have ht104 := ite_t c104 ht104
          refine r_iload_n (pc := 107) 3 (n := 2) (by decide +kernel) rfl rfl ?_
          refine r_iconst (pc := 108) (z := 1) (by decide +kernel) ⟨by decide, by decide⟩ ?_
          refine r_isub (pc := 109) (by decide +kernel) ?_
          refine r_iload (pc := 110) 6 (by decide +kernel) rfl ?_
          refine r_isub (pc := 112) (by decide +kernel) ?_
          refine r_goto (pc := 113) (off := 4) (tgt := 117) (by decide +kernel) (by decide) ?_
          obtain rfl := Option.some.inj ht104
          refine r_lv [] rfl ?_
          exact E104_0
theorem sL_M_choose_9 {d mc ms : Nat} (hd : 4 ≤ d) {r : Mem} {k : Mem → Option (Mem)} {v0 : Int} {v1 : Int} {v2 : Int} (hk : ∀ (M : Mem), k M = some r → Rn Y_M_choose d mc ms 0 0 (none, r) 142 [] [] M) : ∀ (n : Nat) (v3 : Int) (M : Mem), L_M_choose_9 k v0 v1 v2 n v3 M = some r → Rn Y_M_choose d mc ms 0 0 (none, r) 9 [(0, (2, v0)), (1, (0, v1)), (2, (0, v2)), (3, (0, v3))] [] M := by
  intro n
  induction n with
  | zero => intro _ _ h; cases h
  | succ n ih =>
    intro v3 M h
    rw [L_M_choose_9] at h
    refine r_iload_n (pc := 9) 3 (n := 3) (by decide +kernel) rfl rfl ?_
    refine r_aload_n (pc := 10) 0 (n := 0) (by decide +kernel) rfl rfl ?_
    obtain ⟨g11, q11, h⟩ := bnd h
    refine r_get (pc := 11) (by decide +kernel) fl_M_124.r (by decide) rfl q11 ?_
    refine r_icmp_ge (pc := 14) (off := 128) (tgt := 142) (by decide +kernel) (by decide) (fun c14 => ?_) (fun c14 => ?_)
    · have h := ite_t c14 h
      refine r_lv [] rfl ?_
      exact hk  M h
    · have h := ite_f c14 h
      refine r_aload_n (pc := 17) 0 (n := 0) (by decide +kernel) rfl rfl ?_
      obtain ⟨g18, q18, h⟩ := bnd h
      refine r_get (pc := 18) (by decide +kernel) fl_M_7.r (by decide) rfl q18 ?_
      refine r_iload_n (pc := 21) 3 (n := 3) (by decide +kernel) rfl rfl ?_
      obtain ⟨e22, q22, h⟩ := bnd h
      refine r_iald (pc := 22) (by decide +kernel) q22 ?_
      refine r_iconst (pc := 23) (z := 2) (by decide +kernel) ⟨by decide, by decide⟩ ?_
      obtain ⟨t24, ht24, h⟩ := bnd h
      have E24_0 : Rn Y_M_choose d mc ms 0 0 (none, r) 32 [(0, (2, v0)), (1, (0, v1)), (2, (0, v2)), (3, (0, v3))] [(0, t24)] M := by
        refine r_istore (pc := 32) (lv' := [(4, (0, t24)), (0, (2, v0)), (1, (0, v1)), (2, (0, v2)), (3, (0, v3))]) (by decide +kernel) (Nat.le_of_ble_eq_true rfl) rfl ?_
        refine r_aload_n (pc := 34) 1 (n := 0) (by decide +kernel) rfl rfl ?_
        obtain ⟨g35, q35, h⟩ := bnd h
        refine r_get (pc := 35) (by decide +kernel) fl_M_7.r (by decide) rfl q35 ?_
        refine r_iload_n (pc := 38) 4 (n := 3) (by decide +kernel) rfl rfl ?_
        obtain ⟨e39, q39, h⟩ := bnd h
        refine r_iald (pc := 39) (by decide +kernel) q39 ?_
        refine r_iconst (pc := 40) (z := 2) (by decide +kernel) ⟨by decide, by decide⟩ ?_
        obtain ⟨t41, ht41, h⟩ := bnd h
        have E41_0 : Rn Y_M_choose d mc ms 0 0 (none, r) 51 [(0, (2, v0)), (1, (0, v1)), (2, (0, v2)), (3, (0, v3)), (4, (0, t24))] [(0, t41)] M := by
          refine r_istore (pc := 51) (lv' := [(5, (0, t41)), (0, (2, v0)), (1, (0, v1)), (2, (0, v2)), (3, (0, v3)), (4, (0, t24))]) (by decide +kernel) (Nat.le_of_ble_eq_true rfl) rfl ?_
          refine r_iload (pc := 53) 5 (by decide +kernel) rfl ?_
          refine r_istore (pc := 55) (lv' := [(6, (0, t24)), (5, (0, t41)), (0, (2, v0)), (1, (0, v1)), (2, (0, v2)), (3, (0, v3)), (4, (0, t24))]) (by decide +kernel) (Nat.le_of_ble_eq_true rfl) rfl ?_
          refine r_lv [2, 3, 4, 5, 1, 0] rfl ?_
          refine sL_M_choose_57 (by omega) ?_ _ _  _ h
          intro m57 h
          refine r_iinc (pc := 136) 3 (n := 1) (lv' := [(3, (0, wr (v3 + 1))), (0, (2, v0)), (1, (0, v1)), (2, (0, v2))]) (by decide +kernel) rfl (Nat.le_of_ble_eq_true rfl) rfl ?_
          refine r_goto (pc := 139) (off := (-130)) (tgt := 9) (by decide +kernel) (by decide) ?_
          refine r_lv [1, 2, 3, 0] rfl ?_
          exact ih (wr (v3 + 1)) m57 h
        refine r_icmp_ne (pc := 41) (off := 9) (tgt := 50) (by decide +kernel) (by decide) (fun c41 => ?_) (fun c41 => ?_)
        · have ht41 := ite_f c41 ht41
          refine r_iconst (pc := 50) (z := 0) (by decide +kernel) ⟨by decide, by decide⟩ ?_
          obtain rfl := Option.some.inj ht41
          refine r_lv [1, 2, 3, 4, 0] rfl ?_
          exact E41_0
        · have ht41 := ite_t c41 ht41
          refine r_iload_n (pc := 44) 3 (n := 2) (by decide +kernel) rfl rfl ?_
          refine r_iconst (pc := 45) (z := 2) (by decide +kernel) ⟨by decide, by decide⟩ ?_
          refine r_isub (pc := 46) (by decide +kernel) ?_
          refine r_goto (pc := 47) (off := 4) (tgt := 51) (by decide +kernel) (by decide) ?_
          obtain rfl := Option.some.inj ht41
          refine r_lv [1, 2, 3, 4, 0] rfl ?_
          exact E41_0
      refine r_icmp_ne (pc := 24) (off := 7) (tgt := 31) (by decide +kernel) (by decide) (fun c24 => ?_) (fun c24 => ?_)
      · have ht24 := ite_f c24 ht24
        refine r_iconst (pc := 31) (z := 0) (by decide +kernel) ⟨by decide, by decide⟩ ?_
        obtain rfl := Option.some.inj ht24
        exact E24_0
      · have ht24 := ite_t c24 ht24
        refine r_iconst (pc := 27) (z := 1) (by decide +kernel) ⟨by decide, by decide⟩ ?_
        refine r_goto (pc := 28) (off := 4) (tgt := 32) (by decide +kernel) (by decide) ?_
        obtain rfl := Option.some.inj ht24
        exact E24_0
theorem c_M_choose {d : Nat} (hd : 4 ≤ d) {a0 a1 : Int} {M : Mem} {x : Mem} (h : D_M_choose a0 a1 M = some x) : Ct d Y_M_choose [(2, a0), (0, a1)] M (none, x) 0 0 := by
  refine ct_of yk_M_choose (Nat.le_of_ble_eq_true rfl) ?_
  rw [D_M_choose] at h
  show Rn Y_M_choose d 0 0 0 0 (none, x) 0 [(0, (2, a0)), (1, (0, a1))] [] M
  refine r_aload_n (pc := 0) 0 (n := 0) (by decide +kernel) rfl rfl ?_
  obtain ⟨g1, q1, h⟩ := bnd h
  refine r_get (pc := 1) (by decide +kernel) fl_M_109.r (by decide) rfl q1 ?_
  refine r_iload_n (pc := 4) 1 (n := 1) (by decide +kernel) rfl rfl ?_
  obtain ⟨e5, q5, h⟩ := bnd h
  refine r_iald (pc := 5) (by decide +kernel) q5 ?_
  refine r_istore_n (pc := 6) (n := 2) (lv' := [(2, (0, e5)), (0, (2, a0)), (1, (0, a1))]) (by decide +kernel) rfl (Nat.le_of_ble_eq_true rfl) rfl ?_
  refine r_iconst (pc := 7) (z := 0) (by decide +kernel) ⟨by decide, by decide⟩ ?_
  refine r_istore_n (pc := 8) (n := 3) (lv' := [(3, (0, 0)), (2, (0, e5)), (0, (2, a0)), (1, (0, a1))]) (by decide +kernel) rfl (Nat.le_of_ble_eq_true rfl) rfl ?_
  refine r_lv [2, 3, 1, 0] rfl ?_
  refine sL_M_choose_9 (by omega) ?_ _ _  _ h
  intro m9 h
  obtain rfl := Option.some.inj h
  exact r_ret (pc := 142) (r := none) (by decide +kernel) rfl trivial (Nat.le_of_ble_eq_true rfl) (Nat.le_of_ble_eq_true rfl)

/-! TreeTonguesModel.layWeights(IIIZII)V -/
noncomputable def L_M_layWeights_3 (k : Mem → Option (Mem)) (v0 : Int) (v1 : Int) (v2 : Int) (v3 : Int) (v4 : Int) (v5 : Int) (v6 : Int) : Nat → Int → Mem → Option (Mem)
  | 0 => fun _ _ => none
  | n + 1 => fun v7 M => (gf M v0 9 54 13).bind fun g6 => (rd M 10 g6 16).bind fun e11 => if e11 ≤ v7 then (k  M) else ((gf M v0 9 54 46).bind fun g16 => (if v4 = 0 then ((gf M v0 9 54 1).bind fun g56 => (rd M 10 g56 v3).bind fun e60 => if e60 = 1 then ((gf M v0 9 54 46).bind fun g66 => (ck M v0 9 54).bind fun _ => (D_M_step v0 16 v3 v7 0 M).bind fun x80 => (rd x80.2 11 g66 (wr ((wr (6 * v1)) + x80.1))).bind fun e84 => some (e84, x80.2)) else ((ck M v0 9 54).bind fun _ => (D_M_behind v0 v1 v3 v7 v6 M).bind fun x95 => some (x95.1, x95.2))) else ((gf M v0 9 54 46).bind fun g32 => (ck M v0 9 54).bind fun _ => (D_M_step v0 16 v3 v5 v7 M).bind fun x47 => (rd x47.2 11 g32 (wr ((wr (6 * v1)) + x47.1))).bind fun e51 => some (e51, x47.2))).bind fun (t28 : Int × Mem) => (wt t28.2 11 g16 (wr ((wr (6 * v2)) + v7)) t28.1).bind fun m98 => L_M_layWeights_3 k v0 v1 v2 v3 v4 v5 v6 n (wr (v7 + 1)) m98)
noncomputable def D_M_layWeights (a0 a1 a2 a3 a4 a5 a6 : Int) (M : Mem) : Option (Mem) := L_M_layWeights_3 (fun  m3 => some m3) a0 a1 a2 a3 a4 a5 a6 FU 0 M
theorem sL_M_layWeights_3 {d mc ms : Nat} (hd : 3 ≤ d) {r : Mem} {k : Mem → Option (Mem)} {v0 : Int} {v1 : Int} {v2 : Int} {v3 : Int} {v4 : Int} {v5 : Int} {v6 : Int} (hk : ∀ (M : Mem), k M = some r → Rn Y_M_layWeights d mc ms 0 0 (none, r) 105 [] [] M) : ∀ (n : Nat) (v7 : Int) (M : Mem), L_M_layWeights_3 k v0 v1 v2 v3 v4 v5 v6 n v7 M = some r → Rn Y_M_layWeights d mc ms 0 0 (none, r) 3 [(0, (2, v0)), (1, (0, v1)), (2, (0, v2)), (3, (0, v3)), (4, (0, v4)), (5, (0, v5)), (6, (0, v6)), (7, (0, v7))] [] M := by
  intro n
  induction n with
  | zero => intro _ _ h; cases h
  | succ n ih =>
    intro v7 M h
    rw [L_M_layWeights_3] at h
    refine r_iload (pc := 3) 7 (by decide +kernel) rfl ?_
    refine r_aload_n (pc := 5) 0 (n := 0) (by decide +kernel) rfl rfl ?_
    obtain ⟨g6, q6, h⟩ := bnd h
    refine r_get (pc := 6) (by decide +kernel) fl_M_41.r (by decide) rfl q6 ?_
    refine r_bipush (pc := 9) (z := 16) (by decide +kernel) ⟨by decide, by decide⟩ ?_
    obtain ⟨e11, q11, h⟩ := bnd h
    refine r_iald (pc := 11) (by decide +kernel) q11 ?_
    refine r_icmp_ge (pc := 12) (off := 93) (tgt := 105) (by decide +kernel) (by decide) (fun c12 => ?_) (fun c12 => ?_)
    · have h := ite_t c12 h
      refine r_lv [] rfl ?_
      exact hk  M h
    · have h := ite_f c12 h
      refine r_aload_n (pc := 15) 0 (n := 0) (by decide +kernel) rfl rfl ?_
      obtain ⟨g16, q16, h⟩ := bnd h
      refine r_get (pc := 16) (by decide +kernel) fl_M_106.r (by decide) rfl q16 ?_
      refine r_bipush (pc := 19) (z := 6) (by decide +kernel) ⟨by decide, by decide⟩ ?_
      refine r_iload_n (pc := 21) 2 (n := 2) (by decide +kernel) rfl rfl ?_
      refine r_imul (pc := 22) (by decide +kernel) ?_
      refine r_iload (pc := 23) 7 (by decide +kernel) rfl ?_
      refine r_iadd (pc := 25) (by decide +kernel) ?_
      refine r_iload (pc := 26) 4 (by decide +kernel) rfl ?_
      obtain ⟨t28, ht28, h⟩ := bnd h
      have E28_0 : Rn Y_M_layWeights d mc ms 0 0 (none, r) 98 [(0, (2, v0)), (1, (0, v1)), (2, (0, v2)), (3, (0, v3)), (4, (0, v4)), (5, (0, v5)), (6, (0, v6)), (7, (0, v7))] [(1, t28.1), (0, wr ((wr (6 * v2)) + v7)), (2, g16)] t28.2 := by
        obtain ⟨m98, q98, h⟩ := bnd h
        refine r_last (pc := 98) (by decide +kernel) q98 ?_
        refine r_iinc (pc := 99) 7 (n := 1) (lv' := [(7, (0, wr (v7 + 1))), (0, (2, v0)), (1, (0, v1)), (2, (0, v2)), (3, (0, v3)), (4, (0, v4)), (5, (0, v5)), (6, (0, v6))]) (by decide +kernel) rfl (Nat.le_of_ble_eq_true rfl) rfl ?_
        refine r_goto (pc := 102) (off := (-99)) (tgt := 3) (by decide +kernel) (by decide) ?_
        refine r_lv [1, 2, 3, 4, 5, 6, 7, 0] rfl ?_
        exact ih (wr (v7 + 1)) m98 h
      refine r_if_eq (pc := 28) (off := 27) (tgt := 55) (by decide +kernel) (by decide) (fun c28 => ?_) (fun c28 => ?_)
      · have ht28 := ite_t c28 ht28
        refine r_aload_n (pc := 55) 0 (n := 0) (by decide +kernel) rfl rfl ?_
        obtain ⟨g56, q56, ht28⟩ := bnd ht28
        refine r_get (pc := 56) (by decide +kernel) fl_M_7.r (by decide) rfl q56 ?_
        refine r_iload_n (pc := 59) 3 (n := 3) (by decide +kernel) rfl rfl ?_
        obtain ⟨e60, q60, ht28⟩ := bnd ht28
        refine r_iald (pc := 60) (by decide +kernel) q60 ?_
        refine r_iconst (pc := 61) (z := 1) (by decide +kernel) ⟨by decide, by decide⟩ ?_
        refine r_icmp_ne (pc := 62) (off := 26) (tgt := 88) (by decide +kernel) (by decide) (fun c62 => ?_) (fun c62 => ?_)
        · have ht28 := ite_f c62 ht28
          refine r_aload_n (pc := 88) 0 (n := 0) (by decide +kernel) rfl rfl ?_
          refine r_iload_n (pc := 89) 1 (n := 1) (by decide +kernel) rfl rfl ?_
          refine r_iload_n (pc := 90) 3 (n := 3) (by decide +kernel) rfl rfl ?_
          refine r_iload (pc := 91) 7 (by decide +kernel) rfl ?_
          refine r_iload (pc := 93) 6 (by decide +kernel) rfl ?_
          obtain ⟨_, q95c, ht28⟩ := bnd ht28
          obtain ⟨x95, q95, ht28⟩ := bnd ht28
          refine r_callV (pc := 95) (i := 311) (d2 := d - 1) (As := [(0, v1), (0, v3), (0, v7), (0, v6)]) (st := [(0, wr ((wr (6 * v2)) + v7)), (2, g16)]) (st1 := [(0, v6), (0, v7), (0, v3), (0, v1), (2, v0), (0, wr ((wr (6 * v2)) + v7)), (2, g16)]) (by decide +kernel) yk_M_behind (by decide) rfl ⟨ml_M_311, vk_M_behind⟩ np_M_behind rfl (by omega) q95c (c_M_behind (d := d - 1) (by omega) q95) (Nat.le_of_ble_eq_true rfl) (Nat.le_of_ble_eq_true rfl) (Nat.le_of_ble_eq_true rfl) rfl ?_
          show Rn _ d _ _ 0 0 _ 98 [(0, (2, v0)), (1, (0, v1)), (2, (0, v2)), (3, (0, v3)), (4, (0, v4)), (5, (0, v5)), (6, (0, v6)), (7, (0, v7))] [(1, x95.1), (0, wr ((wr (6 * v2)) + v7)), (2, g16)] x95.2
          obtain rfl := Option.some.inj ht28
          exact E28_0
        · have ht28 := ite_t c62 ht28
          refine r_aload_n (pc := 65) 0 (n := 0) (by decide +kernel) rfl rfl ?_
          obtain ⟨g66, q66, ht28⟩ := bnd ht28
          refine r_get (pc := 66) (by decide +kernel) fl_M_106.r (by decide) rfl q66 ?_
          refine r_bipush (pc := 69) (z := 6) (by decide +kernel) ⟨by decide, by decide⟩ ?_
          refine r_iload_n (pc := 71) 1 (n := 1) (by decide +kernel) rfl rfl ?_
          refine r_imul (pc := 72) (by decide +kernel) ?_
          refine r_aload_n (pc := 73) 0 (n := 0) (by decide +kernel) rfl rfl ?_
          refine r_bipush (pc := 74) (z := 16) (by decide +kernel) ⟨by decide, by decide⟩ ?_
          refine r_iload_n (pc := 76) 3 (n := 3) (by decide +kernel) rfl rfl ?_
          refine r_iload (pc := 77) 7 (by decide +kernel) rfl ?_
          refine r_iconst (pc := 79) (z := 0) (by decide +kernel) ⟨by decide, by decide⟩ ?_
          obtain ⟨_, q80c, ht28⟩ := bnd ht28
          obtain ⟨x80, q80, ht28⟩ := bnd ht28
          refine r_callV (pc := 80) (i := 155) (d2 := d - 1) (As := [(0, 16), (0, v3), (0, v7), (0, 0)]) (st := [(0, wr (6 * v1)), (2, g66), (0, wr ((wr (6 * v2)) + v7)), (2, g16)]) (st1 := [(0, 0), (0, v7), (0, v3), (0, 16), (2, v0), (0, wr (6 * v1)), (2, g66), (0, wr ((wr (6 * v2)) + v7)), (2, g16)]) (by decide +kernel) yk_M_step (by decide) rfl ⟨ml_M_155, vk_M_step⟩ np_M_step rfl (by omega) q80c (c_M_step (d := d - 1) (by omega) q80) (Nat.le_of_ble_eq_true rfl) (Nat.le_of_ble_eq_true rfl) (Nat.le_of_ble_eq_true rfl) rfl ?_
          show Rn _ d _ _ 0 0 _ 83 [(0, (2, v0)), (1, (0, v1)), (2, (0, v2)), (3, (0, v3)), (4, (0, v4)), (5, (0, v5)), (6, (0, v6)), (7, (0, v7))] [(0, x80.1), (0, wr (6 * v1)), (2, g66), (0, wr ((wr (6 * v2)) + v7)), (2, g16)] x80.2
          refine r_iadd (pc := 83) (by decide +kernel) ?_
          obtain ⟨e84, q84, ht28⟩ := bnd ht28
          refine r_lald (pc := 84) (by decide +kernel) q84 ?_
          refine r_goto (pc := 85) (off := 13) (tgt := 98) (by decide +kernel) (by decide) ?_
          obtain rfl := Option.some.inj ht28
          exact E28_0
      · have ht28 := ite_f c28 ht28
        refine r_aload_n (pc := 31) 0 (n := 0) (by decide +kernel) rfl rfl ?_
        obtain ⟨g32, q32, ht28⟩ := bnd ht28
        refine r_get (pc := 32) (by decide +kernel) fl_M_106.r (by decide) rfl q32 ?_
        refine r_bipush (pc := 35) (z := 6) (by decide +kernel) ⟨by decide, by decide⟩ ?_
        refine r_iload_n (pc := 37) 1 (n := 1) (by decide +kernel) rfl rfl ?_
        refine r_imul (pc := 38) (by decide +kernel) ?_
        refine r_aload_n (pc := 39) 0 (n := 0) (by decide +kernel) rfl rfl ?_
        refine r_bipush (pc := 40) (z := 16) (by decide +kernel) ⟨by decide, by decide⟩ ?_
        refine r_iload_n (pc := 42) 3 (n := 3) (by decide +kernel) rfl rfl ?_
        refine r_iload (pc := 43) 5 (by decide +kernel) rfl ?_
        refine r_iload (pc := 45) 7 (by decide +kernel) rfl ?_
        obtain ⟨_, q47c, ht28⟩ := bnd ht28
        obtain ⟨x47, q47, ht28⟩ := bnd ht28
        refine r_callV (pc := 47) (i := 155) (d2 := d - 1) (As := [(0, 16), (0, v3), (0, v5), (0, v7)]) (st := [(0, wr (6 * v1)), (2, g32), (0, wr ((wr (6 * v2)) + v7)), (2, g16)]) (st1 := [(0, v7), (0, v5), (0, v3), (0, 16), (2, v0), (0, wr (6 * v1)), (2, g32), (0, wr ((wr (6 * v2)) + v7)), (2, g16)]) (by decide +kernel) yk_M_step (by decide) rfl ⟨ml_M_155, vk_M_step⟩ np_M_step rfl (by omega) q47c (c_M_step (d := d - 1) (by omega) q47) (Nat.le_of_ble_eq_true rfl) (Nat.le_of_ble_eq_true rfl) (Nat.le_of_ble_eq_true rfl) rfl ?_
        show Rn _ d _ _ 0 0 _ 50 [(0, (2, v0)), (1, (0, v1)), (2, (0, v2)), (3, (0, v3)), (4, (0, v4)), (5, (0, v5)), (6, (0, v6)), (7, (0, v7))] [(0, x47.1), (0, wr (6 * v1)), (2, g32), (0, wr ((wr (6 * v2)) + v7)), (2, g16)] x47.2
        refine r_iadd (pc := 50) (by decide +kernel) ?_
        obtain ⟨e51, q51, ht28⟩ := bnd ht28
        refine r_lald (pc := 51) (by decide +kernel) q51 ?_
        refine r_goto (pc := 52) (off := 46) (tgt := 98) (by decide +kernel) (by decide) ?_
        obtain rfl := Option.some.inj ht28
        exact E28_0
theorem c_M_layWeights {d : Nat} (hd : 3 ≤ d) {a0 a1 a2 a3 a4 a5 a6 : Int} {M : Mem} {x : Mem} (h : D_M_layWeights a0 a1 a2 a3 a4 a5 a6 M = some x) : Ct d Y_M_layWeights [(2, a0), (0, a1), (0, a2), (0, a3), (0, a4), (0, a5), (0, a6)] M (none, x) 0 0 := by
  refine ct_of yk_M_layWeights (Nat.le_of_ble_eq_true rfl) ?_
  rw [D_M_layWeights] at h
  show Rn Y_M_layWeights d 0 0 0 0 (none, x) 0 [(0, (2, a0)), (1, (0, a1)), (2, (0, a2)), (3, (0, a3)), (4, (0, a4)), (5, (0, a5)), (6, (0, a6))] [] M
  refine r_iconst (pc := 0) (z := 0) (by decide +kernel) ⟨by decide, by decide⟩ ?_
  refine r_istore (pc := 1) (lv' := [(7, (0, 0)), (0, (2, a0)), (1, (0, a1)), (2, (0, a2)), (3, (0, a3)), (4, (0, a4)), (5, (0, a5)), (6, (0, a6))]) (by decide +kernel) (Nat.le_of_ble_eq_true rfl) rfl ?_
  refine r_lv [1, 2, 3, 4, 5, 6, 7, 0] rfl ?_
  refine sL_M_layWeights_3 (by omega) ?_ _ _  _ h
  intro m3 h
  obtain rfl := Option.some.inj h
  exact r_ret (pc := 105) (r := none) (by decide +kernel) rfl trivial (Nat.le_of_ble_eq_true rfl) (Nat.le_of_ble_eq_true rfl)

/-! TreeTonguesModel.layTree(IJ)I -/
noncomputable def L_M_layTree_32 (k : Mem → Option (Int × Mem)) (v0 : Int) : Nat → Int → Mem → Option (Int × Mem)
  | 0 => fun _ _ => none
  | n + 1 => fun v4 M => if v4 < 0 then (k  M) else ((gf M v0 9 54 50).bind fun g38 => (rd M 10 g38 v4).bind fun e43 => (if e43 = 0 then ((ck M v0 9 54).bind fun _ => (D_M_choose v0 v4 M).bind fun x50 => (gf x50 v0 9 54 2).bind fun g54 => (gf x50 v0 9 54 3).bind fun g58 => (gf x50 v0 9 54 48).bind fun g62 => (rd x50 10 g62 v4).bind fun e67 => (wt x50 10 g54 g58 e67).bind fun m68 => (gf m68 v0 9 54 3).bind fun g71 => (pf m68 v0 9 54 3 (wr (g71 + 1))).bind fun m76 => some m76) else ((gf M v0 9 54 50).bind fun g83 => (rd M 10 g83 v4).bind fun e88 => if e88 = 1 then ((gf M v0 9 54 51).bind fun g94 => (gf M v0 9 54 53).bind fun g100 => (wt M 10 g94 v4 g100).bind fun m103 => some m103) else (some M))).bind fun (t44 : Mem) => (gf t44 v0 9 54 48).bind fun g105 => (rd t44 10 g105 v4).bind fun e110 => (gf t44 v0 9 54 50).bind fun g114 => (rd t44 10 g114 v4).bind fun e120 => (wt t44 10 g114 v4 (wr (e120 + 1))).bind fun m123 => (gf m123 v0 9 54 50).bind fun g125 => (rd m123 10 g125 v4).bind fun e130 => (gf m123 v0 9 54 1).bind fun g132 => (rd m123 10 g132 e110).bind fun e137 => (if e137 < e130 then ((gf m123 v0 9 54 1).bind fun g245 => (rd m123 10 g245 e110).bind fun e250 => (if e250 ≤ 0 then (some 0) else ((gf m123 v0 9 54 51).bind fun g255 => (rd m123 10 g255 v4).bind fun e260 => some e260)).bind fun (t251 : Int) => (gf m123 v0 9 54 1).bind fun g266 => (rd m123 10 g266 e110).bind fun e271 => (if e271 ≤ 1 then (some 0) else ((gf m123 v0 9 54 53).bind fun g277 => some g277)).bind fun (t273 : Int) => (ck m123 v0 9 54).bind fun _ => (D_M_step v0 16 e110 t251 t273 m123).bind fun x284 => (pf x284.2 v0 9 54 53 x284.1).bind fun m287 => some (wr (v4 + (-1)), m287)) else ((gf m123 v0 9 54 50).bind fun g142 => (rd m123 10 g142 v4).bind fun e147 => (if e147 = 2 then (some 1) else (some 0)).bind fun (t149 : Int) => (gf m123 v0 9 54 49).bind fun g160 => (rd m123 10 g160 v4).bind fun e165 => (gf m123 v0 9 54 51).bind fun g180 => (rd m123 10 g180 v4).bind fun e185 => (ck m123 v0 9 54).bind fun _ => (D_M_layWeights v0 v4 (wr (v4 + 1)) e110 t149 e185 e165 m123).bind fun x188 => (gf x188 v0 9 54 47).bind fun g192 => (if t149 = 0 then ((gf x188 v0 9 54 47).bind fun g210 => (rd x188 10 g210 v4).bind fun e215 => some (wr ((wr (e215 - 1)) - e165))) else (some e165)).bind fun (t201 : Int) => (wt x188 10 g192 (wr (v4 + 1)) t201).bind fun m221 => (gf m221 v0 9 54 50).bind fun g223 => (wt m221 10 g223 (wr (v4 + 1)) 0).bind fun m231 => some (wr (v4 + 1), m231))).bind fun (t138 : Int × Mem) => L_M_layTree_32 k v0 n t138.1 t138.2)
noncomputable def D_M_layTree (a0 a1 a2 : Int) (M : Mem) : Option (Int × Mem) := (pf M a0 9 54 52 a2).bind fun m2 => (pf m2 a0 9 54 3 0).bind fun m7 => (gf m7 a0 9 54 47).bind fun g14 => (wt m7 10 g14 0 a1).bind fun m19 => (gf m19 a0 9 54 50).bind fun g21 => (wt m19 10 g21 0 0).bind fun m26 => (ck m26 a0 9 54).bind fun _ => (D_M_layLast a0 0 m26).bind fun x29 => L_M_layTree_32 (fun  m32 => (gf m32 a0 9 54 3).bind fun g297 => some (g297, m32)) a0 FU 0 x29
theorem sL_M_layTree_32 {d mc ms : Nat} (hd : 5 ≤ d) {r : Int × Mem} {k : Mem → Option (Int × Mem)} {v0 : Int} (hk : ∀ (M : Mem), k M = some r → Rn Y_M_layTree d mc ms 0 0 (some (0, r.1), r.2) 296 [(0, (2, v0))] [] M) : ∀ (n : Nat) (v4 : Int) (M : Mem), L_M_layTree_32 k v0 n v4 M = some r → Rn Y_M_layTree d mc ms 0 0 (some (0, r.1), r.2) 32 [(0, (2, v0)), (4, (0, v4))] [] M := by
  intro n
  induction n with
  | zero => intro _ _ h; cases h
  | succ n ih =>
    intro v4 M h
    rw [L_M_layTree_32] at h
    refine r_iload (pc := 32) 1 (by decide +kernel) rfl ?_
    refine r_if_lt (pc := 34) (off := 262) (tgt := 296) (by decide +kernel) (by decide) (fun c34 => ?_) (fun c34 => ?_)
    · have h := ite_t c34 h
      refine r_lv [0] rfl ?_
      exact hk  M h
    · have h := ite_f c34 h
      refine r_aload_n (pc := 37) 0 (n := 0) (by decide +kernel) rfl rfl ?_
      obtain ⟨g38, q38, h⟩ := bnd h
      refine r_get (pc := 38) (by decide +kernel) fl_M_118.r (by decide) rfl q38 ?_
      refine r_iload (pc := 41) 1 (by decide +kernel) rfl ?_
      obtain ⟨e43, q43, h⟩ := bnd h
      refine r_iald (pc := 43) (by decide +kernel) q43 ?_
      obtain ⟨t44, ht44, h⟩ := bnd h
      have E44_0 : Rn Y_M_layTree d mc ms 0 0 (some (0, r.1), r.2) 104 [(0, (2, v0)), (4, (0, v4))] [] t44 := by
        refine r_aload_n (pc := 104) 0 (n := 0) (by decide +kernel) rfl rfl ?_
        obtain ⟨g105, q105, h⟩ := bnd h
        refine r_get (pc := 105) (by decide +kernel) fl_M_112.r (by decide) rfl q105 ?_
        refine r_iload (pc := 108) 1 (by decide +kernel) rfl ?_
        obtain ⟨e110, q110, h⟩ := bnd h
        refine r_iald (pc := 110) (by decide +kernel) q110 ?_
        refine r_istore (pc := 111) (lv' := [(5, (0, e110)), (0, (2, v0)), (4, (0, v4))]) (by decide +kernel) (Nat.le_of_ble_eq_true rfl) rfl ?_
        refine r_aload_n (pc := 113) 1 (n := 0) (by decide +kernel) rfl rfl ?_
        obtain ⟨g114, q114, h⟩ := bnd h
        refine r_get (pc := 114) (by decide +kernel) fl_M_118.r (by decide) rfl q114 ?_
        refine r_iload (pc := 117) 2 (by decide +kernel) rfl ?_
        refine r_dup2 (pc := 119) (by decide +kernel) rfl rfl ?_
        obtain ⟨e120, q120, h⟩ := bnd h
        refine r_iald (pc := 120) (by decide +kernel) q120 ?_
        refine r_iconst (pc := 121) (z := 1) (by decide +kernel) ⟨by decide, by decide⟩ ?_
        refine r_iadd (pc := 122) (by decide +kernel) ?_
        obtain ⟨m123, q123, h⟩ := bnd h
        refine r_iast (pc := 123) (by decide +kernel) q123 ?_
        refine r_aload_n (pc := 124) 1 (n := 0) (by decide +kernel) rfl rfl ?_
        obtain ⟨g125, q125, h⟩ := bnd h
        refine r_get (pc := 125) (by decide +kernel) fl_M_118.r (by decide) rfl q125 ?_
        refine r_iload (pc := 128) 2 (by decide +kernel) rfl ?_
        obtain ⟨e130, q130, h⟩ := bnd h
        refine r_iald (pc := 130) (by decide +kernel) q130 ?_
        refine r_aload_n (pc := 131) 1 (n := 0) (by decide +kernel) rfl rfl ?_
        obtain ⟨g132, q132, h⟩ := bnd h
        refine r_get (pc := 132) (by decide +kernel) fl_M_7.r (by decide) rfl q132 ?_
        refine r_iload (pc := 135) 0 (by decide +kernel) rfl ?_
        obtain ⟨e137, q137, h⟩ := bnd h
        refine r_iald (pc := 137) (by decide +kernel) q137 ?_
        obtain ⟨t138, ht138, h⟩ := bnd h
        have E138_0 : Rn Y_M_layTree d mc ms 0 0 (some (0, r.1), r.2) 293 [(0, (2, v0)), (4, (0, t138.1))] [] t138.2 := by
          refine r_goto (pc := 293) (off := (-261)) (tgt := 32) (by decide +kernel) (by decide) ?_
          exact ih t138.1 t138.2 h
        refine r_icmp_gt (pc := 138) (off := 100) (tgt := 238) (by decide +kernel) (by decide) (fun c138 => ?_) (fun c138 => ?_)
        · have ht138 := ite_t c138 ht138
          refine r_aload_n (pc := 238) 1 (n := 0) (by decide +kernel) rfl rfl ?_
          refine r_aload_n (pc := 239) 1 (n := 0) (by decide +kernel) rfl rfl ?_
          refine r_bipush (pc := 240) (z := 16) (by decide +kernel) ⟨by decide, by decide⟩ ?_
          refine r_iload (pc := 242) 0 (by decide +kernel) rfl ?_
          refine r_aload_n (pc := 244) 1 (n := 0) (by decide +kernel) rfl rfl ?_
          obtain ⟨g245, q245, ht138⟩ := bnd ht138
          refine r_get (pc := 245) (by decide +kernel) fl_M_7.r (by decide) rfl q245 ?_
          refine r_iload (pc := 248) 0 (by decide +kernel) rfl ?_
          obtain ⟨e250, q250, ht138⟩ := bnd ht138
          refine r_iald (pc := 250) (by decide +kernel) q250 ?_
          obtain ⟨t251, ht251, ht138⟩ := bnd ht138
          have E251_0 : Rn Y_M_layTree d mc ms 0 0 (some (0, r.1), r.2) 265 [(0, (2, v0)), (4, (0, v4)), (5, (0, e110))] [(0, t251), (0, e110), (0, 16), (2, v0), (2, v0)] m123 := by
            refine r_aload_n (pc := 265) 0 (n := 0) (by decide +kernel) rfl rfl ?_
            obtain ⟨g266, q266, ht138⟩ := bnd ht138
            refine r_get (pc := 266) (by decide +kernel) fl_M_7.r (by decide) rfl q266 ?_
            refine r_iload (pc := 269) 2 (by decide +kernel) rfl ?_
            obtain ⟨e271, q271, ht138⟩ := bnd ht138
            refine r_iald (pc := 271) (by decide +kernel) q271 ?_
            refine r_iconst (pc := 272) (z := 1) (by decide +kernel) ⟨by decide, by decide⟩ ?_
            obtain ⟨t273, ht273, ht138⟩ := bnd ht138
            have E273_0 : Rn Y_M_layTree d mc ms 0 0 (some (0, r.1), r.2) 284 [(0, (2, v0)), (4, (0, v4))] [(0, t273), (0, t251), (0, e110), (0, 16), (2, v0), (2, v0)] m123 := by
              obtain ⟨_, q284c, ht138⟩ := bnd ht138
              obtain ⟨x284, q284, ht138⟩ := bnd ht138
              refine r_callV (pc := 284) (i := 155) (d2 := d - 1) (As := [(0, 16), (0, e110), (0, t251), (0, t273)]) (st := [(2, v0)]) (st1 := [(0, t273), (0, t251), (0, e110), (0, 16), (2, v0), (2, v0)]) (by decide +kernel) yk_M_step (by decide) rfl ⟨ml_M_155, vk_M_step⟩ np_M_step rfl (by omega) q284c (c_M_step (d := d - 1) (by omega) q284) (Nat.le_of_ble_eq_true rfl) (Nat.le_of_ble_eq_true rfl) (Nat.le_of_ble_eq_true rfl) rfl ?_
              show Rn _ d _ _ 0 0 _ 287 [(0, (2, v0)), (4, (0, v4))] [(0, x284.1), (2, v0)] x284.2
              obtain ⟨m287, q287, ht138⟩ := bnd ht138
              refine r_put (pc := 287) (by decide +kernel) fl_M_328 (by decide) (Or.inr nf_9_53) rfl (fun h3 => by cases h3) q287 ?_
              refine r_iinc (pc := 290) 1 (n := (-1)) (lv' := [(4, (0, wr (v4 + (-1)))), (0, (2, v0))]) (by decide +kernel) rfl (Nat.le_of_ble_eq_true rfl) rfl ?_
              obtain rfl := Option.some.inj ht138
              refine r_lv [1, 0] rfl ?_
              exact E138_0
            refine r_icmp_le (pc := 273) (off := 10) (tgt := 283) (by decide +kernel) (by decide) (fun c273 => ?_) (fun c273 => ?_)
            · have ht273 := ite_t c273 ht273
              refine r_iconst (pc := 283) (z := 0) (by decide +kernel) ⟨by decide, by decide⟩ ?_
              obtain rfl := Option.some.inj ht273
              refine r_lv [0, 1] rfl ?_
              exact E273_0
            · have ht273 := ite_f c273 ht273
              refine r_aload_n (pc := 276) 0 (n := 0) (by decide +kernel) rfl rfl ?_
              obtain ⟨g277, q277, ht273⟩ := bnd ht273
              refine r_get (pc := 277) (by decide +kernel) fl_M_328.r (by decide) rfl q277 ?_
              refine r_goto (pc := 280) (off := 4) (tgt := 284) (by decide +kernel) (by decide) ?_
              obtain rfl := Option.some.inj ht273
              refine r_lv [0, 1] rfl ?_
              exact E273_0
          refine r_if_le (pc := 251) (off := 13) (tgt := 264) (by decide +kernel) (by decide) (fun c251 => ?_) (fun c251 => ?_)
          · have ht251 := ite_t c251 ht251
            refine r_iconst (pc := 264) (z := 0) (by decide +kernel) ⟨by decide, by decide⟩ ?_
            obtain rfl := Option.some.inj ht251
            refine r_lv [1, 2, 0] rfl ?_
            exact E251_0
          · have ht251 := ite_f c251 ht251
            refine r_aload_n (pc := 254) 1 (n := 0) (by decide +kernel) rfl rfl ?_
            obtain ⟨g255, q255, ht251⟩ := bnd ht251
            refine r_get (pc := 255) (by decide +kernel) fl_M_121.r (by decide) rfl q255 ?_
            refine r_iload (pc := 258) 2 (by decide +kernel) rfl ?_
            obtain ⟨e260, q260, ht251⟩ := bnd ht251
            refine r_iald (pc := 260) (by decide +kernel) q260 ?_
            refine r_goto (pc := 261) (off := 4) (tgt := 265) (by decide +kernel) (by decide) ?_
            obtain rfl := Option.some.inj ht251
            refine r_lv [1, 2, 0] rfl ?_
            exact E251_0
        · have ht138 := ite_f c138 ht138
          refine r_aload_n (pc := 141) 1 (n := 0) (by decide +kernel) rfl rfl ?_
          obtain ⟨g142, q142, ht138⟩ := bnd ht138
          refine r_get (pc := 142) (by decide +kernel) fl_M_118.r (by decide) rfl q142 ?_
          refine r_iload (pc := 145) 2 (by decide +kernel) rfl ?_
          obtain ⟨e147, q147, ht138⟩ := bnd ht138
          refine r_iald (pc := 147) (by decide +kernel) q147 ?_
          refine r_iconst (pc := 148) (z := 2) (by decide +kernel) ⟨by decide, by decide⟩ ?_
          obtain ⟨t149, ht149, ht138⟩ := bnd ht138
          have E149_0 : Rn Y_M_layTree d mc ms 0 0 (some (0, r.1), r.2) 157 [(0, (2, v0)), (4, (0, v4)), (5, (0, e110))] [(0, t149)] m123 := by
            refine r_istore (pc := 157) (lv' := [(6, (0, t149)), (0, (2, v0)), (4, (0, v4)), (5, (0, e110))]) (by decide +kernel) (Nat.le_of_ble_eq_true rfl) rfl ?_
            refine r_aload_n (pc := 159) 1 (n := 0) (by decide +kernel) rfl rfl ?_
            obtain ⟨g160, q160, ht138⟩ := bnd ht138
            refine r_get (pc := 160) (by decide +kernel) fl_M_115.r (by decide) rfl q160 ?_
            refine r_iload (pc := 163) 2 (by decide +kernel) rfl ?_
            obtain ⟨e165, q165, ht138⟩ := bnd ht138
            refine r_iald (pc := 165) (by decide +kernel) q165 ?_
            refine r_istore (pc := 166) (lv' := [(7, (0, e165)), (6, (0, t149)), (0, (2, v0)), (4, (0, v4)), (5, (0, e110))]) (by decide +kernel) (Nat.le_of_ble_eq_true rfl) rfl ?_
            refine r_aload_n (pc := 168) 2 (n := 0) (by decide +kernel) rfl rfl ?_
            refine r_iload (pc := 169) 3 (by decide +kernel) rfl ?_
            refine r_iload (pc := 171) 3 (by decide +kernel) rfl ?_
            refine r_iconst (pc := 173) (z := 1) (by decide +kernel) ⟨by decide, by decide⟩ ?_
            refine r_iadd (pc := 174) (by decide +kernel) ?_
            refine r_iload (pc := 175) 4 (by decide +kernel) rfl ?_
            refine r_iload (pc := 177) 1 (by decide +kernel) rfl ?_
            refine r_aload_n (pc := 179) 2 (n := 0) (by decide +kernel) rfl rfl ?_
            obtain ⟨g180, q180, ht138⟩ := bnd ht138
            refine r_get (pc := 180) (by decide +kernel) fl_M_121.r (by decide) rfl q180 ?_
            refine r_iload (pc := 183) 3 (by decide +kernel) rfl ?_
            obtain ⟨e185, q185, ht138⟩ := bnd ht138
            refine r_iald (pc := 185) (by decide +kernel) q185 ?_
            refine r_iload (pc := 186) 0 (by decide +kernel) rfl ?_
            obtain ⟨_, q188c, ht138⟩ := bnd ht138
            obtain ⟨x188, q188, ht138⟩ := bnd ht138
            refine r_callV (pc := 188) (i := 331) (d2 := d - 1) (As := [(0, v4), (0, wr (v4 + 1)), (0, e110), (0, t149), (0, e185), (0, e165)]) (st := []) (st1 := [(0, e165), (0, e185), (0, t149), (0, e110), (0, wr (v4 + 1)), (0, v4), (2, v0)]) (by decide +kernel) yk_M_layWeights (by decide) rfl ⟨ml_M_331, vk_M_layWeights⟩ np_M_layWeights rfl (by omega) q188c (c_M_layWeights (d := d - 1) (by omega) q188) (Nat.le_of_ble_eq_true rfl) (Nat.le_of_ble_eq_true rfl) (Nat.le_of_ble_eq_true rfl) rfl ?_
            show Rn _ d _ _ 0 0 _ 191 [(7, (0, e165)), (6, (0, t149)), (0, (2, v0)), (4, (0, v4)), (5, (0, e110))] [] x188
            refine r_aload_n (pc := 191) 2 (n := 0) (by decide +kernel) rfl rfl ?_
            obtain ⟨g192, q192, ht138⟩ := bnd ht138
            refine r_get (pc := 192) (by decide +kernel) fl_M_109.r (by decide) rfl q192 ?_
            refine r_iload (pc := 195) 3 (by decide +kernel) rfl ?_
            refine r_iconst (pc := 197) (z := 1) (by decide +kernel) ⟨by decide, by decide⟩ ?_
            refine r_iadd (pc := 198) (by decide +kernel) ?_
            refine r_iload (pc := 199) 1 (by decide +kernel) rfl ?_
            obtain ⟨t201, ht201, ht138⟩ := bnd ht138
            have E201_0 : Rn Y_M_layTree d mc ms 0 0 (some (0, r.1), r.2) 221 [(0, (2, v0)), (4, (0, v4))] [(0, t201), (0, wr (v4 + 1)), (2, g192)] x188 := by
              obtain ⟨m221, q221, ht138⟩ := bnd ht138
              refine r_iast (pc := 221) (by decide +kernel) q221 ?_
              refine r_aload_n (pc := 222) 0 (n := 0) (by decide +kernel) rfl rfl ?_
              obtain ⟨g223, q223, ht138⟩ := bnd ht138
              refine r_get (pc := 223) (by decide +kernel) fl_M_118.r (by decide) rfl q223 ?_
              refine r_iload (pc := 226) 1 (by decide +kernel) rfl ?_
              refine r_iconst (pc := 228) (z := 1) (by decide +kernel) ⟨by decide, by decide⟩ ?_
              refine r_iadd (pc := 229) (by decide +kernel) ?_
              refine r_iconst (pc := 230) (z := 0) (by decide +kernel) ⟨by decide, by decide⟩ ?_
              obtain ⟨m231, q231, ht138⟩ := bnd ht138
              refine r_iast (pc := 231) (by decide +kernel) q231 ?_
              refine r_iinc (pc := 232) 1 (n := 1) (lv' := [(4, (0, wr (v4 + 1))), (0, (2, v0))]) (by decide +kernel) rfl (Nat.le_of_ble_eq_true rfl) rfl ?_
              refine r_goto (pc := 235) (off := 58) (tgt := 293) (by decide +kernel) (by decide) ?_
              obtain rfl := Option.some.inj ht138
              refine r_lv [1, 0] rfl ?_
              exact E138_0
            refine r_if_eq (pc := 201) (off := 8) (tgt := 209) (by decide +kernel) (by decide) (fun c201 => ?_) (fun c201 => ?_)
            · have ht201 := ite_t c201 ht201
              refine r_aload_n (pc := 209) 2 (n := 0) (by decide +kernel) rfl rfl ?_
              obtain ⟨g210, q210, ht201⟩ := bnd ht201
              refine r_get (pc := 210) (by decide +kernel) fl_M_109.r (by decide) rfl q210 ?_
              refine r_iload (pc := 213) 3 (by decide +kernel) rfl ?_
              obtain ⟨e215, q215, ht201⟩ := bnd ht201
              refine r_iald (pc := 215) (by decide +kernel) q215 ?_
              refine r_iconst (pc := 216) (z := 1) (by decide +kernel) ⟨by decide, by decide⟩ ?_
              refine r_isub (pc := 217) (by decide +kernel) ?_
              refine r_iload (pc := 218) 0 (by decide +kernel) rfl ?_
              refine r_isub (pc := 220) (by decide +kernel) ?_
              obtain rfl := Option.some.inj ht201
              refine r_lv [2, 3] rfl ?_
              exact E201_0
            · have ht201 := ite_f c201 ht201
              refine r_iload (pc := 204) 0 (by decide +kernel) rfl ?_
              refine r_goto (pc := 206) (off := 15) (tgt := 221) (by decide +kernel) (by decide) ?_
              obtain rfl := Option.some.inj ht201
              refine r_lv [2, 3] rfl ?_
              exact E201_0
          refine r_icmp_ne (pc := 149) (off := 7) (tgt := 156) (by decide +kernel) (by decide) (fun c149 => ?_) (fun c149 => ?_)
          · have ht149 := ite_f c149 ht149
            refine r_iconst (pc := 156) (z := 0) (by decide +kernel) ⟨by decide, by decide⟩ ?_
            obtain rfl := Option.some.inj ht149
            refine r_lv [1, 2, 0] rfl ?_
            exact E149_0
          · have ht149 := ite_t c149 ht149
            refine r_iconst (pc := 152) (z := 1) (by decide +kernel) ⟨by decide, by decide⟩ ?_
            refine r_goto (pc := 153) (off := 4) (tgt := 157) (by decide +kernel) (by decide) ?_
            obtain rfl := Option.some.inj ht149
            refine r_lv [1, 2, 0] rfl ?_
            exact E149_0
      refine r_if_ne (pc := 44) (off := 38) (tgt := 82) (by decide +kernel) (by decide) (fun c44 => ?_) (fun c44 => ?_)
      · have ht44 := ite_f c44 ht44
        refine r_aload_n (pc := 82) 0 (n := 0) (by decide +kernel) rfl rfl ?_
        obtain ⟨g83, q83, ht44⟩ := bnd ht44
        refine r_get (pc := 83) (by decide +kernel) fl_M_118.r (by decide) rfl q83 ?_
        refine r_iload (pc := 86) 1 (by decide +kernel) rfl ?_
        obtain ⟨e88, q88, ht44⟩ := bnd ht44
        refine r_iald (pc := 88) (by decide +kernel) q88 ?_
        refine r_iconst (pc := 89) (z := 1) (by decide +kernel) ⟨by decide, by decide⟩ ?_
        refine r_icmp_ne (pc := 90) (off := 14) (tgt := 104) (by decide +kernel) (by decide) (fun c90 => ?_) (fun c90 => ?_)
        · have ht44 := ite_f c90 ht44
          obtain rfl := Option.some.inj ht44
          exact E44_0
        · have ht44 := ite_t c90 ht44
          refine r_aload_n (pc := 93) 0 (n := 0) (by decide +kernel) rfl rfl ?_
          obtain ⟨g94, q94, ht44⟩ := bnd ht44
          refine r_get (pc := 94) (by decide +kernel) fl_M_121.r (by decide) rfl q94 ?_
          refine r_iload (pc := 97) 1 (by decide +kernel) rfl ?_
          refine r_aload_n (pc := 99) 0 (n := 0) (by decide +kernel) rfl rfl ?_
          obtain ⟨g100, q100, ht44⟩ := bnd ht44
          refine r_get (pc := 100) (by decide +kernel) fl_M_328.r (by decide) rfl q100 ?_
          obtain ⟨m103, q103, ht44⟩ := bnd ht44
          refine r_iast (pc := 103) (by decide +kernel) q103 ?_
          obtain rfl := Option.some.inj ht44
          exact E44_0
      · have ht44 := ite_t c44 ht44
        refine r_aload_n (pc := 47) 0 (n := 0) (by decide +kernel) rfl rfl ?_
        refine r_iload (pc := 48) 1 (by decide +kernel) rfl ?_
        obtain ⟨_, q50c, ht44⟩ := bnd ht44
        obtain ⟨x50, q50, ht44⟩ := bnd ht44
        refine r_callV (pc := 50) (i := 325) (d2 := d - 1) (As := [(0, v4)]) (st := []) (st1 := [(0, v4), (2, v0)]) (by decide +kernel) yk_M_choose (by decide) rfl ⟨ml_M_325, vk_M_choose⟩ np_M_choose rfl (by omega) q50c (c_M_choose (d := d - 1) (by omega) q50) (Nat.le_of_ble_eq_true rfl) (Nat.le_of_ble_eq_true rfl) (Nat.le_of_ble_eq_true rfl) rfl ?_
        show Rn _ d _ _ 0 0 _ 53 [(0, (2, v0)), (4, (0, v4))] [] x50
        refine r_aload_n (pc := 53) 0 (n := 0) (by decide +kernel) rfl rfl ?_
        obtain ⟨g54, q54, ht44⟩ := bnd ht44
        refine r_get (pc := 54) (by decide +kernel) fl_M_13.r (by decide) rfl q54 ?_
        refine r_aload_n (pc := 57) 0 (n := 0) (by decide +kernel) rfl rfl ?_
        obtain ⟨g58, q58, ht44⟩ := bnd ht44
        refine r_get (pc := 58) (by decide +kernel) fl_M_141.r (by decide) rfl q58 ?_
        refine r_aload_n (pc := 61) 0 (n := 0) (by decide +kernel) rfl rfl ?_
        obtain ⟨g62, q62, ht44⟩ := bnd ht44
        refine r_get (pc := 62) (by decide +kernel) fl_M_112.r (by decide) rfl q62 ?_
        refine r_iload (pc := 65) 1 (by decide +kernel) rfl ?_
        obtain ⟨e67, q67, ht44⟩ := bnd ht44
        refine r_iald (pc := 67) (by decide +kernel) q67 ?_
        obtain ⟨m68, q68, ht44⟩ := bnd ht44
        refine r_iast (pc := 68) (by decide +kernel) q68 ?_
        refine r_aload_n (pc := 69) 0 (n := 0) (by decide +kernel) rfl rfl ?_
        refine r_dup (pc := 70) (by decide +kernel) rfl ?_
        obtain ⟨g71, q71, ht44⟩ := bnd ht44
        refine r_get (pc := 71) (by decide +kernel) fl_M_141.r (by decide) rfl q71 ?_
        refine r_iconst (pc := 74) (z := 1) (by decide +kernel) ⟨by decide, by decide⟩ ?_
        refine r_iadd (pc := 75) (by decide +kernel) ?_
        obtain ⟨m76, q76, ht44⟩ := bnd ht44
        refine r_put (pc := 76) (by decide +kernel) fl_M_141 (by decide) (Or.inr nf_9_3) rfl (fun h3 => by cases h3) q76 ?_
        refine r_goto (pc := 79) (off := 25) (tgt := 104) (by decide +kernel) (by decide) ?_
        obtain rfl := Option.some.inj ht44
        exact E44_0
theorem c_M_layTree {d : Nat} (hd : 5 ≤ d) {a0 a1 a2 : Int} {M : Mem} {x : Int × Mem} (h : D_M_layTree a0 a1 a2 M = some x) : Ct d Y_M_layTree [(2, a0), (0, a1), (1, a2)] M (some (0, x.1), x.2) 0 0 := by
  refine ct_of yk_M_layTree (Nat.le_of_ble_eq_true rfl) ?_
  rw [D_M_layTree] at h
  show Rn Y_M_layTree d 0 0 0 0 (some (0, x.1), x.2) 0 [(0, (2, a0)), (1, (0, a1)), (2, (1, a2))] [] M
  refine r_aload_n (pc := 0) 0 (n := 0) (by decide +kernel) rfl rfl ?_
  refine r_lload_n (pc := 1) 2 (n := 2) (by decide +kernel) rfl rfl ?_
  obtain ⟨m2, q2, h⟩ := bnd h
  refine r_put (pc := 2) (by decide +kernel) fl_M_318 (by decide) (Or.inr nf_9_52) rfl (fun h3 => by cases h3) q2 ?_
  refine r_aload_n (pc := 5) 0 (n := 0) (by decide +kernel) rfl rfl ?_
  refine r_iconst (pc := 6) (z := 0) (by decide +kernel) ⟨by decide, by decide⟩ ?_
  obtain ⟨m7, q7, h⟩ := bnd h
  refine r_put (pc := 7) (by decide +kernel) fl_M_141 (by decide) (Or.inr nf_9_3) rfl (fun h3 => by cases h3) q7 ?_
  refine r_iconst (pc := 10) (z := 0) (by decide +kernel) ⟨by decide, by decide⟩ ?_
  refine r_istore (pc := 11) (lv' := [(4, (0, 0)), (0, (2, a0)), (1, (0, a1)), (2, (1, a2))]) (by decide +kernel) (Nat.le_of_ble_eq_true rfl) rfl ?_
  refine r_aload_n (pc := 13) 1 (n := 0) (by decide +kernel) rfl rfl ?_
  obtain ⟨g14, q14, h⟩ := bnd h
  refine r_get (pc := 14) (by decide +kernel) fl_M_109.r (by decide) rfl q14 ?_
  refine r_iconst (pc := 17) (z := 0) (by decide +kernel) ⟨by decide, by decide⟩ ?_
  refine r_iload_n (pc := 18) 2 (n := 1) (by decide +kernel) rfl rfl ?_
  obtain ⟨m19, q19, h⟩ := bnd h
  refine r_iast (pc := 19) (by decide +kernel) q19 ?_
  refine r_aload_n (pc := 20) 1 (n := 0) (by decide +kernel) rfl rfl ?_
  obtain ⟨g21, q21, h⟩ := bnd h
  refine r_get (pc := 21) (by decide +kernel) fl_M_118.r (by decide) rfl q21 ?_
  refine r_iconst (pc := 24) (z := 0) (by decide +kernel) ⟨by decide, by decide⟩ ?_
  refine r_iconst (pc := 25) (z := 0) (by decide +kernel) ⟨by decide, by decide⟩ ?_
  obtain ⟨m26, q26, h⟩ := bnd h
  refine r_iast (pc := 26) (by decide +kernel) q26 ?_
  refine r_aload_n (pc := 27) 1 (n := 0) (by decide +kernel) rfl rfl ?_
  refine r_iconst (pc := 28) (z := 0) (by decide +kernel) ⟨by decide, by decide⟩ ?_
  obtain ⟨_, q29c, h⟩ := bnd h
  obtain ⟨x29, q29, h⟩ := bnd h
  refine r_callV (pc := 29) (i := 322) (d2 := d - 1) (As := [(0, 0)]) (st := []) (st1 := [(0, 0), (2, a0)]) (by decide +kernel) yk_M_layLast (by decide) rfl ⟨ml_M_322, vk_M_layLast⟩ np_M_layLast rfl (by omega) q29c (c_M_layLast (d := d - 1) (by omega) q29) (Nat.le_of_ble_eq_true rfl) (Nat.le_of_ble_eq_true rfl) (Nat.le_of_ble_eq_true rfl) rfl ?_
  show Rn _ d _ _ 0 0 _ 32 [(4, (0, 0)), (0, (2, a0)), (1, (0, a1)), (2, (1, a2))] [] x29
  refine r_lv [1, 0] rfl ?_
  refine sL_M_layTree_32 (by omega) ?_ _ _  _ h
  intro m32 h
  refine r_aload_n (pc := 296) 0 (n := 0) (by decide +kernel) rfl rfl ?_
  obtain ⟨g297, q297, h⟩ := bnd h
  refine r_get (pc := 297) (by decide +kernel) fl_M_141.r (by decide) rfl q297 ?_
  obtain rfl := Option.some.inj h
  exact r_ret (pc := 300) (r := some (0, g297)) (by decide +kernel) rfl trivial (Nat.le_of_ble_eq_true rfl) (Nat.le_of_ble_eq_true rfl)
