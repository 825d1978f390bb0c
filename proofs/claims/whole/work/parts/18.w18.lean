/-! TreeTongues$Row.readBy(LTreeTongues$Machine;)I -/
noncomputable def L_Row_readBy_7 (k : Mem → Option (Int × Mem)) (v0 : Int) (v1 : Int) : Nat → Int → Mem → Option (Int × Mem)
  | 0 => fun _ _ => none
  | n + 1 => fun v2 M => if v2 < 0 then (k  M) else ((ck M v0 4 5).bind fun _ => (D_Row_secondPart v0 v2 M).bind fun x13 => (gf x13.2 v0 4 5 3).bind fun g18 => (gf x13.2 v0 4 5 1).bind fun g24 => (rd x13.2 10 g24 v2).bind fun e28 => (gf x13.2 v0 4 5 4).bind fun g33 => (if g33 ≤ (wr (v2 + 1)) then (some 0) else ((gf x13.2 v0 4 5 3).bind fun g40 => (rd x13.2 10 g40 (wr (v2 + 1))).bind fun e46 => some e46)).bind fun (t36 : Int) => (gf x13.2 v0 4 5 4).bind fun g53 => (if g53 ≤ x13.1 then (some 0) else ((gf x13.2 v0 4 5 3).bind fun g60 => (rd x13.2 10 g60 x13.1).bind fun e64 => some e64)).bind fun (t56 : Int) => (ck x13.2 v1 1 14).bind fun _ => (D_Machine_step v1 e28 t36 t56 x13.2).bind fun x69 => (wt x69.2 10 g18 v2 x69.1).bind fun m72 => L_Row_readBy_7 k v0 v1 n (wr (v2 + (-1))) m72)
noncomputable def D_Row_readBy (a0 a1 : Int) (M : Mem) : Option (Int × Mem) := (gf M a0 4 5 4).bind fun g1 => lt (wr (g1 - 1)) fun u2_6 => L_Row_readBy_7 (fun  m7 => (gf m7 a0 4 5 3).bind fun g80 => (rd m7 10 g80 0).bind fun e84 => some (e84, m7)) a0 a1 FU u2_6 M
theorem sL_Row_readBy_7 {d mc ms : Nat} (hd : 4 ≤ d) {r : Int × Mem} {k : Mem → Option (Int × Mem)} {v0 : Int} {v1 : Int} (hk : ∀ (M : Mem), k M = some r → Rn Y_Row_readBy d mc ms 0 0 (some (0, r.1), r.2) 79 [(0, (2, v0))] [] M) : ∀ (n : Nat) (v2 : Int) (M : Mem), L_Row_readBy_7 k v0 v1 n v2 M = some r → Rn Y_Row_readBy d mc ms 0 0 (some (0, r.1), r.2) 7 [(0, (2, v0)), (1, (2, v1)), (2, (0, v2))] [] M := by
  intro n
  induction n with
  | zero => intro _ _ h; cases h
  | succ n ih =>
    intro v2 M h
    rw [L_Row_readBy_7] at h
    refine r_iload_n (pc := 7) 2 (n := 2) (by decide +kernel) rfl rfl ?_
    refine r_if_lt (pc := 8) (off := 71) (tgt := 79) (by decide +kernel) (by decide) (fun c8 => ?_) (fun c8 => ?_)
    · have h := ite_t c8 h
      refine r_lv [0] rfl ?_
      exact hk  M h
    · have h := ite_f c8 h
      refine r_aload_n (pc := 11) 0 (n := 0) (by decide +kernel) rfl rfl ?_
      refine r_iload_n (pc := 12) 2 (n := 2) (by decide +kernel) rfl rfl ?_
      obtain ⟨_, q13c, h⟩ := bnd h
      obtain ⟨x13, q13, h⟩ := bnd h
      refine r_callV (pc := 13) (i := 38) (d2 := d - 1) (As := [(0, v2)]) (st := []) (st1 := [(0, v2), (2, v0)]) (by decide +kernel) yk_Row_secondPart (by decide) rfl ⟨ml_Row_38, vk_Row_secondPart⟩ np_Row_secondPart rfl (by omega) q13c (c_Row_secondPart (d := d - 1) (by omega) q13) (Nat.le_of_ble_eq_true rfl) (Nat.le_of_ble_eq_true rfl) (Nat.le_of_ble_eq_true rfl) rfl ?_
      show Rn _ d _ _ 0 0 _ 16 [(0, (2, v0)), (1, (2, v1)), (2, (0, v2))] [(0, x13.1)] x13.2
      refine r_istore_n (pc := 16) (n := 3) (lv' := [(3, (0, x13.1)), (0, (2, v0)), (1, (2, v1)), (2, (0, v2))]) (by decide +kernel) rfl (Nat.le_of_ble_eq_true rfl) rfl ?_
      refine r_aload_n (pc := 17) 1 (n := 0) (by decide +kernel) rfl rfl ?_
      obtain ⟨g18, q18, h⟩ := bnd h
      refine r_get (pc := 18) (by decide +kernel) fl_Row_18.r (by decide) rfl q18 ?_
      refine r_iload_n (pc := 21) 3 (n := 2) (by decide +kernel) rfl rfl ?_
      refine r_aload_n (pc := 22) 2 (n := 1) (by decide +kernel) rfl rfl ?_
      refine r_aload_n (pc := 23) 1 (n := 0) (by decide +kernel) rfl rfl ?_
      obtain ⟨g24, q24, h⟩ := bnd h
      refine r_get (pc := 24) (by decide +kernel) fl_Row_9.r (by decide) rfl q24 ?_
      refine r_iload_n (pc := 27) 3 (n := 2) (by decide +kernel) rfl rfl ?_
      obtain ⟨e28, q28, h⟩ := bnd h
      refine r_iald (pc := 28) (by decide +kernel) q28 ?_
      refine r_iload_n (pc := 29) 3 (n := 2) (by decide +kernel) rfl rfl ?_
      refine r_iconst (pc := 30) (z := 1) (by decide +kernel) ⟨by decide, by decide⟩ ?_
      refine r_iadd (pc := 31) (by decide +kernel) ?_
      refine r_aload_n (pc := 32) 1 (n := 0) (by decide +kernel) rfl rfl ?_
      obtain ⟨g33, q33, h⟩ := bnd h
      refine r_get (pc := 33) (by decide +kernel) fl_Row_21.r (by decide) rfl q33 ?_
      obtain ⟨t36, ht36, h⟩ := bnd h
      have E36_0 : Rn Y_Row_readBy d mc ms 0 0 (some (0, r.1), r.2) 51 [(0, (2, v0)), (1, (2, v1)), (2, (0, v2)), (3, (0, x13.1))] [(0, t36), (0, e28), (2, v1), (0, v2), (2, g18)] x13.2 := by
        refine r_iload_n (pc := 51) 3 (n := 3) (by decide +kernel) rfl rfl ?_
        refine r_aload_n (pc := 52) 0 (n := 0) (by decide +kernel) rfl rfl ?_
        obtain ⟨g53, q53, h⟩ := bnd h
        refine r_get (pc := 53) (by decide +kernel) fl_Row_21.r (by decide) rfl q53 ?_
        obtain ⟨t56, ht56, h⟩ := bnd h
        have E56_0 : Rn Y_Row_readBy d mc ms 0 0 (some (0, r.1), r.2) 69 [(0, (2, v0)), (1, (2, v1)), (2, (0, v2))] [(0, t56), (0, t36), (0, e28), (2, v1), (0, v2), (2, g18)] x13.2 := by
          obtain ⟨_, q69c, h⟩ := bnd h
          obtain ⟨x69, q69, h⟩ := bnd h
          refine r_callV (pc := 69) (i := 41) (d2 := d - 1) (As := [(0, e28), (0, t36), (0, t56)]) (st := [(0, v2), (2, g18)]) (st1 := [(0, t56), (0, t36), (0, e28), (2, v1), (0, v2), (2, g18)]) (by decide +kernel) yk_Machine_step (by decide) rfl ⟨ml_Row_41, vk_Machine_step⟩ np_Machine_step rfl (by omega) q69c (c_Machine_step (d := d - 1) (by omega) q69) (Nat.le_of_ble_eq_true rfl) (Nat.le_of_ble_eq_true rfl) (Nat.le_of_ble_eq_true rfl) rfl ?_
          show Rn _ d _ _ 0 0 _ 72 [(0, (2, v0)), (1, (2, v1)), (2, (0, v2))] [(0, x69.1), (0, v2), (2, g18)] x69.2
          obtain ⟨m72, q72, h⟩ := bnd h
          refine r_iast (pc := 72) (by decide +kernel) q72 ?_
          refine r_iinc (pc := 73) 2 (n := (-1)) (lv' := [(2, (0, wr (v2 + (-1)))), (0, (2, v0)), (1, (2, v1))]) (by decide +kernel) rfl (Nat.le_of_ble_eq_true rfl) rfl ?_
          refine r_goto (pc := 76) (off := (-69)) (tgt := 7) (by decide +kernel) (by decide) ?_
          refine r_lv [1, 2, 0] rfl ?_
          exact ih (wr (v2 + (-1))) m72 h
        refine r_icmp_ge (pc := 56) (off := 12) (tgt := 68) (by decide +kernel) (by decide) (fun c56 => ?_) (fun c56 => ?_)
        · have ht56 := ite_t c56 ht56
          refine r_iconst (pc := 68) (z := 0) (by decide +kernel) ⟨by decide, by decide⟩ ?_
          obtain rfl := Option.some.inj ht56
          refine r_lv [0, 1, 2] rfl ?_
          exact E56_0
        · have ht56 := ite_f c56 ht56
          refine r_aload_n (pc := 59) 0 (n := 0) (by decide +kernel) rfl rfl ?_
          obtain ⟨g60, q60, ht56⟩ := bnd ht56
          refine r_get (pc := 60) (by decide +kernel) fl_Row_18.r (by decide) rfl q60 ?_
          refine r_iload_n (pc := 63) 3 (n := 3) (by decide +kernel) rfl rfl ?_
          obtain ⟨e64, q64, ht56⟩ := bnd ht56
          refine r_iald (pc := 64) (by decide +kernel) q64 ?_
          refine r_goto (pc := 65) (off := 4) (tgt := 69) (by decide +kernel) (by decide) ?_
          obtain rfl := Option.some.inj ht56
          refine r_lv [0, 1, 2] rfl ?_
          exact E56_0
      refine r_icmp_ge (pc := 36) (off := 14) (tgt := 50) (by decide +kernel) (by decide) (fun c36 => ?_) (fun c36 => ?_)
      · have ht36 := ite_t c36 ht36
        refine r_iconst (pc := 50) (z := 0) (by decide +kernel) ⟨by decide, by decide⟩ ?_
        obtain rfl := Option.some.inj ht36
        refine r_lv [1, 2, 3, 0] rfl ?_
        exact E36_0
      · have ht36 := ite_f c36 ht36
        refine r_aload_n (pc := 39) 1 (n := 0) (by decide +kernel) rfl rfl ?_
        obtain ⟨g40, q40, ht36⟩ := bnd ht36
        refine r_get (pc := 40) (by decide +kernel) fl_Row_18.r (by decide) rfl q40 ?_
        refine r_iload_n (pc := 43) 3 (n := 2) (by decide +kernel) rfl rfl ?_
        refine r_iconst (pc := 44) (z := 1) (by decide +kernel) ⟨by decide, by decide⟩ ?_
        refine r_iadd (pc := 45) (by decide +kernel) ?_
        obtain ⟨e46, q46, ht36⟩ := bnd ht36
        refine r_iald (pc := 46) (by decide +kernel) q46 ?_
        refine r_goto (pc := 47) (off := 4) (tgt := 51) (by decide +kernel) (by decide) ?_
        obtain rfl := Option.some.inj ht36
        refine r_lv [1, 2, 3, 0] rfl ?_
        exact E36_0
theorem c_Row_readBy {d : Nat} (hd : 4 ≤ d) {a0 a1 : Int} {M : Mem} {x : Int × Mem} (h : D_Row_readBy a0 a1 M = some x) : Ct d Y_Row_readBy [(2, a0), (2, a1)] M (some (0, x.1), x.2) 0 0 := by
  refine ct_of yk_Row_readBy (Nat.le_of_ble_eq_true rfl) ?_
  rw [D_Row_readBy] at h
  show Rn Y_Row_readBy d 0 0 0 0 (some (0, x.1), x.2) 0 [(0, (2, a0)), (1, (2, a1))] [] M
  refine r_aload_n (pc := 0) 0 (n := 0) (by decide +kernel) rfl rfl ?_
  obtain ⟨g1, q1, h⟩ := bnd h
  refine r_get (pc := 1) (by decide +kernel) fl_Row_21.r (by decide) rfl q1 ?_
  refine r_iconst (pc := 4) (z := 1) (by decide +kernel) ⟨by decide, by decide⟩ ?_
  refine r_isub (pc := 5) (by decide +kernel) ?_
  obtain ⟨u2_6, q6, h⟩ := lt_o h
  refine r_eq q6 ?_
  refine r_istore_n (pc := 6) (n := 2) (lv' := [(2, (0, u2_6)), (0, (2, a0)), (1, (2, a1))]) (by decide +kernel) rfl (Nat.le_of_ble_eq_true rfl) rfl ?_
  refine r_lv [1, 2, 0] rfl ?_
  refine sL_Row_readBy_7 (by omega) ?_ _ _  _ h
  intro m7 h
  refine r_aload_n (pc := 79) 0 (n := 0) (by decide +kernel) rfl rfl ?_
  obtain ⟨g80, q80, h⟩ := bnd h
  refine r_get (pc := 80) (by decide +kernel) fl_Row_18.r (by decide) rfl q80 ?_
  refine r_iconst (pc := 83) (z := 0) (by decide +kernel) ⟨by decide, by decide⟩ ?_
  obtain ⟨e84, q84, h⟩ := bnd h
  refine r_iald (pc := 84) (by decide +kernel) q84 ?_
  obtain rfl := Option.some.inj h
  exact r_ret (pc := 85) (r := some (0, e84)) (by decide +kernel) rfl trivial (Nat.le_of_ble_eq_true rfl) (Nat.le_of_ble_eq_true rfl)

/-! TreeTongues.classOf(I)I -/
noncomputable def D_T_classOf (a0 a1 : Int) (M : Mem) : Option (Int × Mem) := (ck M a0 8 8).bind fun _ => (D_T_find a0 a1 M).bind fun x2 => if x2.1 < 0 then (some ((-2), x2.2)) else ((gf x2.2 a0 8 8 1).bind fun g14 => (ck x2.2 g14 4 5).bind fun _ => (D_Row_isTree g14 x2.2).bind fun x17 => if x17.1 = 0 then (some ((-3), x17.2)) else ((ck x17.2 a0 8 8).bind fun _ => (D_T_isLarge a0 x2.1 x17.2).bind fun x28 => if x28.1 = 0 then ((gf x28.2 a0 8 8 1).bind fun g40 => (gf x28.2 x2.1 7 8 1).bind fun g44 => (ck x28.2 g40 4 5).bind fun _ => (D_Row_readBy g40 g44 x28.2).bind fun x47 => some (x47.1, x47.2)) else (some ((-5), x28.2))))
theorem c_T_classOf {d : Nat} (hd : 8 ≤ d) {a0 a1 : Int} {M : Mem} {x : Int × Mem} (h : D_T_classOf a0 a1 M = some x) : Ct d Y_T_classOf [(2, a0), (0, a1)] M (some (0, x.1), x.2) 0 0 := by
  refine ct_of yk_T_classOf (Nat.le_of_ble_eq_true rfl) ?_
  rw [D_T_classOf] at h
  show Rn Y_T_classOf d 0 0 0 0 (some (0, x.1), x.2) 0 [(0, (2, a0)), (1, (0, a1))] [] M
  refine r_aload_n (pc := 0) 0 (n := 0) (by decide +kernel) rfl rfl ?_
  refine r_iload_n (pc := 1) 1 (n := 1) (by decide +kernel) rfl rfl ?_
  obtain ⟨_, q2c, h⟩ := bnd h
  obtain ⟨x2, q2, h⟩ := bnd h
  refine r_callV (pc := 2) (i := 98) (d2 := d - 1) (As := [(0, a1)]) (st := []) (st1 := [(0, a1), (2, a0)]) (by decide +kernel) yk_T_find (by decide) rfl ⟨ml_T_98, vk_T_find⟩ np_T_find rfl (by omega) q2c (c_T_find (d := d - 1) (by omega) q2) (Nat.le_of_ble_eq_true rfl) (Nat.le_of_ble_eq_true rfl) (Nat.le_of_ble_eq_true rfl) rfl ?_
  show Rn _ d _ _ 0 0 _ 5 [(0, (2, a0)), (1, (0, a1))] [(2, x2.1)] x2.2
  refine r_astore_n (pc := 5) (n := 2) (lv' := [(2, (2, x2.1)), (0, (2, a0)), (1, (0, a1))]) (by decide +kernel) rfl (Nat.le_of_ble_eq_true rfl) rfl ?_
  refine r_aload_n (pc := 6) 0 (n := 2) (by decide +kernel) rfl rfl ?_
  refine r_ifnonnull (pc := 7) (off := 6) (tgt := 13) (by decide +kernel) (by decide) (fun c7 => ?_) (fun c7 => ?_)
  · have h := ite_f c7 h
    refine r_aload_n (pc := 13) 1 (n := 0) (by decide +kernel) rfl rfl ?_
    obtain ⟨g14, q14, h⟩ := bnd h
    refine r_get (pc := 14) (by decide +kernel) fl_T_21.r (by decide) rfl q14 ?_
    obtain ⟨_, q17c, h⟩ := bnd h
    obtain ⟨x17, q17, h⟩ := bnd h
    refine r_callV (pc := 17) (i := 181) (d2 := d - 1) (As := []) (st := []) (st1 := [(2, g14)]) (by decide +kernel) yk_Row_isTree (by decide) rfl ⟨ml_T_181, vk_Row_isTree⟩ np_Row_isTree rfl (by omega) q17c (c_Row_isTree (d := d - 1) (by omega) q17) (Nat.le_of_ble_eq_true rfl) (Nat.le_of_ble_eq_true rfl) (Nat.le_of_ble_eq_true rfl) rfl ?_
    show Rn _ d _ _ 0 0 _ 20 [(2, (2, x2.1)), (0, (2, a0)), (1, (0, a1))] [(0, x17.1)] x17.2
    refine r_if_ne (pc := 20) (off := 6) (tgt := 26) (by decide +kernel) (by decide) (fun c20 => ?_) (fun c20 => ?_)
    · have h := ite_f c20 h
      refine r_aload_n (pc := 26) 1 (n := 0) (by decide +kernel) rfl rfl ?_
      refine r_aload_n (pc := 27) 0 (n := 2) (by decide +kernel) rfl rfl ?_
      obtain ⟨_, q28c, h⟩ := bnd h
      obtain ⟨x28, q28, h⟩ := bnd h
      refine r_callV (pc := 28) (i := 122) (d2 := d - 1) (As := [(2, x2.1)]) (st := []) (st1 := [(2, x2.1), (2, a0)]) (by decide +kernel) yk_T_isLarge (by decide) rfl ⟨ml_T_122, vk_T_isLarge⟩ np_T_isLarge rfl (by omega) q28c (c_T_isLarge (d := d - 1) (by omega) q28) (Nat.le_of_ble_eq_true rfl) (Nat.le_of_ble_eq_true rfl) (Nat.le_of_ble_eq_true rfl) rfl ?_
      show Rn _ d _ _ 0 0 _ 31 [(2, (2, x2.1)), (0, (2, a0)), (1, (0, a1))] [(0, x28.1)] x28.2
      refine r_if_eq (pc := 31) (off := 8) (tgt := 39) (by decide +kernel) (by decide) (fun c31 => ?_) (fun c31 => ?_)
      · have h := ite_t c31 h
        refine r_aload_n (pc := 39) 1 (n := 0) (by decide +kernel) rfl rfl ?_
        obtain ⟨g40, q40, h⟩ := bnd h
        refine r_get (pc := 40) (by decide +kernel) fl_T_21.r (by decide) rfl q40 ?_
        refine r_aload_n (pc := 43) 0 (n := 2) (by decide +kernel) rfl rfl ?_
        obtain ⟨g44, q44, h⟩ := bnd h
        refine r_get (pc := 44) (by decide +kernel) fl_T_126 (by decide) rfl q44 ?_
        obtain ⟨_, q47c, h⟩ := bnd h
        obtain ⟨x47, q47, h⟩ := bnd h
        refine r_callV (pc := 47) (i := 185) (d2 := d - 1) (As := [(2, g44)]) (st := []) (st1 := [(2, g44), (2, g40)]) (by decide +kernel) yk_Row_readBy (by decide) rfl ⟨ml_T_185, vk_Row_readBy⟩ np_Row_readBy rfl (by omega) q47c (c_Row_readBy (d := d - 1) (by omega) q47) (Nat.le_of_ble_eq_true rfl) (Nat.le_of_ble_eq_true rfl) (Nat.le_of_ble_eq_true rfl) rfl ?_
        show Rn _ d _ _ 0 0 _ 50 [(2, (2, x2.1)), (0, (2, a0)), (1, (0, a1))] [(0, x47.1)] x47.2
        obtain rfl := Option.some.inj h
        exact r_ret (pc := 50) (r := some (0, x47.1)) (by decide +kernel) rfl trivial (Nat.le_of_ble_eq_true rfl) (Nat.le_of_ble_eq_true rfl)
      · have h := ite_f c31 h
        refine r_bipush (pc := 34) (z := (-5)) (by decide +kernel) ⟨by decide, by decide⟩ ?_
        refine r_goto (pc := 36) (off := 14) (tgt := 50) (by decide +kernel) (by decide) ?_
        obtain rfl := Option.some.inj h
        exact r_ret (pc := 50) (r := some (0, (-5))) (by decide +kernel) rfl trivial (Nat.le_of_ble_eq_true rfl) (Nat.le_of_ble_eq_true rfl)
    · have h := ite_t c20 h
      refine r_bipush (pc := 23) (z := (-3)) (by decide +kernel) ⟨by decide, by decide⟩ ?_
      obtain rfl := Option.some.inj h
      exact r_ret (pc := 25) (r := some (0, (-3))) (by decide +kernel) rfl trivial (Nat.le_of_ble_eq_true rfl) (Nat.le_of_ble_eq_true rfl)
  · have h := ite_t c7 h
    refine r_bipush (pc := 10) (z := (-2)) (by decide +kernel) ⟨by decide, by decide⟩ ?_
    obtain rfl := Option.some.inj h
    exact r_ret (pc := 12) (r := some (0, (-2))) (by decide +kernel) rfl trivial (Nat.le_of_ble_eq_true rfl) (Nat.le_of_ble_eq_true rfl)

/-! TreeTongues.has(I)I -/
noncomputable def D_T_has (a0 a1 : Int) (M : Mem) : Option (Int × Mem) := (ck M a0 8 8).bind fun _ => (D_T_find a0 a1 M).bind fun x2 => if x2.1 < 0 then (some ((-2), x2.2)) else ((gf x2.2 a0 8 8 1).bind fun g14 => (ck x2.2 g14 4 5).bind fun _ => (D_Row_isTree g14 x2.2).bind fun x17 => if x17.1 = 0 then (some ((-3), x17.2)) else ((ck x17.2 a0 8 8).bind fun _ => (D_T_isLarge a0 x2.1 x17.2).bind fun x28 => if x28.1 = 0 then ((gf x28.2 x2.1 7 8 1).bind fun g40 => (gf x28.2 a0 8 8 1).bind fun g44 => (gf x28.2 x2.1 7 8 1).bind fun g48 => (ck x28.2 g44 4 5).bind fun _ => (D_Row_readBy g44 g48 x28.2).bind fun x51 => (ck x51.2 g40 1 14).bind fun _ => (D_Machine_finalBit g40 x51.1 x51.2).bind fun x54 => some (x54.1, x54.2)) else (some ((-5), x28.2))))
theorem c_T_has {d : Nat} (hd : 8 ≤ d) {a0 a1 : Int} {M : Mem} {x : Int × Mem} (h : D_T_has a0 a1 M = some x) : Ct d Y_T_has [(2, a0), (0, a1)] M (some (0, x.1), x.2) 0 0 := by
  refine ct_of yk_T_has (Nat.le_of_ble_eq_true rfl) ?_
  rw [D_T_has] at h
  show Rn Y_T_has d 0 0 0 0 (some (0, x.1), x.2) 0 [(0, (2, a0)), (1, (0, a1))] [] M
  refine r_aload_n (pc := 0) 0 (n := 0) (by decide +kernel) rfl rfl ?_
  refine r_iload_n (pc := 1) 1 (n := 1) (by decide +kernel) rfl rfl ?_
  obtain ⟨_, q2c, h⟩ := bnd h
  obtain ⟨x2, q2, h⟩ := bnd h
  refine r_callV (pc := 2) (i := 98) (d2 := d - 1) (As := [(0, a1)]) (st := []) (st1 := [(0, a1), (2, a0)]) (by decide +kernel) yk_T_find (by decide) rfl ⟨ml_T_98, vk_T_find⟩ np_T_find rfl (by omega) q2c (c_T_find (d := d - 1) (by omega) q2) (Nat.le_of_ble_eq_true rfl) (Nat.le_of_ble_eq_true rfl) (Nat.le_of_ble_eq_true rfl) rfl ?_
  show Rn _ d _ _ 0 0 _ 5 [(0, (2, a0)), (1, (0, a1))] [(2, x2.1)] x2.2
  refine r_astore_n (pc := 5) (n := 2) (lv' := [(2, (2, x2.1)), (0, (2, a0)), (1, (0, a1))]) (by decide +kernel) rfl (Nat.le_of_ble_eq_true rfl) rfl ?_
  refine r_aload_n (pc := 6) 0 (n := 2) (by decide +kernel) rfl rfl ?_
  refine r_ifnonnull (pc := 7) (off := 6) (tgt := 13) (by decide +kernel) (by decide) (fun c7 => ?_) (fun c7 => ?_)
  · have h := ite_f c7 h
    refine r_aload_n (pc := 13) 1 (n := 0) (by decide +kernel) rfl rfl ?_
    obtain ⟨g14, q14, h⟩ := bnd h
    refine r_get (pc := 14) (by decide +kernel) fl_T_21.r (by decide) rfl q14 ?_
    obtain ⟨_, q17c, h⟩ := bnd h
    obtain ⟨x17, q17, h⟩ := bnd h
    refine r_callV (pc := 17) (i := 181) (d2 := d - 1) (As := []) (st := []) (st1 := [(2, g14)]) (by decide +kernel) yk_Row_isTree (by decide) rfl ⟨ml_T_181, vk_Row_isTree⟩ np_Row_isTree rfl (by omega) q17c (c_Row_isTree (d := d - 1) (by omega) q17) (Nat.le_of_ble_eq_true rfl) (Nat.le_of_ble_eq_true rfl) (Nat.le_of_ble_eq_true rfl) rfl ?_
    show Rn _ d _ _ 0 0 _ 20 [(2, (2, x2.1)), (0, (2, a0)), (1, (0, a1))] [(0, x17.1)] x17.2
    refine r_if_ne (pc := 20) (off := 6) (tgt := 26) (by decide +kernel) (by decide) (fun c20 => ?_) (fun c20 => ?_)
    · have h := ite_f c20 h
      refine r_aload_n (pc := 26) 1 (n := 0) (by decide +kernel) rfl rfl ?_
      refine r_aload_n (pc := 27) 0 (n := 2) (by decide +kernel) rfl rfl ?_
      obtain ⟨_, q28c, h⟩ := bnd h
      obtain ⟨x28, q28, h⟩ := bnd h
      refine r_callV (pc := 28) (i := 122) (d2 := d - 1) (As := [(2, x2.1)]) (st := []) (st1 := [(2, x2.1), (2, a0)]) (by decide +kernel) yk_T_isLarge (by decide) rfl ⟨ml_T_122, vk_T_isLarge⟩ np_T_isLarge rfl (by omega) q28c (c_T_isLarge (d := d - 1) (by omega) q28) (Nat.le_of_ble_eq_true rfl) (Nat.le_of_ble_eq_true rfl) (Nat.le_of_ble_eq_true rfl) rfl ?_
      show Rn _ d _ _ 0 0 _ 31 [(2, (2, x2.1)), (0, (2, a0)), (1, (0, a1))] [(0, x28.1)] x28.2
      refine r_if_eq (pc := 31) (off := 8) (tgt := 39) (by decide +kernel) (by decide) (fun c31 => ?_) (fun c31 => ?_)
      · have h := ite_t c31 h
        refine r_aload_n (pc := 39) 0 (n := 2) (by decide +kernel) rfl rfl ?_
        obtain ⟨g40, q40, h⟩ := bnd h
        refine r_get (pc := 40) (by decide +kernel) fl_T_126 (by decide) rfl q40 ?_
        refine r_aload_n (pc := 43) 1 (n := 0) (by decide +kernel) rfl rfl ?_
        obtain ⟨g44, q44, h⟩ := bnd h
        refine r_get (pc := 44) (by decide +kernel) fl_T_21.r (by decide) rfl q44 ?_
        refine r_aload_n (pc := 47) 0 (n := 2) (by decide +kernel) rfl rfl ?_
        obtain ⟨g48, q48, h⟩ := bnd h
        refine r_get (pc := 48) (by decide +kernel) fl_T_126 (by decide) rfl q48 ?_
        obtain ⟨_, q51c, h⟩ := bnd h
        obtain ⟨x51, q51, h⟩ := bnd h
        refine r_callV (pc := 51) (i := 185) (d2 := d - 1) (As := [(2, g48)]) (st := [(2, g40)]) (st1 := [(2, g48), (2, g44), (2, g40)]) (by decide +kernel) yk_Row_readBy (by decide) rfl ⟨ml_T_185, vk_Row_readBy⟩ np_Row_readBy rfl (by omega) q51c (c_Row_readBy (d := d - 1) (by omega) q51) (Nat.le_of_ble_eq_true rfl) (Nat.le_of_ble_eq_true rfl) (Nat.le_of_ble_eq_true rfl) rfl ?_
        show Rn _ d _ _ 0 0 _ 54 [(2, (2, x2.1)), (0, (2, a0)), (1, (0, a1))] [(0, x51.1), (2, g40)] x51.2
        obtain ⟨_, q54c, h⟩ := bnd h
        obtain ⟨x54, q54, h⟩ := bnd h
        refine r_callV (pc := 54) (i := 175) (d2 := d - 1) (As := [(0, x51.1)]) (st := []) (st1 := [(0, x51.1), (2, g40)]) (by decide +kernel) yk_Machine_finalBit (by decide) rfl ⟨ml_T_175, vk_Machine_finalBit⟩ np_Machine_finalBit rfl (by omega) q54c (c_Machine_finalBit (d := d - 1) (by omega) q54) (Nat.le_of_ble_eq_true rfl) (Nat.le_of_ble_eq_true rfl) (Nat.le_of_ble_eq_true rfl) rfl ?_
        show Rn _ d _ _ 0 0 _ 57 [(2, (2, x2.1)), (0, (2, a0)), (1, (0, a1))] [(0, x54.1)] x54.2
        obtain rfl := Option.some.inj h
        exact r_ret (pc := 57) (r := some (0, x54.1)) (by decide +kernel) rfl trivial (Nat.le_of_ble_eq_true rfl) (Nat.le_of_ble_eq_true rfl)
      · have h := ite_f c31 h
        refine r_bipush (pc := 34) (z := (-5)) (by decide +kernel) ⟨by decide, by decide⟩ ?_
        refine r_goto (pc := 36) (off := 21) (tgt := 57) (by decide +kernel) (by decide) ?_
        obtain rfl := Option.some.inj h
        exact r_ret (pc := 57) (r := some (0, (-5))) (by decide +kernel) rfl trivial (Nat.le_of_ble_eq_true rfl) (Nat.le_of_ble_eq_true rfl)
    · have h := ite_t c20 h
      refine r_bipush (pc := 23) (z := (-3)) (by decide +kernel) ⟨by decide, by decide⟩ ?_
      obtain rfl := Option.some.inj h
      exact r_ret (pc := 25) (r := some (0, (-3))) (by decide +kernel) rfl trivial (Nat.le_of_ble_eq_true rfl) (Nat.le_of_ble_eq_true rfl)
  · have h := ite_t c7 h
    refine r_bipush (pc := 10) (z := (-2)) (by decide +kernel) ⟨by decide, by decide⟩ ?_
    obtain rfl := Option.some.inj h
    exact r_ret (pc := 12) (r := some (0, (-2))) (by decide +kernel) rfl trivial (Nat.le_of_ble_eq_true rfl) (Nat.le_of_ble_eq_true rfl)

/-! TreeTongues$Row.addFirstTree(LTreeTongues$Machine;II)V -/
noncomputable def B_Row_addFirstTree (w : Int → Int → Int → Int → Mem → Option (Mem)) (a0 a1 a2 a3 : Int) (M : Mem) : Option (Mem) := (ck M a1 1 14).bind fun _ => (D_Machine_hasClass a1 a2 M).bind fun x2 => if x2.1 = 0 then (some x2.2) else (if a3 < 6 then ((gf x2.2 a1 1 14 2).bind fun g16 => (rd x2.2 10 g16 a2).bind fun e20 => (ck x2.2 a0 4 5).bind fun _ => (D_Row_add a0 e20 x2.2).bind fun x26 => (gf x26 a0 4 5 0).bind fun g30 => (ck x26 g30 5 3).bind fun _ => (D_Signs_rankOf g30 e20 x26).bind fun x35 => (if x35.1 ≤ 0 then (some x35.2) else ((gf x35.2 a1 1 14 3).bind fun g44 => (rd x35.2 10 g44 a2).bind fun e48 => (ck x35.2 a0 4 5).bind fun _ => (w a0 a1 e48 (wr (a3 + 1)) x35.2).bind fun x52 => some x52)).bind fun (t38 : Mem) => (gf t38 a0 4 5 0).bind fun g56 => (ck t38 g56 5 3).bind fun _ => (D_Signs_rankOf g56 e20 t38).bind fun x61 => if x61.1 ≤ 1 then (some x61.2) else ((gf x61.2 a1 1 14 4).bind fun g71 => (rd x61.2 10 g71 a2).bind fun e75 => (ck x61.2 a0 4 5).bind fun _ => (w a0 a1 e75 (wr (a3 + 1)) x61.2).bind fun x79 => some x79)) else (some x2.2))
theorem cb_Row_addFirstTree {d : Nat} (hd : 2 ≤ d) {w : Int → Int → Int → Int → Mem → Option (Mem)} (hw : ∀ {a0 a1 a2 a3 : Int} {M : Mem} {x : Mem}, w a0 a1 a2 a3 M = some x → Ct (d - 1) Y_Row_addFirstTree [(2, a0), (2, a1), (0, a2), (0, a3)] M (none, x) 0 0) {a0 a1 a2 a3 : Int} {M : Mem} {x : Mem} (h : B_Row_addFirstTree w a0 a1 a2 a3 M = some x) : Ct d Y_Row_addFirstTree [(2, a0), (2, a1), (0, a2), (0, a3)] M (none, x) 0 0 := by
  refine ct_of yk_Row_addFirstTree (Nat.le_of_ble_eq_true rfl) ?_
  rw [B_Row_addFirstTree] at h
  show Rn Y_Row_addFirstTree d 0 0 0 0 (none, x) 0 [(0, (2, a0)), (1, (2, a1)), (2, (0, a2)), (3, (0, a3))] [] M
  refine r_aload_n (pc := 0) 1 (n := 1) (by decide +kernel) rfl rfl ?_
  refine r_iload_n (pc := 1) 2 (n := 2) (by decide +kernel) rfl rfl ?_
  obtain ⟨_, q2c, h⟩ := bnd h
  obtain ⟨x2, q2, h⟩ := bnd h
  refine r_callV (pc := 2) (i := 51) (d2 := d - 1) (As := [(0, a2)]) (st := []) (st1 := [(0, a2), (2, a1)]) (by decide +kernel) yk_Machine_hasClass (by decide) rfl ⟨ml_Row_51, vk_Machine_hasClass⟩ np_Machine_hasClass rfl (by omega) q2c (c_Machine_hasClass (d := d - 1) (by omega) q2) (Nat.le_of_ble_eq_true rfl) (Nat.le_of_ble_eq_true rfl) (Nat.le_of_ble_eq_true rfl) rfl ?_
  show Rn _ d _ _ 0 0 _ 5 [(0, (2, a0)), (1, (2, a1)), (2, (0, a2)), (3, (0, a3))] [(0, x2.1)] x2.2
  refine r_if_eq (pc := 5) (off := 9) (tgt := 14) (by decide +kernel) (by decide) (fun c5 => ?_) (fun c5 => ?_)
  · have h := ite_t c5 h
    obtain rfl := Option.some.inj h
    exact r_ret (pc := 14) (r := none) (by decide +kernel) rfl trivial (Nat.le_of_ble_eq_true rfl) (Nat.le_of_ble_eq_true rfl)
  · have h := ite_f c5 h
    refine r_iload_n (pc := 8) 3 (n := 3) (by decide +kernel) rfl rfl ?_
    refine r_bipush (pc := 9) (z := 6) (by decide +kernel) ⟨by decide, by decide⟩ ?_
    refine r_icmp_lt (pc := 11) (off := 4) (tgt := 15) (by decide +kernel) (by decide) (fun c11 => ?_) (fun c11 => ?_)
    · have h := ite_t c11 h
      refine r_aload_n (pc := 15) 1 (n := 1) (by decide +kernel) rfl rfl ?_
      obtain ⟨g16, q16, h⟩ := bnd h
      refine r_get (pc := 16) (by decide +kernel) fl_Row_55 (by decide) rfl q16 ?_
      refine r_iload_n (pc := 19) 2 (n := 2) (by decide +kernel) rfl rfl ?_
      obtain ⟨e20, q20, h⟩ := bnd h
      refine r_iald (pc := 20) (by decide +kernel) q20 ?_
      refine r_istore (pc := 21) (lv' := [(4, (0, e20)), (0, (2, a0)), (1, (2, a1)), (2, (0, a2)), (3, (0, a3))]) (by decide +kernel) (Nat.le_of_ble_eq_true rfl) rfl ?_
      refine r_aload_n (pc := 23) 1 (n := 0) (by decide +kernel) rfl rfl ?_
      refine r_iload (pc := 24) 0 (by decide +kernel) rfl ?_
      obtain ⟨_, q26c, h⟩ := bnd h
      obtain ⟨x26, q26, h⟩ := bnd h
      refine r_callV (pc := 26) (i := 58) (d2 := d - 1) (As := [(0, e20)]) (st := []) (st1 := [(0, e20), (2, a0)]) (by decide +kernel) yk_Row_add (by decide) rfl ⟨ml_Row_58, vk_Row_add⟩ np_Row_add rfl (by omega) q26c (c_Row_add (d := d - 1) (by omega) q26) (Nat.le_of_ble_eq_true rfl) (Nat.le_of_ble_eq_true rfl) (Nat.le_of_ble_eq_true rfl) rfl ?_
      show Rn _ d _ _ 0 0 _ 29 [(4, (0, e20)), (0, (2, a0)), (1, (2, a1)), (2, (0, a2)), (3, (0, a3))] [] x26
      refine r_aload_n (pc := 29) 1 (n := 0) (by decide +kernel) rfl rfl ?_
      obtain ⟨g30, q30, h⟩ := bnd h
      refine r_get (pc := 30) (by decide +kernel) fl_Row_25.r (by decide) rfl q30 ?_
      refine r_iload (pc := 33) 0 (by decide +kernel) rfl ?_
      obtain ⟨_, q35c, h⟩ := bnd h
      obtain ⟨x35, q35, h⟩ := bnd h
      refine r_callV (pc := 35) (i := 33) (d2 := d - 1) (As := [(0, e20)]) (st := []) (st1 := [(0, e20), (2, g30)]) (by decide +kernel) yk_Signs_rankOf (by decide) rfl ⟨ml_Row_33, vk_Signs_rankOf⟩ np_Signs_rankOf rfl (by omega) q35c (c_Signs_rankOf (d := d - 1) (by omega) q35) (Nat.le_of_ble_eq_true rfl) (Nat.le_of_ble_eq_true rfl) (Nat.le_of_ble_eq_true rfl) rfl ?_
      show Rn _ d _ _ 0 0 _ 38 [(4, (0, e20)), (0, (2, a0)), (1, (2, a1)), (2, (0, a2)), (3, (0, a3))] [(0, x35.1)] x35.2
      obtain ⟨t38, ht38, h⟩ := bnd h
      have E38_0 : Rn Y_Row_addFirstTree d 0 0 0 0 (none, x) 55 [(0, (2, a0)), (1, (2, a1)), (2, (0, a2)), (3, (0, a3)), (4, (0, e20))] [] t38 := by
        refine r_aload_n (pc := 55) 0 (n := 0) (by decide +kernel) rfl rfl ?_
        obtain ⟨g56, q56, h⟩ := bnd h
        refine r_get (pc := 56) (by decide +kernel) fl_Row_25.r (by decide) rfl q56 ?_
        refine r_iload (pc := 59) 4 (by decide +kernel) rfl ?_
        obtain ⟨_, q61c, h⟩ := bnd h
        obtain ⟨x61, q61, h⟩ := bnd h
        refine r_callV (pc := 61) (i := 33) (d2 := d - 1) (As := [(0, e20)]) (st := []) (st1 := [(0, e20), (2, g56)]) (by decide +kernel) yk_Signs_rankOf (by decide) rfl ⟨ml_Row_33, vk_Signs_rankOf⟩ np_Signs_rankOf rfl (by omega) q61c (c_Signs_rankOf (d := d - 1) (by omega) q61) (Nat.le_of_ble_eq_true rfl) (Nat.le_of_ble_eq_true rfl) (Nat.le_of_ble_eq_true rfl) rfl ?_
        show Rn _ d _ _ 0 0 _ 64 [(0, (2, a0)), (1, (2, a1)), (2, (0, a2)), (3, (0, a3)), (4, (0, e20))] [(0, x61.1)] x61.2
        refine r_iconst (pc := 64) (z := 1) (by decide +kernel) ⟨by decide, by decide⟩ ?_
        refine r_icmp_le (pc := 65) (off := 17) (tgt := 82) (by decide +kernel) (by decide) (fun c65 => ?_) (fun c65 => ?_)
        · have h := ite_t c65 h
          obtain rfl := Option.some.inj h
          exact r_ret (pc := 82) (r := none) (by decide +kernel) rfl trivial (Nat.le_of_ble_eq_true rfl) (Nat.le_of_ble_eq_true rfl)
        · have h := ite_f c65 h
          refine r_aload_n (pc := 68) 0 (n := 0) (by decide +kernel) rfl rfl ?_
          refine r_aload_n (pc := 69) 1 (n := 1) (by decide +kernel) rfl rfl ?_
          refine r_aload_n (pc := 70) 1 (n := 1) (by decide +kernel) rfl rfl ?_
          obtain ⟨g71, q71, h⟩ := bnd h
          refine r_get (pc := 71) (by decide +kernel) fl_Row_65 (by decide) rfl q71 ?_
          refine r_iload_n (pc := 74) 2 (n := 2) (by decide +kernel) rfl rfl ?_
          obtain ⟨e75, q75, h⟩ := bnd h
          refine r_iald (pc := 75) (by decide +kernel) q75 ?_
          refine r_iload_n (pc := 76) 3 (n := 3) (by decide +kernel) rfl rfl ?_
          refine r_iconst (pc := 77) (z := 1) (by decide +kernel) ⟨by decide, by decide⟩ ?_
          refine r_iadd (pc := 78) (by decide +kernel) ?_
          obtain ⟨_, q79c, h⟩ := bnd h
          obtain ⟨x79, q79, h⟩ := bnd h
          refine r_callV (pc := 79) (i := 47) (d2 := d - 1) (As := [(2, a1), (0, e75), (0, wr (a3 + 1))]) (st := []) (st1 := [(0, wr (a3 + 1)), (0, e75), (2, a1), (2, a0)]) (by decide +kernel) yk_Row_addFirstTree (by decide) rfl ⟨ml_Row_47, vk_Row_addFirstTree⟩ np_Row_addFirstTree rfl (by omega) q79c (hw q79) (Nat.le_of_ble_eq_true rfl) (Nat.le_of_ble_eq_true rfl) (Nat.le_of_ble_eq_true rfl) rfl ?_
          show Rn _ d _ _ 0 0 _ 82 [(0, (2, a0)), (1, (2, a1)), (2, (0, a2)), (3, (0, a3)), (4, (0, e20))] [] x79
          obtain rfl := Option.some.inj h
          exact r_ret (pc := 82) (r := none) (by decide +kernel) rfl trivial (Nat.le_of_ble_eq_true rfl) (Nat.le_of_ble_eq_true rfl)
      refine r_if_le (pc := 38) (off := 17) (tgt := 55) (by decide +kernel) (by decide) (fun c38 => ?_) (fun c38 => ?_)
      · have ht38 := ite_t c38 ht38
        obtain rfl := Option.some.inj ht38
        refine r_lv [1, 2, 3, 4, 0] rfl ?_
        exact E38_0
      · have ht38 := ite_f c38 ht38
        refine r_aload_n (pc := 41) 1 (n := 0) (by decide +kernel) rfl rfl ?_
        refine r_aload_n (pc := 42) 2 (n := 1) (by decide +kernel) rfl rfl ?_
        refine r_aload_n (pc := 43) 2 (n := 1) (by decide +kernel) rfl rfl ?_
        obtain ⟨g44, q44, ht38⟩ := bnd ht38
        refine r_get (pc := 44) (by decide +kernel) fl_Row_62 (by decide) rfl q44 ?_
        refine r_iload_n (pc := 47) 3 (n := 2) (by decide +kernel) rfl rfl ?_
        obtain ⟨e48, q48, ht38⟩ := bnd ht38
        refine r_iald (pc := 48) (by decide +kernel) q48 ?_
        refine r_iload_n (pc := 49) 4 (n := 3) (by decide +kernel) rfl rfl ?_
        refine r_iconst (pc := 50) (z := 1) (by decide +kernel) ⟨by decide, by decide⟩ ?_
        refine r_iadd (pc := 51) (by decide +kernel) ?_
        obtain ⟨_, q52c, ht38⟩ := bnd ht38
        obtain ⟨x52, q52, ht38⟩ := bnd ht38
        refine r_callV (pc := 52) (i := 47) (d2 := d - 1) (As := [(2, a1), (0, e48), (0, wr (a3 + 1))]) (st := []) (st1 := [(0, wr (a3 + 1)), (0, e48), (2, a1), (2, a0)]) (by decide +kernel) yk_Row_addFirstTree (by decide) rfl ⟨ml_Row_47, vk_Row_addFirstTree⟩ np_Row_addFirstTree rfl (by omega) q52c (hw q52) (Nat.le_of_ble_eq_true rfl) (Nat.le_of_ble_eq_true rfl) (Nat.le_of_ble_eq_true rfl) rfl ?_
        show Rn _ d _ _ 0 0 _ 55 [(4, (0, e20)), (0, (2, a0)), (1, (2, a1)), (2, (0, a2)), (3, (0, a3))] [] x52
        obtain rfl := Option.some.inj ht38
        refine r_lv [1, 2, 3, 4, 0] rfl ?_
        exact E38_0
    · have h := ite_f c11 h
      obtain rfl := Option.some.inj h
      exact r_ret (pc := 14) (r := none) (by decide +kernel) rfl trivial (Nat.le_of_ble_eq_true rfl) (Nat.le_of_ble_eq_true rfl)
noncomputable def D_Row_addFirstTree : Nat → Int → Int → Int → Int → Mem → Option (Mem)
  | 0 => fun _ _ _ _ _ => none
  | n + 1 => B_Row_addFirstTree (D_Row_addFirstTree n)
theorem c_Row_addFirstTree (n : Nat) : ∀ {d : Nat}, 1 * n + 2 ≤ d → ∀ {a0 a1 a2 a3 : Int} {M : Mem} {x : Mem}, D_Row_addFirstTree n a0 a1 a2 a3 M = some x → Ct d Y_Row_addFirstTree [(2, a0), (2, a1), (0, a2), (0, a3)] M (none, x) 0 0 := by
  induction n with
  | zero => intro d hd a0 a1 a2 a3 M x h; cases h
  | succ n ih =>
    intro d hd a0 a1 a2 a3 M x h
    exact cb_Row_addFirstTree (by omega) (fun h => ih (d := d - 1) (by omega) h) h

/-! TreeTongues$Row.becomeFirstTree(LTreeTongues$Machine;I)V -/
noncomputable def D_Row_becomeFirstTree (a0 a1 a2 : Int) (M : Mem) : Option (Mem) := (pf M a0 4 5 4 0).bind fun m2 => (ck m2 a0 4 5).bind fun _ => (D_Row_addFirstTree TF a0 a1 a2 0 m2).bind fun x9 => some x9
theorem c_Row_becomeFirstTree {d : Nat} (hd : 13 ≤ d) {a0 a1 a2 : Int} {M : Mem} {x : Mem} (h : D_Row_becomeFirstTree a0 a1 a2 M = some x) : Ct d Y_Row_becomeFirstTree [(2, a0), (2, a1), (0, a2)] M (none, x) 0 0 := by
  refine ct_of yk_Row_becomeFirstTree (Nat.le_of_ble_eq_true rfl) ?_
  rw [D_Row_becomeFirstTree] at h
  show Rn Y_Row_becomeFirstTree d 0 0 0 0 (none, x) 0 [(0, (2, a0)), (1, (2, a1)), (2, (0, a2))] [] M
  refine r_aload_n (pc := 0) 0 (n := 0) (by decide +kernel) rfl rfl ?_
  refine r_iconst (pc := 1) (z := 0) (by decide +kernel) ⟨by decide, by decide⟩ ?_
  obtain ⟨m2, q2, h⟩ := bnd h
  refine r_put (pc := 2) (by decide +kernel) fl_Row_21 (by decide) (Or.inr nf_4_4) rfl (fun h3 => by cases h3) q2 ?_
  refine r_aload_n (pc := 5) 0 (n := 0) (by decide +kernel) rfl rfl ?_
  refine r_aload_n (pc := 6) 1 (n := 1) (by decide +kernel) rfl rfl ?_
  refine r_iload_n (pc := 7) 2 (n := 2) (by decide +kernel) rfl rfl ?_
  refine r_iconst (pc := 8) (z := 0) (by decide +kernel) ⟨by decide, by decide⟩ ?_
  obtain ⟨_, q9c, h⟩ := bnd h
  obtain ⟨x9, q9, h⟩ := bnd h
  refine r_callV (pc := 9) (i := 47) (d2 := d - 1) (As := [(2, a1), (0, a2), (0, 0)]) (st := []) (st1 := [(0, 0), (0, a2), (2, a1), (2, a0)]) (by decide +kernel) yk_Row_addFirstTree (by decide) rfl ⟨ml_Row_47, vk_Row_addFirstTree⟩ np_Row_addFirstTree rfl (by omega) q9c (c_Row_addFirstTree TF (d := d - 1) (by have := TF_eq; omega) q9) (Nat.le_of_ble_eq_true rfl) (Nat.le_of_ble_eq_true rfl) (Nat.le_of_ble_eq_true rfl) rfl ?_
  show Rn _ d _ _ 0 0 _ 12 [(0, (2, a0)), (1, (2, a1)), (2, (0, a2))] [] x9
  obtain rfl := Option.some.inj h
  exact r_ret (pc := 12) (r := none) (by decide +kernel) rfl trivial (Nat.le_of_ble_eq_true rfl) (Nat.le_of_ble_eq_true rfl)

/-! TreeTongues.writeLeast(LTreeTongues$Machine;)I -/
noncomputable def L_T_writeLeast_2 (k : Mem → Option (Int × Mem)) (v0 : Int) (v1 : Int) : Nat → Int → Mem → Option (Int × Mem)
  | 0 => fun _ _ => none
  | n + 1 => fun v2 M => (gf M v1 1 14 10).bind fun g4 => if g4 ≤ v2 then (k  M) else ((ck M v1 1 14).bind fun _ => (D_Machine_finalBit v1 v2 M).bind fun x12 => if x12.1 = 1 then ((gf x12.2 v0 8 8 1).bind fun g20 => (ck x12.2 g20 4 5).bind fun _ => (D_Row_becomeFirstTree g20 v1 v2 x12.2).bind fun x25 => (gf x25 v0 8 8 1).bind fun g29 => (gf x25 g29 4 5 4).bind fun g32 => some (g32, x25)) else (L_T_writeLeast_2 k v0 v1 n (wr (v2 + 1)) x12.2))
noncomputable def D_T_writeLeast (a0 a1 : Int) (M : Mem) : Option (Int × Mem) := L_T_writeLeast_2 (fun  m2 => some ((-1), m2)) a0 a1 FU 0 M
theorem sL_T_writeLeast_2 {d mc ms : Nat} (hd : 14 ≤ d) {r : Int × Mem} {k : Mem → Option (Int × Mem)} {v0 : Int} {v1 : Int} (hk : ∀ (M : Mem), k M = some r → Rn Y_T_writeLeast d mc ms 0 0 (some (0, r.1), r.2) 42 [] [] M) : ∀ (n : Nat) (v2 : Int) (M : Mem), L_T_writeLeast_2 k v0 v1 n v2 M = some r → Rn Y_T_writeLeast d mc ms 0 0 (some (0, r.1), r.2) 2 [(0, (2, v0)), (1, (2, v1)), (2, (0, v2))] [] M := by
  intro n
  induction n with
  | zero => intro _ _ h; cases h
  | succ n ih =>
    intro v2 M h
    rw [L_T_writeLeast_2] at h
    refine r_iload_n (pc := 2) 2 (n := 2) (by decide +kernel) rfl rfl ?_
    refine r_aload_n (pc := 3) 1 (n := 1) (by decide +kernel) rfl rfl ?_
    obtain ⟨g4, q4, h⟩ := bnd h
    refine r_get (pc := 4) (by decide +kernel) fl_T_165.r (by decide) rfl q4 ?_
    refine r_icmp_ge (pc := 7) (off := 35) (tgt := 42) (by decide +kernel) (by decide) (fun c7 => ?_) (fun c7 => ?_)
    · have h := ite_t c7 h
      refine r_lv [] rfl ?_
      exact hk  M h
    · have h := ite_f c7 h
      refine r_aload_n (pc := 10) 1 (n := 1) (by decide +kernel) rfl rfl ?_
      refine r_iload_n (pc := 11) 2 (n := 2) (by decide +kernel) rfl rfl ?_
      obtain ⟨_, q12c, h⟩ := bnd h
      obtain ⟨x12, q12, h⟩ := bnd h
      refine r_callV (pc := 12) (i := 175) (d2 := d - 1) (As := [(0, v2)]) (st := []) (st1 := [(0, v2), (2, v1)]) (by decide +kernel) yk_Machine_finalBit (by decide) rfl ⟨ml_T_175, vk_Machine_finalBit⟩ np_Machine_finalBit rfl (by omega) q12c (c_Machine_finalBit (d := d - 1) (by omega) q12) (Nat.le_of_ble_eq_true rfl) (Nat.le_of_ble_eq_true rfl) (Nat.le_of_ble_eq_true rfl) rfl ?_
      show Rn _ d _ _ 0 0 _ 15 [(0, (2, v0)), (1, (2, v1)), (2, (0, v2))] [(0, x12.1)] x12.2
      refine r_iconst (pc := 15) (z := 1) (by decide +kernel) ⟨by decide, by decide⟩ ?_
      refine r_icmp_ne (pc := 16) (off := 20) (tgt := 36) (by decide +kernel) (by decide) (fun c16 => ?_) (fun c16 => ?_)
      · have h := ite_f c16 h
        refine r_iinc (pc := 36) 2 (n := 1) (lv' := [(2, (0, wr (v2 + 1))), (0, (2, v0)), (1, (2, v1))]) (by decide +kernel) rfl (Nat.le_of_ble_eq_true rfl) rfl ?_
        refine r_goto (pc := 39) (off := (-37)) (tgt := 2) (by decide +kernel) (by decide) ?_
        refine r_lv [1, 2, 0] rfl ?_
        exact ih (wr (v2 + 1)) x12.2 h
      · have h := ite_t c16 h
        refine r_aload_n (pc := 19) 0 (n := 0) (by decide +kernel) rfl rfl ?_
        obtain ⟨g20, q20, h⟩ := bnd h
        refine r_get (pc := 20) (by decide +kernel) fl_T_21.r (by decide) rfl q20 ?_
        refine r_aload_n (pc := 23) 1 (n := 1) (by decide +kernel) rfl rfl ?_
        refine r_iload_n (pc := 24) 2 (n := 2) (by decide +kernel) rfl rfl ?_
        obtain ⟨_, q25c, h⟩ := bnd h
        obtain ⟨x25, q25, h⟩ := bnd h
        refine r_callV (pc := 25) (i := 224) (d2 := d - 1) (As := [(2, v1), (0, v2)]) (st := []) (st1 := [(0, v2), (2, v1), (2, g20)]) (by decide +kernel) yk_Row_becomeFirstTree (by decide) rfl ⟨ml_T_224, vk_Row_becomeFirstTree⟩ np_Row_becomeFirstTree rfl (by omega) q25c (c_Row_becomeFirstTree (d := d - 1) (by omega) q25) (Nat.le_of_ble_eq_true rfl) (Nat.le_of_ble_eq_true rfl) (Nat.le_of_ble_eq_true rfl) rfl ?_
        show Rn _ d _ _ 0 0 _ 28 [(0, (2, v0)), (1, (2, v1)), (2, (0, v2))] [] x25
        refine r_aload_n (pc := 28) 0 (n := 0) (by decide +kernel) rfl rfl ?_
        obtain ⟨g29, q29, h⟩ := bnd h
        refine r_get (pc := 29) (by decide +kernel) fl_T_21.r (by decide) rfl q29 ?_
        obtain ⟨g32, q32, h⟩ := bnd h
        refine r_get (pc := 32) (by decide +kernel) fl_T_81.r (by decide) rfl q32 ?_
        obtain rfl := Option.some.inj h
        exact r_ret (pc := 35) (r := some (0, g32)) (by decide +kernel) rfl trivial (Nat.le_of_ble_eq_true rfl) (Nat.le_of_ble_eq_true rfl)
theorem c_T_writeLeast {d : Nat} (hd : 14 ≤ d) {a0 a1 : Int} {M : Mem} {x : Int × Mem} (h : D_T_writeLeast a0 a1 M = some x) : Ct d Y_T_writeLeast [(2, a0), (2, a1)] M (some (0, x.1), x.2) 0 0 := by
  refine ct_of yk_T_writeLeast (Nat.le_of_ble_eq_true rfl) ?_
  rw [D_T_writeLeast] at h
  show Rn Y_T_writeLeast d 0 0 0 0 (some (0, x.1), x.2) 0 [(0, (2, a0)), (1, (2, a1))] [] M
  refine r_iconst (pc := 0) (z := 0) (by decide +kernel) ⟨by decide, by decide⟩ ?_
  refine r_istore_n (pc := 1) (n := 2) (lv' := [(2, (0, 0)), (0, (2, a0)), (1, (2, a1))]) (by decide +kernel) rfl (Nat.le_of_ble_eq_true rfl) rfl ?_
  refine r_lv [1, 2, 0] rfl ?_
  refine sL_T_writeLeast_2 (by omega) ?_ _ _  _ h
  intro m2 h
  refine r_iconst (pc := 42) (z := (-1)) (by decide +kernel) ⟨by decide, by decide⟩ ?_
  obtain rfl := Option.some.inj h
  exact r_ret (pc := 43) (r := some (0, (-1))) (by decide +kernel) rfl trivial (Nat.le_of_ble_eq_true rfl) (Nat.le_of_ble_eq_true rfl)

/-! TreeTongues.least(I)I -/
noncomputable def D_T_least (a0 a1 : Int) (M : Mem) : Option (Int × Mem) := (ck M a0 8 8).bind fun _ => (D_T_find a0 a1 M).bind fun x2 => if x2.1 < 0 then (some ((-2), x2.2)) else ((ck x2.2 a0 8 8).bind fun _ => (D_T_isLarge a0 x2.1 x2.2).bind fun x15 => if x15.1 = 0 then ((gf x15.2 x2.1 7 8 1).bind fun g28 => (ck x15.2 a0 8 8).bind fun _ => (D_T_writeLeast a0 g28 x15.2).bind fun x31 => some (x31.1, x31.2)) else (some ((-5), x15.2)))
theorem c_T_least {d : Nat} (hd : 15 ≤ d) {a0 a1 : Int} {M : Mem} {x : Int × Mem} (h : D_T_least a0 a1 M = some x) : Ct d Y_T_least [(2, a0), (0, a1)] M (some (0, x.1), x.2) 0 0 := by
  refine ct_of yk_T_least (Nat.le_of_ble_eq_true rfl) ?_
  rw [D_T_least] at h
  show Rn Y_T_least d 0 0 0 0 (some (0, x.1), x.2) 0 [(0, (2, a0)), (1, (0, a1))] [] M
  refine r_aload_n (pc := 0) 0 (n := 0) (by decide +kernel) rfl rfl ?_
  refine r_iload_n (pc := 1) 1 (n := 1) (by decide +kernel) rfl rfl ?_
  obtain ⟨_, q2c, h⟩ := bnd h
  obtain ⟨x2, q2, h⟩ := bnd h
  refine r_callV (pc := 2) (i := 98) (d2 := d - 1) (As := [(0, a1)]) (st := []) (st1 := [(0, a1), (2, a0)]) (by decide +kernel) yk_T_find (by decide) rfl ⟨ml_T_98, vk_T_find⟩ np_T_find rfl (by omega) q2c (c_T_find (d := d - 1) (by omega) q2) (Nat.le_of_ble_eq_true rfl) (Nat.le_of_ble_eq_true rfl) (Nat.le_of_ble_eq_true rfl) rfl ?_
  show Rn _ d _ _ 0 0 _ 5 [(0, (2, a0)), (1, (0, a1))] [(2, x2.1)] x2.2
  refine r_astore_n (pc := 5) (n := 2) (lv' := [(2, (2, x2.1)), (0, (2, a0)), (1, (0, a1))]) (by decide +kernel) rfl (Nat.le_of_ble_eq_true rfl) rfl ?_
  refine r_aload_n (pc := 6) 0 (n := 2) (by decide +kernel) rfl rfl ?_
  refine r_ifnonnull (pc := 7) (off := 6) (tgt := 13) (by decide +kernel) (by decide) (fun c7 => ?_) (fun c7 => ?_)
  · have h := ite_f c7 h
    refine r_aload_n (pc := 13) 1 (n := 0) (by decide +kernel) rfl rfl ?_
    refine r_aload_n (pc := 14) 0 (n := 2) (by decide +kernel) rfl rfl ?_
    obtain ⟨_, q15c, h⟩ := bnd h
    obtain ⟨x15, q15, h⟩ := bnd h
    refine r_callV (pc := 15) (i := 122) (d2 := d - 1) (As := [(2, x2.1)]) (st := []) (st1 := [(2, x2.1), (2, a0)]) (by decide +kernel) yk_T_isLarge (by decide) rfl ⟨ml_T_122, vk_T_isLarge⟩ np_T_isLarge rfl (by omega) q15c (c_T_isLarge (d := d - 1) (by omega) q15) (Nat.le_of_ble_eq_true rfl) (Nat.le_of_ble_eq_true rfl) (Nat.le_of_ble_eq_true rfl) rfl ?_
    show Rn _ d _ _ 0 0 _ 18 [(2, (2, x2.1)), (0, (2, a0)), (1, (0, a1))] [(0, x15.1)] x15.2
    refine r_if_eq (pc := 18) (off := 8) (tgt := 26) (by decide +kernel) (by decide) (fun c18 => ?_) (fun c18 => ?_)
    · have h := ite_t c18 h
      refine r_aload_n (pc := 26) 1 (n := 0) (by decide +kernel) rfl rfl ?_
      refine r_aload_n (pc := 27) 0 (n := 2) (by decide +kernel) rfl rfl ?_
      obtain ⟨g28, q28, h⟩ := bnd h
      refine r_get (pc := 28) (by decide +kernel) fl_T_126 (by decide) rfl q28 ?_
      obtain ⟨_, q31c, h⟩ := bnd h
      obtain ⟨x31, q31, h⟩ := bnd h
      refine r_callV (pc := 31) (i := 189) (d2 := d - 1) (As := [(2, g28)]) (st := []) (st1 := [(2, g28), (2, a0)]) (by decide +kernel) yk_T_writeLeast (by decide) rfl ⟨ml_T_189, vk_T_writeLeast⟩ np_T_writeLeast rfl (by omega) q31c (c_T_writeLeast (d := d - 1) (by omega) q31) (Nat.le_of_ble_eq_true rfl) (Nat.le_of_ble_eq_true rfl) (Nat.le_of_ble_eq_true rfl) rfl ?_
      show Rn _ d _ _ 0 0 _ 34 [(2, (2, x2.1)), (0, (2, a0)), (1, (0, a1))] [(0, x31.1)] x31.2
      obtain rfl := Option.some.inj h
      exact r_ret (pc := 34) (r := some (0, x31.1)) (by decide +kernel) rfl trivial (Nat.le_of_ble_eq_true rfl) (Nat.le_of_ble_eq_true rfl)
    · have h := ite_f c18 h
      refine r_bipush (pc := 21) (z := (-5)) (by decide +kernel) ⟨by decide, by decide⟩ ?_
      refine r_goto (pc := 23) (off := 11) (tgt := 34) (by decide +kernel) (by decide) ?_
      obtain rfl := Option.some.inj h
      exact r_ret (pc := 34) (r := some (0, (-5))) (by decide +kernel) rfl trivial (Nat.le_of_ble_eq_true rfl) (Nat.le_of_ble_eq_true rfl)
  · have h := ite_t c7 h
    refine r_bipush (pc := 10) (z := (-2)) (by decide +kernel) ⟨by decide, by decide⟩ ?_
    obtain rfl := Option.some.inj h
    exact r_ret (pc := 12) (r := some (0, (-2))) (by decide +kernel) rfl trivial (Nat.le_of_ble_eq_true rfl) (Nat.le_of_ble_eq_true rfl)

/-! TreeTongues.unlike(II)I -/
noncomputable def D_T_unlike (a0 a1 a2 : Int) (M : Mem) : Option (Int × Mem) := (ck M a0 8 8).bind fun _ => (D_T_find a0 a1 M).bind fun x2 => (ck x2.2 a0 8 8).bind fun _ => (D_T_find a0 a2 x2.2).bind fun x8 => if x2.1 < 0 then (some ((-2), x8.2)) else (if x8.1 < 0 then (some ((-2), x8.2)) else ((ck x8.2 a0 8 8).bind fun _ => (D_T_isLarge a0 x2.1 x8.2).bind fun x27 => if x27.1 = 0 then ((ck x27.2 a0 8 8).bind fun _ => (D_T_isLarge a0 x8.1 x27.2).bind fun x36 => if x36.1 = 0 then ((gf x36.2 a0 8 8 3).bind fun g46 => (gf x36.2 x2.1 7 8 1).bind fun g50 => (gf x36.2 x8.1 7 8 1).bind fun g55 => (wv 3).bind fun e62 => (ck x36.2 g46 2 6).bind fun _ => (D_Net_setBoth g46 g50 g55 e62 x36.2).bind fun x63 => (gf x63 a0 8 8 4).bind fun g67 => (gf x63 a0 8 8 5).bind fun g71 => (ck x63 g67 3 17).bind fun _ => (D_Reducer_reduceTo g67 g71 x63).bind fun x74 => (gf x74 a0 8 8 5).bind fun g78 => (gf x74 g78 1 14 12).bind fun g81 => if g81 = 0 then ((gf x74 a0 8 8 5).bind fun g94 => (ck x74 a0 8 8).bind fun _ => (D_T_writeLeast a0 g94 x74).bind fun x97 => some (x97.1, x97.2)) else (some ((-5), x74))) else (some ((-5), x36.2))) else (some ((-5), x27.2))))
theorem c_T_unlike {d : Nat} (hd : 15 ≤ d) {a0 a1 a2 : Int} {M : Mem} {x : Int × Mem} (h : D_T_unlike a0 a1 a2 M = some x) : Ct d Y_T_unlike [(2, a0), (0, a1), (0, a2)] M (some (0, x.1), x.2) 0 0 := by
  refine ct_of yk_T_unlike (Nat.le_of_ble_eq_true rfl) ?_
  rw [D_T_unlike] at h
  show Rn Y_T_unlike d 0 0 0 0 (some (0, x.1), x.2) 0 [(0, (2, a0)), (1, (0, a1)), (2, (0, a2))] [] M
  refine r_aload_n (pc := 0) 0 (n := 0) (by decide +kernel) rfl rfl ?_
  refine r_iload_n (pc := 1) 1 (n := 1) (by decide +kernel) rfl rfl ?_
  obtain ⟨_, q2c, h⟩ := bnd h
  obtain ⟨x2, q2, h⟩ := bnd h
  refine r_callV (pc := 2) (i := 98) (d2 := d - 1) (As := [(0, a1)]) (st := []) (st1 := [(0, a1), (2, a0)]) (by decide +kernel) yk_T_find (by decide) rfl ⟨ml_T_98, vk_T_find⟩ np_T_find rfl (by omega) q2c (c_T_find (d := d - 1) (by omega) q2) (Nat.le_of_ble_eq_true rfl) (Nat.le_of_ble_eq_true rfl) (Nat.le_of_ble_eq_true rfl) rfl ?_
  show Rn _ d _ _ 0 0 _ 5 [(0, (2, a0)), (1, (0, a1)), (2, (0, a2))] [(2, x2.1)] x2.2
  refine r_astore_n (pc := 5) (n := 3) (lv' := [(3, (2, x2.1)), (0, (2, a0)), (1, (0, a1)), (2, (0, a2))]) (by decide +kernel) rfl (Nat.le_of_ble_eq_true rfl) rfl ?_
  refine r_aload_n (pc := 6) 1 (n := 0) (by decide +kernel) rfl rfl ?_
  refine r_iload_n (pc := 7) 3 (n := 2) (by decide +kernel) rfl rfl ?_
  obtain ⟨_, q8c, h⟩ := bnd h
  obtain ⟨x8, q8, h⟩ := bnd h
  refine r_callV (pc := 8) (i := 98) (d2 := d - 1) (As := [(0, a2)]) (st := []) (st1 := [(0, a2), (2, a0)]) (by decide +kernel) yk_T_find (by decide) rfl ⟨ml_T_98, vk_T_find⟩ np_T_find rfl (by omega) q8c (c_T_find (d := d - 1) (by omega) q8) (Nat.le_of_ble_eq_true rfl) (Nat.le_of_ble_eq_true rfl) (Nat.le_of_ble_eq_true rfl) rfl ?_
  show Rn _ d _ _ 0 0 _ 11 [(3, (2, x2.1)), (0, (2, a0)), (1, (0, a1)), (2, (0, a2))] [(2, x8.1)] x8.2
  refine r_astore (pc := 11) (lv' := [(4, (2, x8.1)), (3, (2, x2.1)), (0, (2, a0)), (1, (0, a1)), (2, (0, a2))]) (by decide +kernel) (Nat.le_of_ble_eq_true rfl) rfl ?_
  refine r_aload_n (pc := 13) 1 (n := 3) (by decide +kernel) rfl rfl ?_
  refine r_ifnull (pc := 14) (off := 8) (tgt := 22) (by decide +kernel) (by decide) (fun c14 => ?_) (fun c14 => ?_)
  · have h := ite_t c14 h
    refine r_bipush (pc := 22) (z := (-2)) (by decide +kernel) ⟨by decide, by decide⟩ ?_
    obtain rfl := Option.some.inj h
    exact r_ret (pc := 24) (r := some (0, (-2))) (by decide +kernel) rfl trivial (Nat.le_of_ble_eq_true rfl) (Nat.le_of_ble_eq_true rfl)
  · have h := ite_f c14 h
    refine r_aload (pc := 17) 0 (by decide +kernel) rfl ?_
    refine r_ifnonnull (pc := 19) (off := 6) (tgt := 25) (by decide +kernel) (by decide) (fun c19 => ?_) (fun c19 => ?_)
    · have h := ite_f c19 h
      refine r_aload_n (pc := 25) 2 (n := 0) (by decide +kernel) rfl rfl ?_
      refine r_aload_n (pc := 26) 1 (n := 3) (by decide +kernel) rfl rfl ?_
      obtain ⟨_, q27c, h⟩ := bnd h
      obtain ⟨x27, q27, h⟩ := bnd h
      refine r_callV (pc := 27) (i := 122) (d2 := d - 1) (As := [(2, x2.1)]) (st := []) (st1 := [(2, x2.1), (2, a0)]) (by decide +kernel) yk_T_isLarge (by decide) rfl ⟨ml_T_122, vk_T_isLarge⟩ np_T_isLarge rfl (by omega) q27c (c_T_isLarge (d := d - 1) (by omega) q27) (Nat.le_of_ble_eq_true rfl) (Nat.le_of_ble_eq_true rfl) (Nat.le_of_ble_eq_true rfl) rfl ?_
      show Rn _ d _ _ 0 0 _ 30 [(4, (2, x8.1)), (3, (2, x2.1)), (0, (2, a0)), (1, (0, a1)), (2, (0, a2))] [(0, x27.1)] x27.2
      refine r_if_ne (pc := 30) (off := 12) (tgt := 42) (by decide +kernel) (by decide) (fun c30 => ?_) (fun c30 => ?_)
      · have h := ite_f c30 h
        refine r_bipush (pc := 42) (z := (-5)) (by decide +kernel) ⟨by decide, by decide⟩ ?_
        obtain rfl := Option.some.inj h
        exact r_ret (pc := 44) (r := some (0, (-5))) (by decide +kernel) rfl trivial (Nat.le_of_ble_eq_true rfl) (Nat.le_of_ble_eq_true rfl)
      · have h := ite_t c30 h
        refine r_aload_n (pc := 33) 2 (n := 0) (by decide +kernel) rfl rfl ?_
        refine r_aload (pc := 34) 0 (by decide +kernel) rfl ?_
        obtain ⟨_, q36c, h⟩ := bnd h
        obtain ⟨x36, q36, h⟩ := bnd h
        refine r_callV (pc := 36) (i := 122) (d2 := d - 1) (As := [(2, x8.1)]) (st := []) (st1 := [(2, x8.1), (2, a0)]) (by decide +kernel) yk_T_isLarge (by decide) rfl ⟨ml_T_122, vk_T_isLarge⟩ np_T_isLarge rfl (by omega) q36c (c_T_isLarge (d := d - 1) (by omega) q36) (Nat.le_of_ble_eq_true rfl) (Nat.le_of_ble_eq_true rfl) (Nat.le_of_ble_eq_true rfl) rfl ?_
        show Rn _ d _ _ 0 0 _ 39 [(4, (2, x8.1)), (3, (2, x2.1)), (0, (2, a0)), (1, (0, a1)), (2, (0, a2))] [(0, x36.1)] x36.2
        refine r_if_eq (pc := 39) (off := 6) (tgt := 45) (by decide +kernel) (by decide) (fun c39 => ?_) (fun c39 => ?_)
        · have h := ite_t c39 h
          refine r_aload_n (pc := 45) 2 (n := 0) (by decide +kernel) rfl rfl ?_
          obtain ⟨g46, q46, h⟩ := bnd h
          refine r_get (pc := 46) (by decide +kernel) fl_T_34.r (by decide) rfl q46 ?_
          refine r_aload_n (pc := 49) 1 (n := 3) (by decide +kernel) rfl rfl ?_
          obtain ⟨g50, q50, h⟩ := bnd h
          refine r_get (pc := 50) (by decide +kernel) fl_T_126 (by decide) rfl q50 ?_
          refine r_aload (pc := 53) 0 (by decide +kernel) rfl ?_
          obtain ⟨g55, q55, h⟩ := bnd h
          refine r_get (pc := 55) (by decide +kernel) fl_T_126 (by decide) rfl q55 ?_
          refine r_ways (pc := 58) (i := 119) (by decide +kernel) (mg 480 (by decide +kernel) (by decide +kernel)) ?_
          refine r_iconst (pc := 61) (z := 3) (by decide +kernel) ⟨by decide, by decide⟩ ?_
          obtain ⟨e62, q62, h⟩ := bnd h
          refine r_wald (pc := 62) (by decide +kernel) q62 ?_
          obtain ⟨_, q63c, h⟩ := bnd h
          obtain ⟨x63, q63, h⟩ := bnd h
          refine r_callV (pc := 63) (i := 129) (d2 := d - 1) (As := [(2, g50), (2, g55), (0, e62)]) (st := []) (st1 := [(0, e62), (2, g55), (2, g50), (2, g46)]) (by decide +kernel) yk_Net_setBoth (by decide) rfl ⟨ml_T_129, vk_Net_setBoth⟩ np_Net_setBoth rfl (by omega) q63c (c_Net_setBoth (d := d - 1) (by omega) q63) (Nat.le_of_ble_eq_true rfl) (Nat.le_of_ble_eq_true rfl) (Nat.le_of_ble_eq_true rfl) rfl ?_
          show Rn _ d _ _ 0 0 _ 66 [(4, (2, x8.1)), (3, (2, x2.1)), (0, (2, a0)), (1, (0, a1)), (2, (0, a2))] [] x63
          refine r_aload_n (pc := 66) 2 (n := 0) (by decide +kernel) rfl rfl ?_
          obtain ⟨g67, q67, h⟩ := bnd h
          refine r_get (pc := 67) (by decide +kernel) fl_T_43.r (by decide) rfl q67 ?_
          refine r_aload_n (pc := 70) 2 (n := 0) (by decide +kernel) rfl rfl ?_
          obtain ⟨g71, q71, h⟩ := bnd h
          refine r_get (pc := 71) (by decide +kernel) fl_T_50.r (by decide) rfl q71 ?_
          obtain ⟨_, q74c, h⟩ := bnd h
          obtain ⟨x74, q74, h⟩ := bnd h
          refine r_callV (pc := 74) (i := 192) (d2 := d - 1) (As := [(2, g71)]) (st := []) (st1 := [(2, g71), (2, g67)]) (by decide +kernel) yk_Reducer_reduceTo (by decide) rfl ⟨ml_T_192, vk_Reducer_reduceTo⟩ np_Reducer_reduceTo rfl (by omega) q74c (c_Reducer_reduceTo (d := d - 1) (by omega) q74) (Nat.le_of_ble_eq_true rfl) (Nat.le_of_ble_eq_true rfl) (Nat.le_of_ble_eq_true rfl) rfl ?_
          show Rn _ d _ _ 0 0 _ 77 [(4, (2, x8.1)), (3, (2, x2.1)), (0, (2, a0)), (1, (0, a1)), (2, (0, a2))] [] x74
          refine r_aload_n (pc := 77) 2 (n := 0) (by decide +kernel) rfl rfl ?_
          obtain ⟨g78, q78, h⟩ := bnd h
          refine r_get (pc := 78) (by decide +kernel) fl_T_50.r (by decide) rfl q78 ?_
          obtain ⟨g81, q81, h⟩ := bnd h
          refine r_get (pc := 81) (by decide +kernel) fl_T_195.r (by decide) rfl q81 ?_
          refine r_if_eq (pc := 84) (off := 8) (tgt := 92) (by decide +kernel) (by decide) (fun c84 => ?_) (fun c84 => ?_)
          · have h := ite_t c84 h
            refine r_aload_n (pc := 92) 2 (n := 0) (by decide +kernel) rfl rfl ?_
            refine r_aload_n (pc := 93) 2 (n := 0) (by decide +kernel) rfl rfl ?_
            obtain ⟨g94, q94, h⟩ := bnd h
            refine r_get (pc := 94) (by decide +kernel) fl_T_50.r (by decide) rfl q94 ?_
            obtain ⟨_, q97c, h⟩ := bnd h
            obtain ⟨x97, q97, h⟩ := bnd h
            refine r_callV (pc := 97) (i := 189) (d2 := d - 1) (As := [(2, g94)]) (st := []) (st1 := [(2, g94), (2, a0)]) (by decide +kernel) yk_T_writeLeast (by decide) rfl ⟨ml_T_189, vk_T_writeLeast⟩ np_T_writeLeast rfl (by omega) q97c (c_T_writeLeast (d := d - 1) (by omega) q97) (Nat.le_of_ble_eq_true rfl) (Nat.le_of_ble_eq_true rfl) (Nat.le_of_ble_eq_true rfl) rfl ?_
            show Rn _ d _ _ 0 0 _ 100 [(4, (2, x8.1)), (3, (2, x2.1)), (0, (2, a0)), (1, (0, a1)), (2, (0, a2))] [(0, x97.1)] x97.2
            obtain rfl := Option.some.inj h
            exact r_ret (pc := 100) (r := some (0, x97.1)) (by decide +kernel) rfl trivial (Nat.le_of_ble_eq_true rfl) (Nat.le_of_ble_eq_true rfl)
          · have h := ite_f c84 h
            refine r_bipush (pc := 87) (z := (-5)) (by decide +kernel) ⟨by decide, by decide⟩ ?_
            refine r_goto (pc := 89) (off := 11) (tgt := 100) (by decide +kernel) (by decide) ?_
            obtain rfl := Option.some.inj h
            exact r_ret (pc := 100) (r := some (0, (-5))) (by decide +kernel) rfl trivial (Nat.le_of_ble_eq_true rfl) (Nat.le_of_ble_eq_true rfl)
        · have h := ite_f c39 h
          refine r_bipush (pc := 42) (z := (-5)) (by decide +kernel) ⟨by decide, by decide⟩ ?_
          obtain rfl := Option.some.inj h
          exact r_ret (pc := 44) (r := some (0, (-5))) (by decide +kernel) rfl trivial (Nat.le_of_ble_eq_true rfl) (Nat.le_of_ble_eq_true rfl)
    · have h := ite_t c19 h
      refine r_bipush (pc := 22) (z := (-2)) (by decide +kernel) ⟨by decide, by decide⟩ ?_
      obtain rfl := Option.some.inj h
      exact r_ret (pc := 24) (r := some (0, (-2))) (by decide +kernel) rfl trivial (Nat.le_of_ble_eq_true rfl) (Nat.le_of_ble_eq_true rfl)

/-! TreeTongues$Machine.isEndless()Z -/
noncomputable def L_Machine_isEndless_17 (k : Mem → Option (Int × Mem)) (v0 : Int) (v1 : Int) (v2 : Int) : Nat → Int → Mem → Option (Int × Mem)
  | 0 => fun _ _ => none
  | n + 1 => fun v3 M => (gf M v0 1 14 10).bind fun g19 => if g19 ≤ v3 then (k  M) else ((gf M v0 1 14 7).bind fun g26 => (rd M 10 g26 v3).bind fun e30 => (if (iand (ishr e30 v2) 1) = 0 then (some M) else ((gf M v0 1 14 7).bind fun g39 => (rd M 10 g39 v3).bind fun e44 => (gf M v0 1 14 7).bind fun g46 => (rd M 10 g46 v2).bind fun e50 => (wt M 10 g39 v3 (ior e44 e50)).bind fun m52 => some m52)).bind fun (t35 : Mem) => L_Machine_isEndless_17 k v0 v1 v2 n (wr (v3 + 1)) t35)
noncomputable def L_Machine_isEndless_7 (k : Mem → Option (Int × Mem)) (v0 : Int) (v1 : Int) : Nat → Int → Mem → Option (Int × Mem)
  | 0 => fun _ _ => none
  | n + 1 => fun v2 M => (gf M v0 1 14 10).bind fun g9 => if g9 ≤ v2 then (k  M) else (L_Machine_isEndless_17 (fun  m17 => L_Machine_isEndless_7 k v0 v1 n (wr (v2 + 1)) m17) v0 v1 v2 FU 0 M)
noncomputable def L_Machine_isEndless_67 (k : Mem → Option (Int × Mem)) (v0 : Int) (v1 : Int) : Nat → Int → Mem → Option (Int × Mem)
  | 0 => fun _ _ => none
  | n + 1 => fun v2 M => (gf M v0 1 14 10).bind fun g69 => if g69 ≤ v2 then (k  M) else ((if (iand (ishr v1 v2) 1) = 0 then (some 0) else ((gf M v0 1 14 7).bind fun g84 => (rd M 10 g84 v2).bind fun e88 => if (iand (ishr e88 v2) 1) = 0 then (some 0) else (some 1))).bind fun (t80 : Int) => if t80 = 0 then (L_Machine_isEndless_67 k v0 v1 n (wr (v2 + 1)) M) else (some (1, M)))
noncomputable def D_Machine_isEndless (a0 : Int) (M : Mem) : Option (Int × Mem) := (ck M a0 1 14).bind fun _ => (D_Machine_living a0 M).bind fun x1 => L_Machine_isEndless_7 (fun  m7 => L_Machine_isEndless_67 (fun  m67 => some (0, m67)) a0 x1.1 FU 0 m7) a0 x1.1 FU 0 x1.2
theorem sL_Machine_isEndless_17 {d mc ms : Nat} (hd : 6 ≤ d) {r : Int × Mem} {k : Mem → Option (Int × Mem)} {v0 : Int} {v1 : Int} {v2 : Int} (hk : ∀ (M : Mem), k M = some r → Rn Y_Machine_isEndless d mc ms 0 0 (some (0, r.1), r.2) 59 [(0, (2, v0)), (1, (0, v1)), (2, (0, v2))] [] M) : ∀ (n : Nat) (v3 : Int) (M : Mem), L_Machine_isEndless_17 k v0 v1 v2 n v3 M = some r → Rn Y_Machine_isEndless d mc ms 0 0 (some (0, r.1), r.2) 17 [(0, (2, v0)), (1, (0, v1)), (2, (0, v2)), (3, (0, v3))] [] M := by
  intro n
  induction n with
  | zero => intro _ _ h; cases h
  | succ n ih =>
    intro v3 M h
    rw [L_Machine_isEndless_17] at h
    refine r_iload_n (pc := 17) 3 (n := 3) (by decide +kernel) rfl rfl ?_
    refine r_aload_n (pc := 18) 0 (n := 0) (by decide +kernel) rfl rfl ?_
    obtain ⟨g19, q19, h⟩ := bnd h
    refine r_get (pc := 19) (by decide +kernel) fl_Machine_40.r (by decide) rfl q19 ?_
    refine r_icmp_ge (pc := 22) (off := 37) (tgt := 59) (by decide +kernel) (by decide) (fun c22 => ?_) (fun c22 => ?_)
    · have h := ite_t c22 h
      refine r_lv [0, 1, 2] rfl ?_
      exact hk  M h
    · have h := ite_f c22 h
      refine r_aload_n (pc := 25) 0 (n := 0) (by decide +kernel) rfl rfl ?_
      obtain ⟨g26, q26, h⟩ := bnd h
      refine r_get (pc := 26) (by decide +kernel) fl_Machine_31.r (by decide) rfl q26 ?_
      refine r_iload_n (pc := 29) 3 (n := 3) (by decide +kernel) rfl rfl ?_
      obtain ⟨e30, q30, h⟩ := bnd h
      refine r_iald (pc := 30) (by decide +kernel) q30 ?_
      refine r_iload_n (pc := 31) 2 (n := 2) (by decide +kernel) rfl rfl ?_
      refine r_ishr (pc := 32) (by decide +kernel) ?_
      refine r_iconst (pc := 33) (z := 1) (by decide +kernel) ⟨by decide, by decide⟩ ?_
      refine r_iand (pc := 34) (by decide +kernel) ?_
      obtain ⟨t35, ht35, h⟩ := bnd h
      have E35_0 : Rn Y_Machine_isEndless d mc ms 0 0 (some (0, r.1), r.2) 53 [(0, (2, v0)), (1, (0, v1)), (2, (0, v2)), (3, (0, v3))] [] t35 := by
        refine r_iinc (pc := 53) 3 (n := 1) (lv' := [(3, (0, wr (v3 + 1))), (0, (2, v0)), (1, (0, v1)), (2, (0, v2))]) (by decide +kernel) rfl (Nat.le_of_ble_eq_true rfl) rfl ?_
        refine r_goto (pc := 56) (off := (-39)) (tgt := 17) (by decide +kernel) (by decide) ?_
        refine r_lv [1, 2, 3, 0] rfl ?_
        exact ih (wr (v3 + 1)) t35 h
      refine r_if_eq (pc := 35) (off := 18) (tgt := 53) (by decide +kernel) (by decide) (fun c35 => ?_) (fun c35 => ?_)
      · have ht35 := ite_t c35 ht35
        obtain rfl := Option.some.inj ht35
        exact E35_0
      · have ht35 := ite_f c35 ht35
        refine r_aload_n (pc := 38) 0 (n := 0) (by decide +kernel) rfl rfl ?_
        obtain ⟨g39, q39, ht35⟩ := bnd ht35
        refine r_get (pc := 39) (by decide +kernel) fl_Machine_31.r (by decide) rfl q39 ?_
        refine r_iload_n (pc := 42) 3 (n := 3) (by decide +kernel) rfl rfl ?_
        refine r_dup2 (pc := 43) (by decide +kernel) rfl rfl ?_
        obtain ⟨e44, q44, ht35⟩ := bnd ht35
        refine r_iald (pc := 44) (by decide +kernel) q44 ?_
        refine r_aload_n (pc := 45) 0 (n := 0) (by decide +kernel) rfl rfl ?_
        obtain ⟨g46, q46, ht35⟩ := bnd ht35
        refine r_get (pc := 46) (by decide +kernel) fl_Machine_31.r (by decide) rfl q46 ?_
        refine r_iload_n (pc := 49) 2 (n := 2) (by decide +kernel) rfl rfl ?_
        obtain ⟨e50, q50, ht35⟩ := bnd ht35
        refine r_iald (pc := 50) (by decide +kernel) q50 ?_
        refine r_ior (pc := 51) (by decide +kernel) ?_
        obtain ⟨m52, q52, ht35⟩ := bnd ht35
        refine r_iast (pc := 52) (by decide +kernel) q52 ?_
        obtain rfl := Option.some.inj ht35
        exact E35_0
theorem sL_Machine_isEndless_7 {d mc ms : Nat} (hd : 6 ≤ d) {r : Int × Mem} {k : Mem → Option (Int × Mem)} {v0 : Int} {v1 : Int} (hk : ∀ (M : Mem), k M = some r → Rn Y_Machine_isEndless d mc ms 0 0 (some (0, r.1), r.2) 65 [(0, (2, v0)), (1, (0, v1))] [] M) : ∀ (n : Nat) (v2 : Int) (M : Mem), L_Machine_isEndless_7 k v0 v1 n v2 M = some r → Rn Y_Machine_isEndless d mc ms 0 0 (some (0, r.1), r.2) 7 [(0, (2, v0)), (1, (0, v1)), (2, (0, v2))] [] M := by
  intro n
  induction n with
  | zero => intro _ _ h; cases h
  | succ n ih =>
    intro v2 M h
    rw [L_Machine_isEndless_7] at h
    refine r_iload_n (pc := 7) 2 (n := 2) (by decide +kernel) rfl rfl ?_
    refine r_aload_n (pc := 8) 0 (n := 0) (by decide +kernel) rfl rfl ?_
    obtain ⟨g9, q9, h⟩ := bnd h
    refine r_get (pc := 9) (by decide +kernel) fl_Machine_40.r (by decide) rfl q9 ?_
    refine r_icmp_ge (pc := 12) (off := 53) (tgt := 65) (by decide +kernel) (by decide) (fun c12 => ?_) (fun c12 => ?_)
    · have h := ite_t c12 h
      refine r_lv [0, 1] rfl ?_
      exact hk  M h
    · have h := ite_f c12 h
      refine r_iconst (pc := 15) (z := 0) (by decide +kernel) ⟨by decide, by decide⟩ ?_
      refine r_istore_n (pc := 16) (n := 3) (lv' := [(3, (0, 0)), (0, (2, v0)), (1, (0, v1)), (2, (0, v2))]) (by decide +kernel) rfl (Nat.le_of_ble_eq_true rfl) rfl ?_
      refine r_lv [1, 2, 3, 0] rfl ?_
      refine sL_Machine_isEndless_17 (by omega) ?_ _ _  _ h
      intro m17 h
      refine r_iinc (pc := 59) 2 (n := 1) (lv' := [(2, (0, wr (v2 + 1))), (0, (2, v0)), (1, (0, v1))]) (by decide +kernel) rfl (Nat.le_of_ble_eq_true rfl) rfl ?_
      refine r_goto (pc := 62) (off := (-55)) (tgt := 7) (by decide +kernel) (by decide) ?_
      refine r_lv [1, 2, 0] rfl ?_
      exact ih (wr (v2 + 1)) m17 h
theorem sL_Machine_isEndless_67 {d mc ms : Nat} (hd : 6 ≤ d) {r : Int × Mem} {k : Mem → Option (Int × Mem)} {v0 : Int} {v1 : Int} (hk : ∀ (M : Mem), k M = some r → Rn Y_Machine_isEndless d mc ms 0 0 (some (0, r.1), r.2) 104 [] [] M) : ∀ (n : Nat) (v2 : Int) (M : Mem), L_Machine_isEndless_67 k v0 v1 n v2 M = some r → Rn Y_Machine_isEndless d mc ms 0 0 (some (0, r.1), r.2) 67 [(0, (2, v0)), (1, (0, v1)), (2, (0, v2))] [] M := by
  intro n
  induction n with
  | zero => intro _ _ h; cases h
  | succ n ih =>
    intro v2 M h
    rw [L_Machine_isEndless_67] at h
    refine r_iload_n (pc := 67) 2 (n := 2) (by decide +kernel) rfl rfl ?_
    refine r_aload_n (pc := 68) 0 (n := 0) (by decide +kernel) rfl rfl ?_
    obtain ⟨g69, q69, h⟩ := bnd h
    refine r_get (pc := 69) (by decide +kernel) fl_Machine_40.r (by decide) rfl q69 ?_
    refine r_icmp_ge (pc := 72) (off := 32) (tgt := 104) (by decide +kernel) (by decide) (fun c72 => ?_) (fun c72 => ?_)
    · have h := ite_t c72 h
      refine r_lv [] rfl ?_
      exact hk  M h
    · have h := ite_f c72 h
      refine r_iload_n (pc := 75) 1 (n := 1) (by decide +kernel) rfl rfl ?_
      refine r_iload_n (pc := 76) 2 (n := 2) (by decide +kernel) rfl rfl ?_
      refine r_ishr (pc := 77) (by decide +kernel) ?_
      refine r_iconst (pc := 78) (z := 1) (by decide +kernel) ⟨by decide, by decide⟩ ?_
      refine r_iand (pc := 79) (by decide +kernel) ?_
      obtain ⟨t80, ht80, h⟩ := bnd h
      have E80_0 : t80 = 0 → Rn Y_Machine_isEndless d mc ms 0 0 (some (0, r.1), r.2) 98 [(0, (2, v0)), (1, (0, v1)), (2, (0, v2))] [] M := by
        intro y0
        have h := ite_t y0 h
        refine r_iinc (pc := 98) 2 (n := 1) (lv' := [(2, (0, wr (v2 + 1))), (0, (2, v0)), (1, (0, v1))]) (by decide +kernel) rfl (Nat.le_of_ble_eq_true rfl) rfl ?_
        refine r_goto (pc := 101) (off := (-34)) (tgt := 67) (by decide +kernel) (by decide) ?_
        refine r_lv [1, 2, 0] rfl ?_
        exact ih (wr (v2 + 1)) M h
      have E80_1 : ¬ t80 = 0 → Rn Y_Machine_isEndless d mc ms 0 0 (some (0, r.1), r.2) 96 [] [] M := by
        intro n0
        have h := ite_f n0 h
        refine r_iconst (pc := 96) (z := 1) (by decide +kernel) ⟨by decide, by decide⟩ ?_
        obtain rfl := Option.some.inj h
        exact r_ret (pc := 97) (r := some (0, 1)) (by decide +kernel) rfl (Or.inr rfl) (Nat.le_of_ble_eq_true rfl) (Nat.le_of_ble_eq_true rfl)
      refine r_if_eq (pc := 80) (off := 18) (tgt := 98) (by decide +kernel) (by decide) (fun c80 => ?_) (fun c80 => ?_)
      · have ht80 := ite_t c80 ht80
        obtain rfl := Option.some.inj ht80
        exact E80_0 rfl
      · have ht80 := ite_f c80 ht80
        refine r_aload_n (pc := 83) 0 (n := 0) (by decide +kernel) rfl rfl ?_
        obtain ⟨g84, q84, ht80⟩ := bnd ht80
        refine r_get (pc := 84) (by decide +kernel) fl_Machine_31.r (by decide) rfl q84 ?_
        refine r_iload_n (pc := 87) 2 (n := 2) (by decide +kernel) rfl rfl ?_
        obtain ⟨e88, q88, ht80⟩ := bnd ht80
        refine r_iald (pc := 88) (by decide +kernel) q88 ?_
        refine r_iload_n (pc := 89) 2 (n := 2) (by decide +kernel) rfl rfl ?_
        refine r_ishr (pc := 90) (by decide +kernel) ?_
        refine r_iconst (pc := 91) (z := 1) (by decide +kernel) ⟨by decide, by decide⟩ ?_
        refine r_iand (pc := 92) (by decide +kernel) ?_
        refine r_if_eq (pc := 93) (off := 5) (tgt := 98) (by decide +kernel) (by decide) (fun c93 => ?_) (fun c93 => ?_)
        · have ht80 := ite_t c93 ht80
          obtain rfl := Option.some.inj ht80
          exact E80_0 rfl
        · have ht80 := ite_f c93 ht80
          obtain rfl := Option.some.inj ht80
          refine r_lv [] rfl ?_
          exact E80_1 (show ¬ (1 : Int) = 0 by decide)
theorem c_Machine_isEndless {d : Nat} (hd : 6 ≤ d) {a0 : Int} {M : Mem} {x : Int × Mem} (h : D_Machine_isEndless a0 M = some x) : Ct d Y_Machine_isEndless [(2, a0)] M (some (0, x.1), x.2) 0 0 := by
  refine ct_of yk_Machine_isEndless (Nat.le_of_ble_eq_true rfl) ?_
  rw [D_Machine_isEndless] at h
  show Rn Y_Machine_isEndless d 0 0 0 0 (some (0, x.1), x.2) 0 [(0, (2, a0))] [] M
  refine r_aload_n (pc := 0) 0 (n := 0) (by decide +kernel) rfl rfl ?_
  obtain ⟨_, q1c, h⟩ := bnd h
  obtain ⟨x1, q1, h⟩ := bnd h
  refine r_callV (pc := 1) (i := 108) (d2 := d - 1) (As := []) (st := []) (st1 := [(2, a0)]) (by decide +kernel) yk_Machine_living (by decide) rfl ⟨ml_Machine_108, vk_Machine_living⟩ np_Machine_living rfl (by omega) q1c (c_Machine_living (d := d - 1) (by omega) q1) (Nat.le_of_ble_eq_true rfl) (Nat.le_of_ble_eq_true rfl) (Nat.le_of_ble_eq_true rfl) rfl ?_
  show Rn _ d _ _ 0 0 _ 4 [(0, (2, a0))] [(0, x1.1)] x1.2
  refine r_istore_n (pc := 4) (n := 1) (lv' := [(1, (0, x1.1)), (0, (2, a0))]) (by decide +kernel) rfl (Nat.le_of_ble_eq_true rfl) rfl ?_
  refine r_iconst (pc := 5) (z := 0) (by decide +kernel) ⟨by decide, by decide⟩ ?_
  refine r_istore_n (pc := 6) (n := 2) (lv' := [(2, (0, 0)), (1, (0, x1.1)), (0, (2, a0))]) (by decide +kernel) rfl (Nat.le_of_ble_eq_true rfl) rfl ?_
  refine r_lv [2, 1, 0] rfl ?_
  refine sL_Machine_isEndless_7 (by omega) ?_ _ _  _ h
  intro m7 h
  refine r_iconst (pc := 65) (z := 0) (by decide +kernel) ⟨by decide, by decide⟩ ?_
  refine r_istore_n (pc := 66) (n := 2) (lv' := [(2, (0, 0)), (0, (2, a0)), (1, (0, x1.1))]) (by decide +kernel) rfl (Nat.le_of_ble_eq_true rfl) rfl ?_
  refine r_lv [1, 2, 0] rfl ?_
  refine sL_Machine_isEndless_67 (by omega) ?_ _ _  _ h
  intro m67 h
  refine r_iconst (pc := 104) (z := 0) (by decide +kernel) ⟨by decide, by decide⟩ ?_
  obtain rfl := Option.some.inj h
  exact r_ret (pc := 105) (r := some (0, 0)) (by decide +kernel) rfl (Or.inl rfl) (Nat.le_of_ble_eq_true rfl) (Nat.le_of_ble_eq_true rfl)

/-! TreeTongues.ends(I)I -/
noncomputable def D_T_ends (a0 a1 : Int) (M : Mem) : Option (Int × Mem) := (ck M a0 8 8).bind fun _ => (D_T_find a0 a1 M).bind fun x2 => if x2.1 < 0 then (some ((-2), x2.2)) else ((ck x2.2 a0 8 8).bind fun _ => (D_T_isLarge a0 x2.1 x2.2).bind fun x15 => if x15.1 = 0 then ((gf x15.2 x2.1 7 8 1).bind fun g25 => (ck x15.2 g25 1 14).bind fun _ => (D_Machine_isEndless g25 x15.2).bind fun x28 => if x28.1 = 0 then (some (1, x28.2)) else (some (0, x28.2))) else (some ((-5), x15.2)))
theorem c_T_ends {d : Nat} (hd : 8 ≤ d) {a0 a1 : Int} {M : Mem} {x : Int × Mem} (h : D_T_ends a0 a1 M = some x) : Ct d Y_T_ends [(2, a0), (0, a1)] M (some (0, x.1), x.2) 0 0 := by
  refine ct_of yk_T_ends (Nat.le_of_ble_eq_true rfl) ?_
  rw [D_T_ends] at h
  show Rn Y_T_ends d 0 0 0 0 (some (0, x.1), x.2) 0 [(0, (2, a0)), (1, (0, a1))] [] M
  refine r_aload_n (pc := 0) 0 (n := 0) (by decide +kernel) rfl rfl ?_
  refine r_iload_n (pc := 1) 1 (n := 1) (by decide +kernel) rfl rfl ?_
  obtain ⟨_, q2c, h⟩ := bnd h
  obtain ⟨x2, q2, h⟩ := bnd h
  refine r_callV (pc := 2) (i := 98) (d2 := d - 1) (As := [(0, a1)]) (st := []) (st1 := [(0, a1), (2, a0)]) (by decide +kernel) yk_T_find (by decide) rfl ⟨ml_T_98, vk_T_find⟩ np_T_find rfl (by omega) q2c (c_T_find (d := d - 1) (by omega) q2) (Nat.le_of_ble_eq_true rfl) (Nat.le_of_ble_eq_true rfl) (Nat.le_of_ble_eq_true rfl) rfl ?_
  show Rn _ d _ _ 0 0 _ 5 [(0, (2, a0)), (1, (0, a1))] [(2, x2.1)] x2.2
  refine r_astore_n (pc := 5) (n := 2) (lv' := [(2, (2, x2.1)), (0, (2, a0)), (1, (0, a1))]) (by decide +kernel) rfl (Nat.le_of_ble_eq_true rfl) rfl ?_
  refine r_aload_n (pc := 6) 0 (n := 2) (by decide +kernel) rfl rfl ?_
  refine r_ifnonnull (pc := 7) (off := 6) (tgt := 13) (by decide +kernel) (by decide) (fun c7 => ?_) (fun c7 => ?_)
  · have h := ite_f c7 h
    refine r_aload_n (pc := 13) 1 (n := 0) (by decide +kernel) rfl rfl ?_
    refine r_aload_n (pc := 14) 0 (n := 2) (by decide +kernel) rfl rfl ?_
    obtain ⟨_, q15c, h⟩ := bnd h
    obtain ⟨x15, q15, h⟩ := bnd h
    refine r_callV (pc := 15) (i := 122) (d2 := d - 1) (As := [(2, x2.1)]) (st := []) (st1 := [(2, x2.1), (2, a0)]) (by decide +kernel) yk_T_isLarge (by decide) rfl ⟨ml_T_122, vk_T_isLarge⟩ np_T_isLarge rfl (by omega) q15c (c_T_isLarge (d := d - 1) (by omega) q15) (Nat.le_of_ble_eq_true rfl) (Nat.le_of_ble_eq_true rfl) (Nat.le_of_ble_eq_true rfl) rfl ?_
    show Rn _ d _ _ 0 0 _ 18 [(2, (2, x2.1)), (0, (2, a0)), (1, (0, a1))] [(0, x15.1)] x15.2
    refine r_if_eq (pc := 18) (off := 6) (tgt := 24) (by decide +kernel) (by decide) (fun c18 => ?_) (fun c18 => ?_)
    · have h := ite_t c18 h
      refine r_aload_n (pc := 24) 0 (n := 2) (by decide +kernel) rfl rfl ?_
      obtain ⟨g25, q25, h⟩ := bnd h
      refine r_get (pc := 25) (by decide +kernel) fl_T_126 (by decide) rfl q25 ?_
      obtain ⟨_, q28c, h⟩ := bnd h
      obtain ⟨x28, q28, h⟩ := bnd h
      refine r_callV (pc := 28) (i := 197) (d2 := d - 1) (As := []) (st := []) (st1 := [(2, g25)]) (by decide +kernel) yk_Machine_isEndless (by decide) rfl ⟨ml_T_197, vk_Machine_isEndless⟩ np_Machine_isEndless rfl (by omega) q28c (c_Machine_isEndless (d := d - 1) (by omega) q28) (Nat.le_of_ble_eq_true rfl) (Nat.le_of_ble_eq_true rfl) (Nat.le_of_ble_eq_true rfl) rfl ?_
      show Rn _ d _ _ 0 0 _ 31 [(2, (2, x2.1)), (0, (2, a0)), (1, (0, a1))] [(0, x28.1)] x28.2
      refine r_if_eq (pc := 31) (off := 7) (tgt := 38) (by decide +kernel) (by decide) (fun c31 => ?_) (fun c31 => ?_)
      · have h := ite_t c31 h
        refine r_iconst (pc := 38) (z := 1) (by decide +kernel) ⟨by decide, by decide⟩ ?_
        obtain rfl := Option.some.inj h
        exact r_ret (pc := 39) (r := some (0, 1)) (by decide +kernel) rfl trivial (Nat.le_of_ble_eq_true rfl) (Nat.le_of_ble_eq_true rfl)
      · have h := ite_f c31 h
        refine r_iconst (pc := 34) (z := 0) (by decide +kernel) ⟨by decide, by decide⟩ ?_
        refine r_goto (pc := 35) (off := 4) (tgt := 39) (by decide +kernel) (by decide) ?_
        obtain rfl := Option.some.inj h
        exact r_ret (pc := 39) (r := some (0, 0)) (by decide +kernel) rfl trivial (Nat.le_of_ble_eq_true rfl) (Nat.le_of_ble_eq_true rfl)
    · have h := ite_f c18 h
      refine r_bipush (pc := 21) (z := (-5)) (by decide +kernel) ⟨by decide, by decide⟩ ?_
      obtain rfl := Option.some.inj h
      exact r_ret (pc := 23) (r := some (0, (-5))) (by decide +kernel) rfl trivial (Nat.le_of_ble_eq_true rfl) (Nat.le_of_ble_eq_true rfl)
  · have h := ite_t c7 h
    refine r_bipush (pc := 10) (z := (-2)) (by decide +kernel) ⟨by decide, by decide⟩ ?_
    obtain rfl := Option.some.inj h
    exact r_ret (pc := 12) (r := some (0, (-2))) (by decide +kernel) rfl trivial (Nat.le_of_ble_eq_true rfl) (Nat.le_of_ble_eq_true rfl)

/-! java/util/Arrays.fill([JJ)V -/
noncomputable def L_Arr_fill_JJV_6 (k : Mem → Option (Mem)) (v0 : Int) (v1 : Int) (v4 : Int) : Nat → Int → Mem → Option (Mem)
  | 0 => fun _ _ => none
  | n + 1 => fun v3 M => if v4 ≤ v3 then (k  M) else ((wt M 11 v0 v3 v1).bind fun m15 => L_Arr_fill_JJV_6 k v0 v1 v4 n (wr (v3 + 1)) m15)
noncomputable def D_Arr_fill_JJV (a0 a1 : Int) (M : Mem) : Option (Mem) := (ln M a0).bind fun e3 => L_Arr_fill_JJV_6 (fun  m6 => some m6) a0 a1 e3 FU 0 M
theorem sL_Arr_fill_JJV_6 {d mc ms : Nat} (hd : 1 ≤ d) {r : Mem} {k : Mem → Option (Mem)} {v0 : Int} {v1 : Int} {v4 : Int} (hk : ∀ (M : Mem), k M = some r → Rn Y_Arr_fill_JJV d mc ms 0 0 (none, r) 22 [] [] M) : ∀ (n : Nat) (v3 : Int) (M : Mem), L_Arr_fill_JJV_6 k v0 v1 v4 n v3 M = some r → Rn Y_Arr_fill_JJV d mc ms 0 0 (none, r) 6 [(0, (2, v0)), (1, (1, v1)), (3, (0, v3)), (4, (0, v4))] [] M := by
  intro n
  induction n with
  | zero => intro _ _ h; cases h
  | succ n ih =>
    intro v3 M h
    rw [L_Arr_fill_JJV_6] at h
    refine r_iload_n (pc := 6) 2 (n := 3) (by decide +kernel) rfl rfl ?_
    refine r_iload (pc := 7) 3 (by decide +kernel) rfl ?_
    refine r_icmp_ge (pc := 9) (off := 13) (tgt := 22) (by decide +kernel) (by decide) (fun c9 => ?_) (fun c9 => ?_)
    · have h := ite_t c9 h
      refine r_lv [] rfl ?_
      exact hk  M h
    · have h := ite_f c9 h
      refine r_aload_n (pc := 12) 0 (n := 0) (by decide +kernel) rfl rfl ?_
      refine r_iload_n (pc := 13) 2 (n := 3) (by decide +kernel) rfl rfl ?_
      refine r_lload_n (pc := 14) 1 (n := 1) (by decide +kernel) rfl rfl ?_
      obtain ⟨m15, q15, h⟩ := bnd h
      refine r_last (pc := 15) (by decide +kernel) q15 ?_
      refine r_iinc (pc := 16) 2 (n := 1) (lv' := [(3, (0, wr (v3 + 1))), (0, (2, v0)), (1, (1, v1)), (4, (0, v4))]) (by decide +kernel) rfl (Nat.le_of_ble_eq_true rfl) rfl ?_
      refine r_goto (pc := 19) (off := (-13)) (tgt := 6) (by decide +kernel) (by decide) ?_
      refine r_lv [1, 2, 0, 3] rfl ?_
      exact ih (wr (v3 + 1)) m15 h
theorem c_Arr_fill_JJV {d : Nat} (hd : 1 ≤ d) {a0 a1 : Int} {M : Mem} {x : Mem} (h : D_Arr_fill_JJV a0 a1 M = some x) : Ct d Y_Arr_fill_JJV [(2, a0), (1, a1)] M (none, x) 0 0 := by
  refine ct_of yk_Arr_fill_JJV (Nat.le_of_ble_eq_true rfl) ?_
  rw [D_Arr_fill_JJV] at h
  show Rn Y_Arr_fill_JJV d 0 0 0 0 (none, x) 0 [(0, (2, a0)), (1, (1, a1))] [] M
  refine r_iconst (pc := 0) (z := 0) (by decide +kernel) ⟨by decide, by decide⟩ ?_
  refine r_istore_n (pc := 1) (n := 3) (lv' := [(3, (0, 0)), (0, (2, a0)), (1, (1, a1))]) (by decide +kernel) rfl (Nat.le_of_ble_eq_true rfl) rfl ?_
  refine r_aload_n (pc := 2) 1 (n := 0) (by decide +kernel) rfl rfl ?_
  obtain ⟨e3, q3, h⟩ := bnd h
  refine r_len (pc := 3) (by decide +kernel) q3 ?_
  refine r_istore (pc := 4) (lv' := [(4, (0, e3)), (3, (0, 0)), (0, (2, a0)), (1, (1, a1))]) (by decide +kernel) (Nat.le_of_ble_eq_true rfl) rfl ?_
  refine r_lv [2, 3, 1, 0] rfl ?_
  refine sL_Arr_fill_JJV_6 (by omega) ?_ _ _  _ h
  intro m6 h
  obtain rfl := Option.some.inj h
  exact r_ret (pc := 22) (r := none) (by decide +kernel) rfl trivial (Nat.le_of_ble_eq_true rfl) (Nat.le_of_ble_eq_true rfl)

/-! TreeTongues$Census.plus(JJ)J -/
noncomputable def D_Census_plus (a0 a1 : Int) (M : Mem) : Option (Int × Mem) := some (if 1000000000000000000 < (wl (a0 + a1)) then 1000000000000000000 else (wl (a0 + a1)), M)
theorem c_Census_plus {d : Nat} (hd : 1 ≤ d) {a0 a1 : Int} {M : Mem} {x : Int × Mem} (h : D_Census_plus a0 a1 M = some x) : Ct d Y_Census_plus [(1, a0), (1, a1)] M (some (1, x.1), x.2) 0 0 := by
  refine ct_of yk_Census_plus (Nat.le_of_ble_eq_true rfl) ?_
  rw [D_Census_plus] at h
  show Rn Y_Census_plus d 0 0 0 0 (some (1, x.1), x.2) 0 [(0, (1, a0)), (2, (1, a1))] [] M
  refine r_lload_n (pc := 0) 0 (n := 0) (by decide +kernel) rfl rfl ?_
  refine r_lload_n (pc := 1) 1 (n := 2) (by decide +kernel) rfl rfl ?_
  refine r_ladd (pc := 2) (by decide +kernel) ?_
  refine r_ldc2 (pc := 3) (i := 150) (z := 1000000000000000000) (by decide +kernel) (mg 810 (by decide +kernel) (by decide +kernel)) ⟨by decide, by decide⟩ ?_
  refine r_mmin (pc := 6) (i := 152) (by decide +kernel) (mg 811 (by decide +kernel) (by decide +kernel)) mw_min (by omega) (Nat.le_of_ble_eq_true rfl) (Nat.le_of_ble_eq_true rfl) (Nat.le_of_ble_eq_true rfl) ?_
  obtain rfl := Option.some.inj h
  exact r_ret (pc := 9) (r := some (1, if 1000000000000000000 < (wl (a0 + a1)) then 1000000000000000000 else (wl (a0 + a1)))) (by decide +kernel) rfl trivial (Nat.le_of_ble_eq_true rfl) (Nat.le_of_ble_eq_true rfl)

/-! TreeTongues$Census.add(LTreeTongues$Machine;IIJ)V -/
noncomputable def D_Census_add (a0 a1 a2 a3 a4 : Int) (M : Mem) : Option (Mem) := lt (wr ((wr (a2 * 6)) + a3)) fun u6_6 => (gf M a1 1 14 6).bind fun g9 => (gf M a1 1 14 6).bind fun g15 => (rd M 11 g15 u6_6).bind fun e20 => (D_Census_plus e20 a4 M).bind fun x23 => (wt x23.2 11 g9 u6_6 x23.1).bind fun m26 => some m26
theorem c_Census_add {d : Nat} (hd : 2 ≤ d) {a0 a1 a2 a3 a4 : Int} {M : Mem} {x : Mem} (h : D_Census_add a0 a1 a2 a3 a4 M = some x) : Ct d Y_Census_add [(2, a0), (2, a1), (0, a2), (0, a3), (1, a4)] M (none, x) 0 0 := by
  refine ct_of yk_Census_add (Nat.le_of_ble_eq_true rfl) ?_
  rw [D_Census_add] at h
  show Rn Y_Census_add d 0 0 0 0 (none, x) 0 [(0, (2, a0)), (1, (2, a1)), (2, (0, a2)), (3, (0, a3)), (4, (1, a4))] [] M
  refine r_iload_n (pc := 0) 2 (n := 2) (by decide +kernel) rfl rfl ?_
  refine r_bipush (pc := 1) (z := 6) (by decide +kernel) ⟨by decide, by decide⟩ ?_
  refine r_imul (pc := 3) (by decide +kernel) ?_
  refine r_iload_n (pc := 4) 3 (n := 3) (by decide +kernel) rfl rfl ?_
  refine r_iadd (pc := 5) (by decide +kernel) ?_
  obtain ⟨u6_6, q6, h⟩ := lt_o h
  refine r_eq q6 ?_
  refine r_istore (pc := 6) (lv' := [(6, (0, u6_6)), (0, (2, a0)), (1, (2, a1)), (2, (0, a2)), (3, (0, a3)), (4, (1, a4))]) (by decide +kernel) (Nat.le_of_ble_eq_true rfl) rfl ?_
  refine r_aload_n (pc := 8) 2 (n := 1) (by decide +kernel) rfl rfl ?_
  obtain ⟨g9, q9, h⟩ := bnd h
  refine r_get (pc := 9) (by decide +kernel) fl_Census_41 (by decide) rfl q9 ?_
  refine r_iload (pc := 12) 0 (by decide +kernel) rfl ?_
  refine r_aload_n (pc := 14) 2 (n := 1) (by decide +kernel) rfl rfl ?_
  obtain ⟨g15, q15, h⟩ := bnd h
  refine r_get (pc := 15) (by decide +kernel) fl_Census_41 (by decide) rfl q15 ?_
  refine r_iload (pc := 18) 0 (by decide +kernel) rfl ?_
  obtain ⟨e20, q20, h⟩ := bnd h
  refine r_lald (pc := 20) (by decide +kernel) q20 ?_
  refine r_lload (pc := 21) 5 (by decide +kernel) rfl ?_
  obtain ⟨x23, q23, h⟩ := bnd h
  refine r_callS (pc := 23) (i := 44) (d2 := d - 1) (As := [(1, e20), (1, a4)]) (st := [(0, u6_6), (2, g9)]) (st1 := [(1, a4), (1, e20), (0, u6_6), (2, g9)]) (by decide +kernel) yk_Census_plus ⟨ml_Census_44, sk_Census_plus⟩ np_Census_plus rfl (by omega) (c_Census_plus (d := d - 1) (by omega) q23) (Nat.le_of_ble_eq_true rfl) (Nat.le_of_ble_eq_true rfl) (Nat.le_of_ble_eq_true rfl) rfl ?_
  show Rn _ d _ _ 0 0 _ 26 [(6, (0, u6_6)), (0, (2, a0)), (1, (2, a1)), (2, (0, a2)), (3, (0, a3)), (4, (1, a4))] [(1, x23.1), (0, u6_6), (2, g9)] x23.2
  obtain ⟨m26, q26, h⟩ := bnd h
  refine r_last (pc := 26) (by decide +kernel) q26 ?_
  obtain rfl := Option.some.inj h
  exact r_ret (pc := 27) (r := none) (by decide +kernel) rfl trivial (Nat.le_of_ble_eq_true rfl) (Nat.le_of_ble_eq_true rfl)

/-! TreeTongues$Census.countSimple(LTreeTongues$Machine;I)V -/
noncomputable def L_Census_countSimple_50 (k : Mem → Option (Mem)) (v0 : Int) (v1 : Int) (v2 : Int) (v3 : Int) (v4 : Int) : Nat → Int → Mem → Option (Mem)
  | 0 => fun _ _ => none
  | n + 1 => fun v5 M => (if v4 = 1 then ((gf M v1 1 14 10).bind fun g59 => if g59 ≤ v5 then (some 0) else (some 1)) else (some 0)).bind fun (t53 : Int) => if t53 = 0 then (k  M) else ((ck M v1 1 14).bind fun _ => (D_Machine_step v1 v3 v5 0 M).bind fun x73 => (gf x73.2 v1 1 14 6).bind fun g77 => (rd x73.2 11 g77 (wr ((wr ((wr (v2 - 1)) * 6)) + v5))).bind fun e89 => (ck x73.2 v0 0 4).bind fun _ => (D_Census_add v0 v1 v2 x73.1 e89 x73.2).bind fun x90 => L_Census_countSimple_50 k v0 v1 v2 v3 v4 n (wr (v5 + 1)) x90)
noncomputable def L_Census_countSimple_2 (k : Mem → Option (Mem)) (v0 : Int) (v1 : Int) (v2 : Int) : Nat → Int → Mem → Option (Mem)
  | 0 => fun _ _ => none
  | n + 1 => fun v3 M => (gf M v0 0 4 0).bind fun g4 => (gf M g4 5 3 1).bind fun g7 => if g7 ≤ v3 then (k  M) else ((gf M v0 0 4 0).bind fun g14 => (ck M g14 5 3).bind fun _ => (D_Signs_rankOf g14 v3 M).bind fun x18 => (if x18.1 = 0 then (if v2 = 1 then ((ck x18.2 v1 1 14).bind fun _ => (D_Machine_step v1 v3 0 0 x18.2).bind fun x40 => (ck x40.2 v0 0 4).bind fun _ => (D_Census_add v0 v1 v2 x40.1 1 x40.2).bind fun x44 => some x44) else (some x18.2)) else (some x18.2)).bind fun (t25 : Mem) => L_Census_countSimple_50 (fun  m50 => L_Census_countSimple_2 k v0 v1 v2 n (wr (v3 + 1)) m50) v0 v1 v2 v3 x18.1 FU 0 t25)
noncomputable def D_Census_countSimple (a0 a1 a2 : Int) (M : Mem) : Option (Mem) := L_Census_countSimple_2 (fun  m2 => some m2) a0 a1 a2 FU 0 M
theorem sL_Census_countSimple_50 {d mc ms : Nat} (hd : 4 ≤ d) {r : Mem} {k : Mem → Option (Mem)} {v0 : Int} {v1 : Int} {v2 : Int} {v3 : Int} {v4 : Int} (hk : ∀ (M : Mem), k M = some r → Rn Y_Census_countSimple d mc ms 0 0 (none, r) 99 [(0, (2, v0)), (1, (2, v1)), (2, (0, v2)), (3, (0, v3))] [] M) : ∀ (n : Nat) (v5 : Int) (M : Mem), L_Census_countSimple_50 k v0 v1 v2 v3 v4 n v5 M = some r → Rn Y_Census_countSimple d mc ms 0 0 (none, r) 50 [(0, (2, v0)), (1, (2, v1)), (2, (0, v2)), (3, (0, v3)), (4, (0, v4)), (5, (0, v5))] [] M := by
  intro n
  induction n with
  | zero => intro _ _ h; cases h
  | succ n ih =>
    intro v5 M h
    rw [L_Census_countSimple_50] at h
    refine r_iload (pc := 50) 4 (by decide +kernel) rfl ?_
    refine r_iconst (pc := 52) (z := 1) (by decide +kernel) ⟨by decide, by decide⟩ ?_
    obtain ⟨t53, ht53, h⟩ := bnd h
    have E53_0 : t53 = 0 → Rn Y_Census_countSimple d mc ms 0 0 (none, r) 99 [(0, (2, v0)), (1, (2, v1)), (2, (0, v2)), (3, (0, v3))] [] M := by
      intro y0
      have h := ite_t y0 h
      exact hk  M h
    have E53_1 : ¬ t53 = 0 → Rn Y_Census_countSimple d mc ms 0 0 (none, r) 65 [(0, (2, v0)), (1, (2, v1)), (2, (0, v2)), (3, (0, v3)), (4, (0, v4)), (5, (0, v5))] [] M := by
      intro n0
      have h := ite_f n0 h
      refine r_aload_n (pc := 65) 0 (n := 0) (by decide +kernel) rfl rfl ?_
      refine r_aload_n (pc := 66) 1 (n := 1) (by decide +kernel) rfl rfl ?_
      refine r_iload_n (pc := 67) 2 (n := 2) (by decide +kernel) rfl rfl ?_
      refine r_aload_n (pc := 68) 1 (n := 1) (by decide +kernel) rfl rfl ?_
      refine r_iload_n (pc := 69) 3 (n := 3) (by decide +kernel) rfl rfl ?_
      refine r_iload (pc := 70) 5 (by decide +kernel) rfl ?_
      refine r_iconst (pc := 72) (z := 0) (by decide +kernel) ⟨by decide, by decide⟩ ?_
      obtain ⟨_, q73c, h⟩ := bnd h
      obtain ⟨x73, q73, h⟩ := bnd h
      refine r_callV (pc := 73) (i := 100) (d2 := d - 1) (As := [(0, v3), (0, v5), (0, 0)]) (st := [(0, v2), (2, v1), (2, v0)]) (st1 := [(0, 0), (0, v5), (0, v3), (2, v1), (0, v2), (2, v1), (2, v0)]) (by decide +kernel) yk_Machine_step (by decide) rfl ⟨ml_Census_100, vk_Machine_step⟩ np_Machine_step rfl (by omega) q73c (c_Machine_step (d := d - 1) (by omega) q73) (Nat.le_of_ble_eq_true rfl) (Nat.le_of_ble_eq_true rfl) (Nat.le_of_ble_eq_true rfl) rfl ?_
      show Rn _ d _ _ 0 0 _ 76 [(0, (2, v0)), (1, (2, v1)), (2, (0, v2)), (3, (0, v3)), (4, (0, v4)), (5, (0, v5))] [(0, x73.1), (0, v2), (2, v1), (2, v0)] x73.2
      refine r_aload_n (pc := 76) 1 (n := 1) (by decide +kernel) rfl rfl ?_
      obtain ⟨g77, q77, h⟩ := bnd h
      refine r_get (pc := 77) (by decide +kernel) fl_Census_41 (by decide) rfl q77 ?_
      refine r_iload_n (pc := 80) 2 (n := 2) (by decide +kernel) rfl rfl ?_
      refine r_iconst (pc := 81) (z := 1) (by decide +kernel) ⟨by decide, by decide⟩ ?_
      refine r_isub (pc := 82) (by decide +kernel) ?_
      refine r_bipush (pc := 83) (z := 6) (by decide +kernel) ⟨by decide, by decide⟩ ?_
      refine r_imul (pc := 85) (by decide +kernel) ?_
      refine r_iload (pc := 86) 5 (by decide +kernel) rfl ?_
      refine r_iadd (pc := 88) (by decide +kernel) ?_
      obtain ⟨e89, q89, h⟩ := bnd h
      refine r_lald (pc := 89) (by decide +kernel) q89 ?_
      obtain ⟨_, q90c, h⟩ := bnd h
      obtain ⟨x90, q90, h⟩ := bnd h
      refine r_callV (pc := 90) (i := 104) (d2 := d - 1) (As := [(2, v1), (0, v2), (0, x73.1), (1, e89)]) (st := []) (st1 := [(1, e89), (0, x73.1), (0, v2), (2, v1), (2, v0)]) (by decide +kernel) yk_Census_add (by decide) rfl ⟨ml_Census_104, vk_Census_add⟩ np_Census_add rfl (by omega) q90c (c_Census_add (d := d - 1) (by omega) q90) (Nat.le_of_ble_eq_true rfl) (Nat.le_of_ble_eq_true rfl) (Nat.le_of_ble_eq_true rfl) rfl ?_
      show Rn _ d _ _ 0 0 _ 93 [(0, (2, v0)), (1, (2, v1)), (2, (0, v2)), (3, (0, v3)), (4, (0, v4)), (5, (0, v5))] [] x90
      refine r_iinc (pc := 93) 5 (n := 1) (lv' := [(5, (0, wr (v5 + 1))), (0, (2, v0)), (1, (2, v1)), (2, (0, v2)), (3, (0, v3)), (4, (0, v4))]) (by decide +kernel) rfl (Nat.le_of_ble_eq_true rfl) rfl ?_
      refine r_goto (pc := 96) (off := (-46)) (tgt := 50) (by decide +kernel) (by decide) ?_
      refine r_lv [1, 2, 3, 4, 5, 0] rfl ?_
      exact ih (wr (v5 + 1)) x90 h
    refine r_icmp_ne (pc := 53) (off := 46) (tgt := 99) (by decide +kernel) (by decide) (fun c53 => ?_) (fun c53 => ?_)
    · have ht53 := ite_f c53 ht53
      obtain rfl := Option.some.inj ht53
      refine r_lv [0, 1, 2, 3] rfl ?_
      exact E53_0 rfl
    · have ht53 := ite_t c53 ht53
      refine r_iload (pc := 56) 5 (by decide +kernel) rfl ?_
      refine r_aload_n (pc := 58) 1 (n := 1) (by decide +kernel) rfl rfl ?_
      obtain ⟨g59, q59, ht53⟩ := bnd ht53
      refine r_get (pc := 59) (by decide +kernel) fl_Census_31.r (by decide) rfl q59 ?_
      refine r_icmp_ge (pc := 62) (off := 37) (tgt := 99) (by decide +kernel) (by decide) (fun c62 => ?_) (fun c62 => ?_)
      · have ht53 := ite_t c62 ht53
        obtain rfl := Option.some.inj ht53
        refine r_lv [0, 1, 2, 3] rfl ?_
        exact E53_0 rfl
      · have ht53 := ite_f c62 ht53
        obtain rfl := Option.some.inj ht53
        exact E53_1 (show ¬ (1 : Int) = 0 by decide)
theorem sL_Census_countSimple_2 {d mc ms : Nat} (hd : 4 ≤ d) {r : Mem} {k : Mem → Option (Mem)} {v0 : Int} {v1 : Int} {v2 : Int} (hk : ∀ (M : Mem), k M = some r → Rn Y_Census_countSimple d mc ms 0 0 (none, r) 105 [] [] M) : ∀ (n : Nat) (v3 : Int) (M : Mem), L_Census_countSimple_2 k v0 v1 v2 n v3 M = some r → Rn Y_Census_countSimple d mc ms 0 0 (none, r) 2 [(0, (2, v0)), (1, (2, v1)), (2, (0, v2)), (3, (0, v3))] [] M := by
  intro n
  induction n with
  | zero => intro _ _ h; cases h
  | succ n ih =>
    intro v3 M h
    rw [L_Census_countSimple_2] at h
    refine r_iload_n (pc := 2) 3 (n := 3) (by decide +kernel) rfl rfl ?_
    refine r_aload_n (pc := 3) 0 (n := 0) (by decide +kernel) rfl rfl ?_
    obtain ⟨g4, q4, h⟩ := bnd h
    refine r_get (pc := 4) (by decide +kernel) fl_Census_19.r (by decide) rfl q4 ?_
    obtain ⟨g7, q7, h⟩ := bnd h
    refine r_get (pc := 7) (by decide +kernel) fl_Census_94.r (by decide) rfl q7 ?_
    refine r_icmp_ge (pc := 10) (off := 95) (tgt := 105) (by decide +kernel) (by decide) (fun c10 => ?_) (fun c10 => ?_)
    · have h := ite_t c10 h
      refine r_lv [] rfl ?_
      exact hk  M h
    · have h := ite_f c10 h
      refine r_aload_n (pc := 13) 0 (n := 0) (by decide +kernel) rfl rfl ?_
      obtain ⟨g14, q14, h⟩ := bnd h
      refine r_get (pc := 14) (by decide +kernel) fl_Census_19.r (by decide) rfl q14 ?_
      refine r_iload_n (pc := 17) 3 (n := 3) (by decide +kernel) rfl rfl ?_
      obtain ⟨_, q18c, h⟩ := bnd h
      obtain ⟨x18, q18, h⟩ := bnd h
      refine r_callV (pc := 18) (i := 97) (d2 := d - 1) (As := [(0, v3)]) (st := []) (st1 := [(0, v3), (2, g14)]) (by decide +kernel) yk_Signs_rankOf (by decide) rfl ⟨ml_Census_97, vk_Signs_rankOf⟩ np_Signs_rankOf rfl (by omega) q18c (c_Signs_rankOf (d := d - 1) (by omega) q18) (Nat.le_of_ble_eq_true rfl) (Nat.le_of_ble_eq_true rfl) (Nat.le_of_ble_eq_true rfl) rfl ?_
      show Rn _ d _ _ 0 0 _ 21 [(0, (2, v0)), (1, (2, v1)), (2, (0, v2)), (3, (0, v3))] [(0, x18.1)] x18.2
      refine r_istore (pc := 21) (lv' := [(4, (0, x18.1)), (0, (2, v0)), (1, (2, v1)), (2, (0, v2)), (3, (0, v3))]) (by decide +kernel) (Nat.le_of_ble_eq_true rfl) rfl ?_
      refine r_iload (pc := 23) 0 (by decide +kernel) rfl ?_
      obtain ⟨t25, ht25, h⟩ := bnd h
      have E25_0 : Rn Y_Census_countSimple d mc ms 0 0 (none, r) 47 [(0, (2, v0)), (1, (2, v1)), (2, (0, v2)), (3, (0, v3)), (4, (0, x18.1))] [] t25 := by
        refine r_iconst (pc := 47) (z := 0) (by decide +kernel) ⟨by decide, by decide⟩ ?_
        refine r_istore (pc := 48) (lv' := [(5, (0, 0)), (0, (2, v0)), (1, (2, v1)), (2, (0, v2)), (3, (0, v3)), (4, (0, x18.1))]) (by decide +kernel) (Nat.le_of_ble_eq_true rfl) rfl ?_
        refine r_lv [1, 2, 3, 4, 5, 0] rfl ?_
        refine sL_Census_countSimple_50 (by omega) ?_ _ _  _ h
        intro m50 h
        refine r_iinc (pc := 99) 3 (n := 1) (lv' := [(3, (0, wr (v3 + 1))), (0, (2, v0)), (1, (2, v1)), (2, (0, v2))]) (by decide +kernel) rfl (Nat.le_of_ble_eq_true rfl) rfl ?_
        refine r_goto (pc := 102) (off := (-100)) (tgt := 2) (by decide +kernel) (by decide) ?_
        refine r_lv [1, 2, 3, 0] rfl ?_
        exact ih (wr (v3 + 1)) m50 h
      refine r_if_ne (pc := 25) (off := 22) (tgt := 47) (by decide +kernel) (by decide) (fun c25 => ?_) (fun c25 => ?_)
      · have ht25 := ite_f c25 ht25
        obtain rfl := Option.some.inj ht25
        refine r_lv [1, 2, 3, 4, 0] rfl ?_
        exact E25_0
      · have ht25 := ite_t c25 ht25
        refine r_iload_n (pc := 28) 3 (n := 2) (by decide +kernel) rfl rfl ?_
        refine r_iconst (pc := 29) (z := 1) (by decide +kernel) ⟨by decide, by decide⟩ ?_
        refine r_icmp_ne (pc := 30) (off := 17) (tgt := 47) (by decide +kernel) (by decide) (fun c30 => ?_) (fun c30 => ?_)
        · have ht25 := ite_f c30 ht25
          obtain rfl := Option.some.inj ht25
          refine r_lv [1, 2, 3, 4, 0] rfl ?_
          exact E25_0
        · have ht25 := ite_t c30 ht25
          refine r_aload_n (pc := 33) 1 (n := 0) (by decide +kernel) rfl rfl ?_
          refine r_aload_n (pc := 34) 2 (n := 1) (by decide +kernel) rfl rfl ?_
          refine r_iload_n (pc := 35) 3 (n := 2) (by decide +kernel) rfl rfl ?_
          refine r_aload_n (pc := 36) 2 (n := 1) (by decide +kernel) rfl rfl ?_
          refine r_iload_n (pc := 37) 4 (n := 3) (by decide +kernel) rfl rfl ?_
          refine r_iconst (pc := 38) (z := 0) (by decide +kernel) ⟨by decide, by decide⟩ ?_
          refine r_iconst (pc := 39) (z := 0) (by decide +kernel) ⟨by decide, by decide⟩ ?_
          obtain ⟨_, q40c, ht25⟩ := bnd ht25
          obtain ⟨x40, q40, ht25⟩ := bnd ht25
          refine r_callV (pc := 40) (i := 100) (d2 := d - 1) (As := [(0, v3), (0, 0), (0, 0)]) (st := [(0, v2), (2, v1), (2, v0)]) (st1 := [(0, 0), (0, 0), (0, v3), (2, v1), (0, v2), (2, v1), (2, v0)]) (by decide +kernel) yk_Machine_step (by decide) rfl ⟨ml_Census_100, vk_Machine_step⟩ np_Machine_step rfl (by omega) q40c (c_Machine_step (d := d - 1) (by omega) q40) (Nat.le_of_ble_eq_true rfl) (Nat.le_of_ble_eq_true rfl) (Nat.le_of_ble_eq_true rfl) rfl ?_
          show Rn _ d _ _ 0 0 _ 43 [(4, (0, x18.1)), (0, (2, v0)), (1, (2, v1)), (2, (0, v2)), (3, (0, v3))] [(0, x40.1), (0, v2), (2, v1), (2, v0)] x40.2
          refine r_lconst (pc := 43) (n := 1) (z := 1) (by decide +kernel) rfl ?_
          obtain ⟨_, q44c, ht25⟩ := bnd ht25
          obtain ⟨x44, q44, ht25⟩ := bnd ht25
          refine r_callV (pc := 44) (i := 104) (d2 := d - 1) (As := [(2, v1), (0, v2), (0, x40.1), (1, 1)]) (st := []) (st1 := [(1, 1), (0, x40.1), (0, v2), (2, v1), (2, v0)]) (by decide +kernel) yk_Census_add (by decide) rfl ⟨ml_Census_104, vk_Census_add⟩ np_Census_add rfl (by omega) q44c (c_Census_add (d := d - 1) (by omega) q44) (Nat.le_of_ble_eq_true rfl) (Nat.le_of_ble_eq_true rfl) (Nat.le_of_ble_eq_true rfl) rfl ?_
          show Rn _ d _ _ 0 0 _ 47 [(4, (0, x18.1)), (0, (2, v0)), (1, (2, v1)), (2, (0, v2)), (3, (0, v3))] [] x44
          obtain rfl := Option.some.inj ht25
          refine r_lv [1, 2, 3, 4, 0] rfl ?_
          exact E25_0
theorem c_Census_countSimple {d : Nat} (hd : 4 ≤ d) {a0 a1 a2 : Int} {M : Mem} {x : Mem} (h : D_Census_countSimple a0 a1 a2 M = some x) : Ct d Y_Census_countSimple [(2, a0), (2, a1), (0, a2)] M (none, x) 0 0 := by
  refine ct_of yk_Census_countSimple (Nat.le_of_ble_eq_true rfl) ?_
  rw [D_Census_countSimple] at h
  show Rn Y_Census_countSimple d 0 0 0 0 (none, x) 0 [(0, (2, a0)), (1, (2, a1)), (2, (0, a2))] [] M
  refine r_iconst (pc := 0) (z := 0) (by decide +kernel) ⟨by decide, by decide⟩ ?_
  refine r_istore_n (pc := 1) (n := 3) (lv' := [(3, (0, 0)), (0, (2, a0)), (1, (2, a1)), (2, (0, a2))]) (by decide +kernel) rfl (Nat.le_of_ble_eq_true rfl) rfl ?_
  refine r_lv [1, 2, 3, 0] rfl ?_
  refine sL_Census_countSimple_2 (by omega) ?_ _ _  _ h
  intro m2 h
  obtain rfl := Option.some.inj h
  exact r_ret (pc := 105) (r := none) (by decide +kernel) rfl trivial (Nat.le_of_ble_eq_true rfl) (Nat.le_of_ble_eq_true rfl)
