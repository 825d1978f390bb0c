/-! TreeTonguesModel.classOf(I)I -/
noncomputable def D_M_classOf (a0 a1 : Int) (M : Mem) : Option (Int × Mem) := (ck M a0 9 54).bind fun _ => (D_M_asked a0 a1 M).bind fun x2 => if 0 ≤ x2.1 then ((gf x2.2 a0 9 54 43).bind fun g15 => (rd x2.2 10 g15 0).bind fun e19 => some (e19, x2.2)) else (some (x2.1, x2.2))
theorem c_M_classOf {d : Nat} (hd : 10 ≤ d) {a0 a1 : Int} {M : Mem} {x : Int × Mem} (h : D_M_classOf a0 a1 M = some x) : Ct d Y_M_classOf [(2, a0), (0, a1)] M (some (0, x.1), x.2) 0 0 := by
  refine ct_of yk_M_classOf (Nat.le_of_ble_eq_true rfl) ?_
  rw [D_M_classOf] at h
  show Rn Y_M_classOf d 0 0 0 0 (some (0, x.1), x.2) 0 [(0, (2, a0)), (1, (0, a1))] [] M
  refine r_aload_n (pc := 0) 0 (n := 0) (by decide +kernel) rfl rfl ?_
  refine r_iload_n (pc := 1) 1 (n := 1) (by decide +kernel) rfl rfl ?_
  obtain ⟨_, q2c, h⟩ := bnd h
  obtain ⟨x2, q2, h⟩ := bnd h
  refine r_callV (pc := 2) (i := 285) (d2 := d - 1) (As := [(0, a1)]) (st := []) (st1 := [(0, a1), (2, a0)]) (by decide +kernel) yk_M_asked (by decide) rfl ⟨ml_M_285, vk_M_asked⟩ np_M_asked rfl (by omega) q2c (c_M_asked (d := d - 1) (by omega) q2) (Nat.le_of_ble_eq_true rfl) (Nat.le_of_ble_eq_true rfl) (Nat.le_of_ble_eq_true rfl) rfl ?_
  show Rn _ d _ _ 0 0 _ 5 [(0, (2, a0)), (1, (0, a1))] [(0, x2.1)] x2.2
  refine r_istore_n (pc := 5) (n := 2) (lv' := [(2, (0, x2.1)), (0, (2, a0)), (1, (0, a1))]) (by decide +kernel) rfl (Nat.le_of_ble_eq_true rfl) rfl ?_
  refine r_iload_n (pc := 6) 0 (n := 2) (by decide +kernel) rfl rfl ?_
  refine r_if_ge (pc := 7) (off := 7) (tgt := 14) (by decide +kernel) (by decide) (fun c7 => ?_) (fun c7 => ?_)
  · have h := ite_t c7 h
    refine r_aload_n (pc := 14) 1 (n := 0) (by decide +kernel) rfl rfl ?_
    obtain ⟨g15, q15, h⟩ := bnd h
    refine r_get (pc := 15) (by decide +kernel) fl_M_96.r (by decide) rfl q15 ?_
    refine r_iconst (pc := 18) (z := 0) (by decide +kernel) ⟨by decide, by decide⟩ ?_
    obtain ⟨e19, q19, h⟩ := bnd h
    refine r_iald (pc := 19) (by decide +kernel) q19 ?_
    obtain rfl := Option.some.inj h
    exact r_ret (pc := 20) (r := some (0, e19)) (by decide +kernel) rfl trivial (Nat.le_of_ble_eq_true rfl) (Nat.le_of_ble_eq_true rfl)
  · have h := ite_f c7 h
    refine r_iload_n (pc := 10) 0 (n := 2) (by decide +kernel) rfl rfl ?_
    refine r_goto (pc := 11) (off := 9) (tgt := 20) (by decide +kernel) (by decide) ?_
    obtain rfl := Option.some.inj h
    exact r_ret (pc := 20) (r := some (0, x2.1)) (by decide +kernel) rfl trivial (Nat.le_of_ble_eq_true rfl) (Nat.le_of_ble_eq_true rfl)

/-! TreeTonguesModel.has(I)I -/
noncomputable def D_M_has (a0 a1 : Int) (M : Mem) : Option (Int × Mem) := (ck M a0 9 54).bind fun _ => (D_M_asked a0 a1 M).bind fun x2 => if 0 ≤ x2.1 then ((gf x2.2 a0 9 54 15).bind fun g15 => (gf x2.2 a0 9 54 43).bind fun g21 => (rd x2.2 10 g21 0).bind fun e25 => (rd x2.2 12 g15 (wr (96 + e25))).bind fun e27 => if e27 = 0 then (some (0, x2.2)) else (some (1, x2.2))) else (some (x2.1, x2.2))
theorem c_M_has {d : Nat} (hd : 10 ≤ d) {a0 a1 : Int} {M : Mem} {x : Int × Mem} (h : D_M_has a0 a1 M = some x) : Ct d Y_M_has [(2, a0), (0, a1)] M (some (0, x.1), x.2) 0 0 := by
  refine ct_of yk_M_has (Nat.le_of_ble_eq_true rfl) ?_
  rw [D_M_has] at h
  show Rn Y_M_has d 0 0 0 0 (some (0, x.1), x.2) 0 [(0, (2, a0)), (1, (0, a1))] [] M
  refine r_aload_n (pc := 0) 0 (n := 0) (by decide +kernel) rfl rfl ?_
  refine r_iload_n (pc := 1) 1 (n := 1) (by decide +kernel) rfl rfl ?_
  obtain ⟨_, q2c, h⟩ := bnd h
  obtain ⟨x2, q2, h⟩ := bnd h
  refine r_callV (pc := 2) (i := 285) (d2 := d - 1) (As := [(0, a1)]) (st := []) (st1 := [(0, a1), (2, a0)]) (by decide +kernel) yk_M_asked (by decide) rfl ⟨ml_M_285, vk_M_asked⟩ np_M_asked rfl (by omega) q2c (c_M_asked (d := d - 1) (by omega) q2) (Nat.le_of_ble_eq_true rfl) (Nat.le_of_ble_eq_true rfl) (Nat.le_of_ble_eq_true rfl) rfl ?_
  show Rn _ d _ _ 0 0 _ 5 [(0, (2, a0)), (1, (0, a1))] [(0, x2.1)] x2.2
  refine r_istore_n (pc := 5) (n := 2) (lv' := [(2, (0, x2.1)), (0, (2, a0)), (1, (0, a1))]) (by decide +kernel) rfl (Nat.le_of_ble_eq_true rfl) rfl ?_
  refine r_iload_n (pc := 6) 0 (n := 2) (by decide +kernel) rfl rfl ?_
  refine r_if_ge (pc := 7) (off := 7) (tgt := 14) (by decide +kernel) (by decide) (fun c7 => ?_) (fun c7 => ?_)
  · have h := ite_t c7 h
    refine r_aload_n (pc := 14) 1 (n := 0) (by decide +kernel) rfl rfl ?_
    obtain ⟨g15, q15, h⟩ := bnd h
    refine r_get (pc := 15) (by decide +kernel) fl_M_47.r (by decide) rfl q15 ?_
    refine r_bipush (pc := 18) (z := 96) (by decide +kernel) ⟨by decide, by decide⟩ ?_
    refine r_aload_n (pc := 20) 1 (n := 0) (by decide +kernel) rfl rfl ?_
    obtain ⟨g21, q21, h⟩ := bnd h
    refine r_get (pc := 21) (by decide +kernel) fl_M_96.r (by decide) rfl q21 ?_
    refine r_iconst (pc := 24) (z := 0) (by decide +kernel) ⟨by decide, by decide⟩ ?_
    obtain ⟨e25, q25, h⟩ := bnd h
    refine r_iald (pc := 25) (by decide +kernel) q25 ?_
    refine r_iadd (pc := 26) (by decide +kernel) ?_
    obtain ⟨e27, q27, h⟩ := bnd h
    refine r_zald (pc := 27) (by decide +kernel) q27 ?_
    refine r_if_eq (pc := 28) (off := 7) (tgt := 35) (by decide +kernel) (by decide) (fun c28 => ?_) (fun c28 => ?_)
    · have h := ite_t c28 h
      refine r_iconst (pc := 35) (z := 0) (by decide +kernel) ⟨by decide, by decide⟩ ?_
      obtain rfl := Option.some.inj h
      exact r_ret (pc := 36) (r := some (0, 0)) (by decide +kernel) rfl trivial (Nat.le_of_ble_eq_true rfl) (Nat.le_of_ble_eq_true rfl)
    · have h := ite_f c28 h
      refine r_iconst (pc := 31) (z := 1) (by decide +kernel) ⟨by decide, by decide⟩ ?_
      refine r_goto (pc := 32) (off := 4) (tgt := 36) (by decide +kernel) (by decide) ?_
      obtain rfl := Option.some.inj h
      exact r_ret (pc := 36) (r := some (0, 1)) (by decide +kernel) rfl trivial (Nat.le_of_ble_eq_true rfl) (Nat.le_of_ble_eq_true rfl)
  · have h := ite_f c7 h
    refine r_iload_n (pc := 10) 0 (n := 2) (by decide +kernel) rfl rfl ?_
    refine r_goto (pc := 11) (off := 25) (tgt := 36) (by decide +kernel) (by decide) ?_
    obtain rfl := Option.some.inj h
    exact r_ret (pc := 36) (r := some (0, x2.1)) (by decide +kernel) rfl trivial (Nat.le_of_ble_eq_true rfl) (Nat.le_of_ble_eq_true rfl)

/-! TreeTonguesModel.layFirst(I)I -/
noncomputable def L_M_layFirst_2 (k : Int → Mem → Option (Int × Mem)) (v0 : Int) (v1 : Int) : Nat → Int → Mem → Option (Int × Mem)
  | 0 => fun _ _ => none
  | n + 1 => fun v2 M => (gf M v0 9 54 13).bind fun g4 => (rd M 10 g4 v1).bind fun e8 => (if e8 ≤ v2 then (some 0) else ((gf M v0 9 54 15).bind fun g13 => (rd M 12 g13 (wr ((wr (6 * v1)) + v2))).bind fun e22 => if e22 = 0 then (some 1) else (some 0))).bind fun (t9 : Int) => if t9 = 0 then (k v2 M) else (L_M_layFirst_2 k v0 v1 n (wr (v2 + 1)) M)
noncomputable def L_M_layFirst_58 (k : Mem → Option (Int × Mem)) (v0 : Int) (v1 : Int) : Nat → Int → Mem → Option (Int × Mem)
  | 0 => fun _ _ => none
  | n + 1 => fun v3 M => if v3 ≤ 0 then (k  M) else ((gf M v0 9 54 42).bind fun g70 => (rd M 10 g70 (wr (v3 + (-1)))).bind fun e74 => lt (wr ((wr (6 * v1)) + e74)) fun u4_76 => (gf M v0 9 54 17).bind fun g79 => (rd M 10 g79 u4_76).bind fun e84 => (gf M v0 9 54 2).bind fun g88 => (gf M v0 9 54 3).bind fun g92 => (wt M 10 g88 g92 e84).bind fun m97 => (gf m97 v0 9 54 3).bind fun g100 => (pf m97 v0 9 54 3 (wr (g100 + 1))).bind fun m105 => (gf m105 v0 9 54 1).bind fun g109 => (rd m105 10 g109 e84).bind fun e114 => (if e114 ≤ 1 then (some (wr (v3 + (-1)), m105)) else ((gf m105 v0 9 54 42).bind fun g120 => (gf m105 v0 9 54 19).bind fun g125 => (rd m105 10 g125 u4_76).bind fun e130 => (wt m105 10 g120 (wr (v3 + (-1))) e130).bind fun m131 => some (wr (wr (v3 + (-1)) + 1), m131))).bind fun (t116 : Int × Mem) => (gf t116.2 v0 9 54 1).bind fun g136 => (rd t116.2 10 g136 e84).bind fun e141 => (if e141 ≤ 0 then (some (t116.1, t116.2)) else ((gf t116.2 v0 9 54 42).bind fun g146 => (gf t116.2 v0 9 54 18).bind fun g151 => (rd t116.2 10 g151 u4_76).bind fun e156 => (wt t116.2 10 g146 t116.1 e156).bind fun m157 => some (wr (t116.1 + 1), m157))).bind fun (t142 : Int × Mem) => L_M_layFirst_58 k v0 v1 n t142.1 t142.2)
noncomputable def D_M_layFirst (a0 a1 : Int) (M : Mem) : Option (Int × Mem) := L_M_layFirst_2 (fun w2_2 m2 => (gf m2 a0 9 54 13).bind fun g34 => (rd m2 10 g34 a1).bind fun e38 => if w2_2 = e38 then (some ((-1), m2)) else ((pf m2 a0 9 54 3 0).bind fun m46 => (gf m46 a0 9 54 42).bind fun g52 => (wt m46 10 g52 0 w2_2).bind fun m57 => L_M_layFirst_58 (fun  m58 => (gf m58 a0 9 54 3).bind fun g165 => some (g165, m58)) a0 a1 FU 1 m57)) a0 a1 FU 0 M
theorem sL_M_layFirst_2 {d mc ms : Nat} (hd : 1 ≤ d) {r : Int × Mem} {k : Int → Mem → Option (Int × Mem)} {v0 : Int} {v1 : Int} (hk : ∀ (v2 : Int) (M : Mem), k v2 M = some r → Rn Y_M_layFirst d mc ms 0 0 (some (0, r.1), r.2) 32 [(0, (2, v0)), (1, (0, v1)), (2, (0, v2))] [] M) : ∀ (n : Nat) (v2 : Int) (M : Mem), L_M_layFirst_2 k v0 v1 n v2 M = some r → Rn Y_M_layFirst d mc ms 0 0 (some (0, r.1), r.2) 2 [(0, (2, v0)), (1, (0, v1)), (2, (0, v2))] [] M := by
  intro n
  induction n with
  | zero => intro _ _ h; cases h
  | succ n ih =>
    intro v2 M h
    rw [L_M_layFirst_2] at h
    refine r_iload_n (pc := 2) 2 (n := 2) (by decide +kernel) rfl rfl ?_
    refine r_aload_n (pc := 3) 0 (n := 0) (by decide +kernel) rfl rfl ?_
    obtain ⟨g4, q4, h⟩ := bnd h
    refine r_get (pc := 4) (by decide +kernel) fl_M_41.r (by decide) rfl q4 ?_
    refine r_iload_n (pc := 7) 1 (n := 1) (by decide +kernel) rfl rfl ?_
    obtain ⟨e8, q8, h⟩ := bnd h
    refine r_iald (pc := 8) (by decide +kernel) q8 ?_
    obtain ⟨t9, ht9, h⟩ := bnd h
    have E9_0 : t9 = 0 → Rn Y_M_layFirst d mc ms 0 0 (some (0, r.1), r.2) 32 [(0, (2, v0)), (1, (0, v1)), (2, (0, v2))] [] M := by
      intro y0
      have h := ite_t y0 h
      exact hk v2 M h
    have E9_1 : ¬ t9 = 0 → Rn Y_M_layFirst d mc ms 0 0 (some (0, r.1), r.2) 26 [(0, (2, v0)), (1, (0, v1)), (2, (0, v2))] [] M := by
      intro n0
      have h := ite_f n0 h
      refine r_iinc (pc := 26) 2 (n := 1) (lv' := [(2, (0, wr (v2 + 1))), (0, (2, v0)), (1, (0, v1))]) (by decide +kernel) rfl (Nat.le_of_ble_eq_true rfl) rfl ?_
      refine r_goto (pc := 29) (off := (-27)) (tgt := 2) (by decide +kernel) (by decide) ?_
      refine r_lv [1, 2, 0] rfl ?_
      exact ih (wr (v2 + 1)) M h
    refine r_icmp_ge (pc := 9) (off := 23) (tgt := 32) (by decide +kernel) (by decide) (fun c9 => ?_) (fun c9 => ?_)
    · have ht9 := ite_t c9 ht9
      obtain rfl := Option.some.inj ht9
      exact E9_0 rfl
    · have ht9 := ite_f c9 ht9
      refine r_aload_n (pc := 12) 0 (n := 0) (by decide +kernel) rfl rfl ?_
      obtain ⟨g13, q13, ht9⟩ := bnd ht9
      refine r_get (pc := 13) (by decide +kernel) fl_M_47.r (by decide) rfl q13 ?_
      refine r_bipush (pc := 16) (z := 6) (by decide +kernel) ⟨by decide, by decide⟩ ?_
      refine r_iload_n (pc := 18) 1 (n := 1) (by decide +kernel) rfl rfl ?_
      refine r_imul (pc := 19) (by decide +kernel) ?_
      refine r_iload_n (pc := 20) 2 (n := 2) (by decide +kernel) rfl rfl ?_
      refine r_iadd (pc := 21) (by decide +kernel) ?_
      obtain ⟨e22, q22, ht9⟩ := bnd ht9
      refine r_zald (pc := 22) (by decide +kernel) q22 ?_
      refine r_if_ne (pc := 23) (off := 9) (tgt := 32) (by decide +kernel) (by decide) (fun c23 => ?_) (fun c23 => ?_)
      · have ht9 := ite_f c23 ht9
        obtain rfl := Option.some.inj ht9
        exact E9_0 rfl
      · have ht9 := ite_t c23 ht9
        obtain rfl := Option.some.inj ht9
        exact E9_1 (show ¬ (1 : Int) = 0 by decide)
theorem sL_M_layFirst_58 {d mc ms : Nat} (hd : 1 ≤ d) {r : Int × Mem} {k : Mem → Option (Int × Mem)} {v0 : Int} {v1 : Int} (hk : ∀ (M : Mem), k M = some r → Rn Y_M_layFirst d mc ms 0 0 (some (0, r.1), r.2) 164 [(0, (2, v0))] [] M) : ∀ (n : Nat) (v3 : Int) (M : Mem), L_M_layFirst_58 k v0 v1 n v3 M = some r → Rn Y_M_layFirst d mc ms 0 0 (some (0, r.1), r.2) 58 [(0, (2, v0)), (1, (0, v1)), (3, (0, v3))] [] M := by
  intro n
  induction n with
  | zero => intro _ _ h; cases h
  | succ n ih =>
    intro v3 M h
    rw [L_M_layFirst_58] at h
    refine r_iload_n (pc := 58) 2 (n := 3) (by decide +kernel) rfl rfl ?_
    refine r_if_le (pc := 59) (off := 105) (tgt := 164) (by decide +kernel) (by decide) (fun c59 => ?_) (fun c59 => ?_)
    · have h := ite_t c59 h
      refine r_lv [0] rfl ?_
      exact hk  M h
    · have h := ite_f c59 h
      refine r_iinc (pc := 62) 2 (n := (-1)) (lv' := [(3, (0, wr (v3 + (-1)))), (0, (2, v0)), (1, (0, v1))]) (by decide +kernel) rfl (Nat.le_of_ble_eq_true rfl) rfl ?_
      refine r_bipush (pc := 65) (z := 6) (by decide +kernel) ⟨by decide, by decide⟩ ?_
      refine r_iload_n (pc := 67) 2 (n := 1) (by decide +kernel) rfl rfl ?_
      refine r_imul (pc := 68) (by decide +kernel) ?_
      refine r_aload_n (pc := 69) 1 (n := 0) (by decide +kernel) rfl rfl ?_
      obtain ⟨g70, q70, h⟩ := bnd h
      refine r_get (pc := 70) (by decide +kernel) fl_M_93.r (by decide) rfl q70 ?_
      refine r_iload_n (pc := 73) 0 (n := 3) (by decide +kernel) rfl rfl ?_
      obtain ⟨e74, q74, h⟩ := bnd h
      refine r_iald (pc := 74) (by decide +kernel) q74 ?_
      refine r_iadd (pc := 75) (by decide +kernel) ?_
      obtain ⟨u4_76, q76, h⟩ := lt_o h
      refine r_eq q76 ?_
      refine r_istore (pc := 76) (lv' := [(4, (0, u4_76)), (3, (0, wr (v3 + (-1)))), (0, (2, v0)), (1, (0, v1))]) (by decide +kernel) (Nat.le_of_ble_eq_true rfl) rfl ?_
      refine r_aload_n (pc := 78) 2 (n := 0) (by decide +kernel) rfl rfl ?_
      obtain ⟨g79, q79, h⟩ := bnd h
      refine r_get (pc := 79) (by decide +kernel) fl_M_53.r (by decide) rfl q79 ?_
      refine r_iload (pc := 82) 0 (by decide +kernel) rfl ?_
      obtain ⟨e84, q84, h⟩ := bnd h
      refine r_iald (pc := 84) (by decide +kernel) q84 ?_
      refine r_istore (pc := 85) (lv' := [(5, (0, e84)), (4, (0, u4_76)), (3, (0, wr (v3 + (-1)))), (0, (2, v0)), (1, (0, v1))]) (by decide +kernel) (Nat.le_of_ble_eq_true rfl) rfl ?_
      refine r_aload_n (pc := 87) 3 (n := 0) (by decide +kernel) rfl rfl ?_
      obtain ⟨g88, q88, h⟩ := bnd h
      refine r_get (pc := 88) (by decide +kernel) fl_M_13.r (by decide) rfl q88 ?_
      refine r_aload_n (pc := 91) 3 (n := 0) (by decide +kernel) rfl rfl ?_
      obtain ⟨g92, q92, h⟩ := bnd h
      refine r_get (pc := 92) (by decide +kernel) fl_M_141.r (by decide) rfl q92 ?_
      refine r_iload (pc := 95) 0 (by decide +kernel) rfl ?_
      obtain ⟨m97, q97, h⟩ := bnd h
      refine r_iast (pc := 97) (by decide +kernel) q97 ?_
      refine r_aload_n (pc := 98) 3 (n := 0) (by decide +kernel) rfl rfl ?_
      refine r_dup (pc := 99) (by decide +kernel) rfl ?_
      obtain ⟨g100, q100, h⟩ := bnd h
      refine r_get (pc := 100) (by decide +kernel) fl_M_141.r (by decide) rfl q100 ?_
      refine r_iconst (pc := 103) (z := 1) (by decide +kernel) ⟨by decide, by decide⟩ ?_
      refine r_iadd (pc := 104) (by decide +kernel) ?_
      obtain ⟨m105, q105, h⟩ := bnd h
      refine r_put (pc := 105) (by decide +kernel) fl_M_141 (by decide) (Or.inr nf_9_3) rfl (fun h3 => by cases h3) q105 ?_
      refine r_aload_n (pc := 108) 3 (n := 0) (by decide +kernel) rfl rfl ?_
      obtain ⟨g109, q109, h⟩ := bnd h
      refine r_get (pc := 109) (by decide +kernel) fl_M_7.r (by decide) rfl q109 ?_
      refine r_iload (pc := 112) 0 (by decide +kernel) rfl ?_
      obtain ⟨e114, q114, h⟩ := bnd h
      refine r_iald (pc := 114) (by decide +kernel) q114 ?_
      refine r_iconst (pc := 115) (z := 1) (by decide +kernel) ⟨by decide, by decide⟩ ?_
      obtain ⟨t116, ht116, h⟩ := bnd h
      have E116_0 : Rn Y_M_layFirst d mc ms 0 0 (some (0, r.1), r.2) 135 [(0, (2, v0)), (1, (0, v1)), (3, (0, t116.1)), (4, (0, u4_76)), (5, (0, e84))] [] t116.2 := by
        refine r_aload_n (pc := 135) 0 (n := 0) (by decide +kernel) rfl rfl ?_
        obtain ⟨g136, q136, h⟩ := bnd h
        refine r_get (pc := 136) (by decide +kernel) fl_M_7.r (by decide) rfl q136 ?_
        refine r_iload (pc := 139) 4 (by decide +kernel) rfl ?_
        obtain ⟨e141, q141, h⟩ := bnd h
        refine r_iald (pc := 141) (by decide +kernel) q141 ?_
        obtain ⟨t142, ht142, h⟩ := bnd h
        have E142_0 : Rn Y_M_layFirst d mc ms 0 0 (some (0, r.1), r.2) 161 [(0, (2, v0)), (1, (0, v1)), (3, (0, t142.1))] [] t142.2 := by
          refine r_goto (pc := 161) (off := (-103)) (tgt := 58) (by decide +kernel) (by decide) ?_
          exact ih t142.1 t142.2 h
        refine r_if_le (pc := 142) (off := 19) (tgt := 161) (by decide +kernel) (by decide) (fun c142 => ?_) (fun c142 => ?_)
        · have ht142 := ite_t c142 ht142
          obtain rfl := Option.some.inj ht142
          refine r_lv [0, 1, 2] rfl ?_
          exact E142_0
        · have ht142 := ite_f c142 ht142
          refine r_aload_n (pc := 145) 0 (n := 0) (by decide +kernel) rfl rfl ?_
          obtain ⟨g146, q146, ht142⟩ := bnd ht142
          refine r_get (pc := 146) (by decide +kernel) fl_M_93.r (by decide) rfl q146 ?_
          refine r_iload_n (pc := 149) 2 (n := 3) (by decide +kernel) rfl rfl ?_
          refine r_aload_n (pc := 150) 0 (n := 0) (by decide +kernel) rfl rfl ?_
          obtain ⟨g151, q151, ht142⟩ := bnd ht142
          refine r_get (pc := 151) (by decide +kernel) fl_M_56.r (by decide) rfl q151 ?_
          refine r_iload (pc := 154) 3 (by decide +kernel) rfl ?_
          obtain ⟨e156, q156, ht142⟩ := bnd ht142
          refine r_iald (pc := 156) (by decide +kernel) q156 ?_
          obtain ⟨m157, q157, ht142⟩ := bnd ht142
          refine r_iast (pc := 157) (by decide +kernel) q157 ?_
          refine r_iinc (pc := 158) 2 (n := 1) (lv' := [(3, (0, wr (t116.1 + 1))), (0, (2, v0)), (1, (0, v1)), (4, (0, u4_76)), (5, (0, e84))]) (by decide +kernel) rfl (Nat.le_of_ble_eq_true rfl) rfl ?_
          obtain rfl := Option.some.inj ht142
          refine r_lv [1, 2, 0] rfl ?_
          exact E142_0
      refine r_icmp_le (pc := 116) (off := 19) (tgt := 135) (by decide +kernel) (by decide) (fun c116 => ?_) (fun c116 => ?_)
      · have ht116 := ite_t c116 ht116
        obtain rfl := Option.some.inj ht116
        refine r_lv [3, 4, 2, 1, 0] rfl ?_
        exact E116_0
      · have ht116 := ite_f c116 ht116
        refine r_aload_n (pc := 119) 3 (n := 0) (by decide +kernel) rfl rfl ?_
        obtain ⟨g120, q120, ht116⟩ := bnd ht116
        refine r_get (pc := 120) (by decide +kernel) fl_M_93.r (by decide) rfl q120 ?_
        refine r_iload_n (pc := 123) 2 (n := 3) (by decide +kernel) rfl rfl ?_
        refine r_aload_n (pc := 124) 3 (n := 0) (by decide +kernel) rfl rfl ?_
        obtain ⟨g125, q125, ht116⟩ := bnd ht116
        refine r_get (pc := 125) (by decide +kernel) fl_M_59.r (by decide) rfl q125 ?_
        refine r_iload (pc := 128) 1 (by decide +kernel) rfl ?_
        obtain ⟨e130, q130, ht116⟩ := bnd ht116
        refine r_iald (pc := 130) (by decide +kernel) q130 ?_
        obtain ⟨m131, q131, ht116⟩ := bnd ht116
        refine r_iast (pc := 131) (by decide +kernel) q131 ?_
        refine r_iinc (pc := 132) 2 (n := 1) (lv' := [(3, (0, wr (wr (v3 + (-1)) + 1))), (5, (0, e84)), (4, (0, u4_76)), (0, (2, v0)), (1, (0, v1))]) (by decide +kernel) rfl (Nat.le_of_ble_eq_true rfl) rfl ?_
        obtain rfl := Option.some.inj ht116
        refine r_lv [3, 4, 0, 2, 1] rfl ?_
        exact E116_0
theorem c_M_layFirst {d : Nat} (hd : 1 ≤ d) {a0 a1 : Int} {M : Mem} {x : Int × Mem} (h : D_M_layFirst a0 a1 M = some x) : Ct d Y_M_layFirst [(2, a0), (0, a1)] M (some (0, x.1), x.2) 0 0 := by
  refine ct_of yk_M_layFirst (Nat.le_of_ble_eq_true rfl) ?_
  rw [D_M_layFirst] at h
  show Rn Y_M_layFirst d 0 0 0 0 (some (0, x.1), x.2) 0 [(0, (2, a0)), (1, (0, a1))] [] M
  refine r_iconst (pc := 0) (z := 0) (by decide +kernel) ⟨by decide, by decide⟩ ?_
  refine r_istore_n (pc := 1) (n := 2) (lv' := [(2, (0, 0)), (0, (2, a0)), (1, (0, a1))]) (by decide +kernel) rfl (Nat.le_of_ble_eq_true rfl) rfl ?_
  refine r_lv [1, 2, 0] rfl ?_
  refine sL_M_layFirst_2 (by omega) ?_ _ _  _ h
  intro w2_2 m2 h
  refine r_iload_n (pc := 32) 2 (n := 2) (by decide +kernel) rfl rfl ?_
  refine r_aload_n (pc := 33) 0 (n := 0) (by decide +kernel) rfl rfl ?_
  obtain ⟨g34, q34, h⟩ := bnd h
  refine r_get (pc := 34) (by decide +kernel) fl_M_41.r (by decide) rfl q34 ?_
  refine r_iload_n (pc := 37) 1 (n := 1) (by decide +kernel) rfl rfl ?_
  obtain ⟨e38, q38, h⟩ := bnd h
  refine r_iald (pc := 38) (by decide +kernel) q38 ?_
  refine r_icmp_ne (pc := 39) (off := 5) (tgt := 44) (by decide +kernel) (by decide) (fun c39 => ?_) (fun c39 => ?_)
  · have h := ite_f c39 h
    refine r_aload_n (pc := 44) 0 (n := 0) (by decide +kernel) rfl rfl ?_
    refine r_iconst (pc := 45) (z := 0) (by decide +kernel) ⟨by decide, by decide⟩ ?_
    obtain ⟨m46, q46, h⟩ := bnd h
    refine r_put (pc := 46) (by decide +kernel) fl_M_141 (by decide) (Or.inr nf_9_3) rfl (fun h3 => by cases h3) q46 ?_
    refine r_iconst (pc := 49) (z := 1) (by decide +kernel) ⟨by decide, by decide⟩ ?_
    refine r_istore_n (pc := 50) (n := 3) (lv' := [(3, (0, 1)), (0, (2, a0)), (1, (0, a1)), (2, (0, w2_2))]) (by decide +kernel) rfl (Nat.le_of_ble_eq_true rfl) rfl ?_
    refine r_aload_n (pc := 51) 1 (n := 0) (by decide +kernel) rfl rfl ?_
    obtain ⟨g52, q52, h⟩ := bnd h
    refine r_get (pc := 52) (by decide +kernel) fl_M_93.r (by decide) rfl q52 ?_
    refine r_iconst (pc := 55) (z := 0) (by decide +kernel) ⟨by decide, by decide⟩ ?_
    refine r_iload_n (pc := 56) 3 (n := 2) (by decide +kernel) rfl rfl ?_
    obtain ⟨m57, q57, h⟩ := bnd h
    refine r_iast (pc := 57) (by decide +kernel) q57 ?_
    refine r_lv [1, 2, 0] rfl ?_
    refine sL_M_layFirst_58 (by omega) ?_ _ _  _ h
    intro m58 h
    refine r_aload_n (pc := 164) 0 (n := 0) (by decide +kernel) rfl rfl ?_
    obtain ⟨g165, q165, h⟩ := bnd h
    refine r_get (pc := 165) (by decide +kernel) fl_M_141.r (by decide) rfl q165 ?_
    obtain rfl := Option.some.inj h
    exact r_ret (pc := 168) (r := some (0, g165)) (by decide +kernel) rfl trivial (Nat.le_of_ble_eq_true rfl) (Nat.le_of_ble_eq_true rfl)
  · have h := ite_t c39 h
    refine r_iconst (pc := 42) (z := (-1)) (by decide +kernel) ⟨by decide, by decide⟩ ?_
    obtain rfl := Option.some.inj h
    exact r_ret (pc := 43) (r := some (0, (-1))) (by decide +kernel) rfl trivial (Nat.le_of_ble_eq_true rfl) (Nat.le_of_ble_eq_true rfl)

/-! TreeTonguesModel.least(I)I -/
noncomputable def D_M_least (a0 a1 : Int) (M : Mem) : Option (Int × Mem) := (ck M a0 9 54).bind fun _ => (D_M_isTongue a0 a1 M).bind fun x2 => if x2.1 = 0 then (some ((-2), x2.2)) else ((ck x2.2 a0 9 54).bind fun _ => (D_M_load a0 a1 16 x2.2).bind fun x17 => if 0 ≤ x17.1 then ((ck x17.2 a0 9 54).bind fun _ => (D_M_layFirst a0 16 x17.2).bind fun x31 => some (x31.1, x31.2)) else (some ((-5), x17.2)))
theorem c_M_least {d : Nat} (hd : 9 ≤ d) {a0 a1 : Int} {M : Mem} {x : Int × Mem} (h : D_M_least a0 a1 M = some x) : Ct d Y_M_least [(2, a0), (0, a1)] M (some (0, x.1), x.2) 0 0 := by
  refine ct_of yk_M_least (Nat.le_of_ble_eq_true rfl) ?_
  rw [D_M_least] at h
  show Rn Y_M_least d 0 0 0 0 (some (0, x.1), x.2) 0 [(0, (2, a0)), (1, (0, a1))] [] M
  refine r_aload_n (pc := 0) 0 (n := 0) (by decide +kernel) rfl rfl ?_
  refine r_iload_n (pc := 1) 1 (n := 1) (by decide +kernel) rfl rfl ?_
  obtain ⟨_, q2c, h⟩ := bnd h
  obtain ⟨x2, q2, h⟩ := bnd h
  refine r_callV (pc := 2) (i := 146) (d2 := d - 1) (As := [(0, a1)]) (st := []) (st1 := [(0, a1), (2, a0)]) (by decide +kernel) yk_M_isTongue (by decide) rfl ⟨ml_M_146, vk_M_isTongue⟩ np_M_isTongue rfl (by omega) q2c (c_M_isTongue (d := d - 1) (by omega) q2) (Nat.le_of_ble_eq_true rfl) (Nat.le_of_ble_eq_true rfl) (Nat.le_of_ble_eq_true rfl) rfl ?_
  show Rn _ d _ _ 0 0 _ 5 [(0, (2, a0)), (1, (0, a1))] [(0, x2.1)] x2.2
  refine r_if_ne (pc := 5) (off := 8) (tgt := 13) (by decide +kernel) (by decide) (fun c5 => ?_) (fun c5 => ?_)
  · have h := ite_f c5 h
    refine r_aload_n (pc := 13) 0 (n := 0) (by decide +kernel) rfl rfl ?_
    refine r_iload_n (pc := 14) 1 (n := 1) (by decide +kernel) rfl rfl ?_
    refine r_bipush (pc := 15) (z := 16) (by decide +kernel) ⟨by decide, by decide⟩ ?_
    obtain ⟨_, q17c, h⟩ := bnd h
    obtain ⟨x17, q17, h⟩ := bnd h
    refine r_callV (pc := 17) (i := 260) (d2 := d - 1) (As := [(0, a1), (0, 16)]) (st := []) (st1 := [(0, 16), (0, a1), (2, a0)]) (by decide +kernel) yk_M_load (by decide) rfl ⟨ml_M_260, vk_M_load⟩ np_M_load rfl (by omega) q17c (c_M_load (d := d - 1) (by omega) q17) (Nat.le_of_ble_eq_true rfl) (Nat.le_of_ble_eq_true rfl) (Nat.le_of_ble_eq_true rfl) rfl ?_
    show Rn _ d _ _ 0 0 _ 20 [(0, (2, a0)), (1, (0, a1))] [(0, x17.1)] x17.2
    refine r_if_ge (pc := 20) (off := 8) (tgt := 28) (by decide +kernel) (by decide) (fun c20 => ?_) (fun c20 => ?_)
    · have h := ite_t c20 h
      refine r_aload_n (pc := 28) 0 (n := 0) (by decide +kernel) rfl rfl ?_
      refine r_bipush (pc := 29) (z := 16) (by decide +kernel) ⟨by decide, by decide⟩ ?_
      obtain ⟨_, q31c, h⟩ := bnd h
      obtain ⟨x31, q31, h⟩ := bnd h
      refine r_callV (pc := 31) (i := 288) (d2 := d - 1) (As := [(0, 16)]) (st := []) (st1 := [(0, 16), (2, a0)]) (by decide +kernel) yk_M_layFirst (by decide) rfl ⟨ml_M_288, vk_M_layFirst⟩ np_M_layFirst rfl (by omega) q31c (c_M_layFirst (d := d - 1) (by omega) q31) (Nat.le_of_ble_eq_true rfl) (Nat.le_of_ble_eq_true rfl) (Nat.le_of_ble_eq_true rfl) rfl ?_
      show Rn _ d _ _ 0 0 _ 34 [(0, (2, a0)), (1, (0, a1))] [(0, x31.1)] x31.2
      obtain rfl := Option.some.inj h
      exact r_ret (pc := 34) (r := some (0, x31.1)) (by decide +kernel) rfl trivial (Nat.le_of_ble_eq_true rfl) (Nat.le_of_ble_eq_true rfl)
    · have h := ite_f c20 h
      refine r_bipush (pc := 23) (z := (-5)) (by decide +kernel) ⟨by decide, by decide⟩ ?_
      refine r_goto (pc := 25) (off := 9) (tgt := 34) (by decide +kernel) (by decide) ?_
      obtain rfl := Option.some.inj h
      exact r_ret (pc := 34) (r := some (0, (-5))) (by decide +kernel) rfl trivial (Nat.le_of_ble_eq_true rfl) (Nat.le_of_ble_eq_true rfl)
  · have h := ite_t c5 h
    refine r_bipush (pc := 8) (z := (-2)) (by decide +kernel) ⟨by decide, by decide⟩ ?_
    refine r_goto (pc := 10) (off := 24) (tgt := 34) (by decide +kernel) (by decide) ?_
    obtain rfl := Option.some.inj h
    exact r_ret (pc := 34) (r := some (0, (-2))) (by decide +kernel) rfl trivial (Nat.le_of_ble_eq_true rfl) (Nat.le_of_ble_eq_true rfl)

/-! TreeTonguesModel.unlike(II)I -/
noncomputable def D_M_unlike (a0 a1 a2 : Int) (M : Mem) : Option (Int × Mem) := (ck M a0 9 54).bind fun _ => (D_M_isTongue a0 a1 M).bind fun x2 => if x2.1 = 0 then (some ((-2), x2.2)) else ((ck x2.2 a0 9 54).bind fun _ => (D_M_isTongue a0 a2 x2.2).bind fun x10 => if x10.1 = 0 then (some ((-2), x10.2)) else ((ck x10.2 a0 9 54).bind fun _ => (D_M_load a0 a1 16 x10.2).bind fun x23 => if x23.1 < 0 then (some ((-5), x23.2)) else ((ck x23.2 a0 9 54).bind fun _ => (D_M_load a0 a2 17 x23.2).bind fun x33 => if 0 ≤ x33.1 then ((pf x33.2 a0 9 54 20 1).bind fun m44 => (pf m44 a0 9 54 21 3).bind fun m49 => (ck m49 a0 9 54).bind fun _ => (D_M_make a0 18 m49).bind fun x55 => if 0 ≤ x55.1 then ((ck x55.2 a0 9 54).bind fun _ => (D_M_layFirst a0 18 x55.2).bind fun x69 => some (x69.1, x69.2)) else (some ((-5), x55.2))) else (some ((-5), x33.2)))))
theorem c_M_unlike {d : Nat} (hd : 9 ≤ d) {a0 a1 a2 : Int} {M : Mem} {x : Int × Mem} (h : D_M_unlike a0 a1 a2 M = some x) : Ct d Y_M_unlike [(2, a0), (0, a1), (0, a2)] M (some (0, x.1), x.2) 0 0 := by
  refine ct_of yk_M_unlike (Nat.le_of_ble_eq_true rfl) ?_
  rw [D_M_unlike] at h
  show Rn Y_M_unlike d 0 0 0 0 (some (0, x.1), x.2) 0 [(0, (2, a0)), (1, (0, a1)), (2, (0, a2))] [] M
  refine r_aload_n (pc := 0) 0 (n := 0) (by decide +kernel) rfl rfl ?_
  refine r_iload_n (pc := 1) 1 (n := 1) (by decide +kernel) rfl rfl ?_
  obtain ⟨_, q2c, h⟩ := bnd h
  obtain ⟨x2, q2, h⟩ := bnd h
  refine r_callV (pc := 2) (i := 146) (d2 := d - 1) (As := [(0, a1)]) (st := []) (st1 := [(0, a1), (2, a0)]) (by decide +kernel) yk_M_isTongue (by decide) rfl ⟨ml_M_146, vk_M_isTongue⟩ np_M_isTongue rfl (by omega) q2c (c_M_isTongue (d := d - 1) (by omega) q2) (Nat.le_of_ble_eq_true rfl) (Nat.le_of_ble_eq_true rfl) (Nat.le_of_ble_eq_true rfl) rfl ?_
  show Rn _ d _ _ 0 0 _ 5 [(0, (2, a0)), (1, (0, a1)), (2, (0, a2))] [(0, x2.1)] x2.2
  refine r_if_eq (pc := 5) (off := 11) (tgt := 16) (by decide +kernel) (by decide) (fun c5 => ?_) (fun c5 => ?_)
  · have h := ite_t c5 h
    refine r_bipush (pc := 16) (z := (-2)) (by decide +kernel) ⟨by decide, by decide⟩ ?_
    obtain rfl := Option.some.inj h
    exact r_ret (pc := 18) (r := some (0, (-2))) (by decide +kernel) rfl trivial (Nat.le_of_ble_eq_true rfl) (Nat.le_of_ble_eq_true rfl)
  · have h := ite_f c5 h
    refine r_aload_n (pc := 8) 0 (n := 0) (by decide +kernel) rfl rfl ?_
    refine r_iload_n (pc := 9) 2 (n := 2) (by decide +kernel) rfl rfl ?_
    obtain ⟨_, q10c, h⟩ := bnd h
    obtain ⟨x10, q10, h⟩ := bnd h
    refine r_callV (pc := 10) (i := 146) (d2 := d - 1) (As := [(0, a2)]) (st := []) (st1 := [(0, a2), (2, a0)]) (by decide +kernel) yk_M_isTongue (by decide) rfl ⟨ml_M_146, vk_M_isTongue⟩ np_M_isTongue rfl (by omega) q10c (c_M_isTongue (d := d - 1) (by omega) q10) (Nat.le_of_ble_eq_true rfl) (Nat.le_of_ble_eq_true rfl) (Nat.le_of_ble_eq_true rfl) rfl ?_
    show Rn _ d _ _ 0 0 _ 13 [(0, (2, a0)), (1, (0, a1)), (2, (0, a2))] [(0, x10.1)] x10.2
    refine r_if_ne (pc := 13) (off := 6) (tgt := 19) (by decide +kernel) (by decide) (fun c13 => ?_) (fun c13 => ?_)
    · have h := ite_f c13 h
      refine r_aload_n (pc := 19) 0 (n := 0) (by decide +kernel) rfl rfl ?_
      refine r_iload_n (pc := 20) 1 (n := 1) (by decide +kernel) rfl rfl ?_
      refine r_bipush (pc := 21) (z := 16) (by decide +kernel) ⟨by decide, by decide⟩ ?_
      obtain ⟨_, q23c, h⟩ := bnd h
      obtain ⟨x23, q23, h⟩ := bnd h
      refine r_callV (pc := 23) (i := 260) (d2 := d - 1) (As := [(0, a1), (0, 16)]) (st := []) (st1 := [(0, 16), (0, a1), (2, a0)]) (by decide +kernel) yk_M_load (by decide) rfl ⟨ml_M_260, vk_M_load⟩ np_M_load rfl (by omega) q23c (c_M_load (d := d - 1) (by omega) q23) (Nat.le_of_ble_eq_true rfl) (Nat.le_of_ble_eq_true rfl) (Nat.le_of_ble_eq_true rfl) rfl ?_
      show Rn _ d _ _ 0 0 _ 26 [(0, (2, a0)), (1, (0, a1)), (2, (0, a2))] [(0, x23.1)] x23.2
      refine r_if_lt (pc := 26) (off := 13) (tgt := 39) (by decide +kernel) (by decide) (fun c26 => ?_) (fun c26 => ?_)
      · have h := ite_t c26 h
        refine r_bipush (pc := 39) (z := (-5)) (by decide +kernel) ⟨by decide, by decide⟩ ?_
        obtain rfl := Option.some.inj h
        exact r_ret (pc := 41) (r := some (0, (-5))) (by decide +kernel) rfl trivial (Nat.le_of_ble_eq_true rfl) (Nat.le_of_ble_eq_true rfl)
      · have h := ite_f c26 h
        refine r_aload_n (pc := 29) 0 (n := 0) (by decide +kernel) rfl rfl ?_
        refine r_iload_n (pc := 30) 2 (n := 2) (by decide +kernel) rfl rfl ?_
        refine r_bipush (pc := 31) (z := 17) (by decide +kernel) ⟨by decide, by decide⟩ ?_
        obtain ⟨_, q33c, h⟩ := bnd h
        obtain ⟨x33, q33, h⟩ := bnd h
        refine r_callV (pc := 33) (i := 260) (d2 := d - 1) (As := [(0, a2), (0, 17)]) (st := []) (st1 := [(0, 17), (0, a2), (2, a0)]) (by decide +kernel) yk_M_load (by decide) rfl ⟨ml_M_260, vk_M_load⟩ np_M_load rfl (by omega) q33c (c_M_load (d := d - 1) (by omega) q33) (Nat.le_of_ble_eq_true rfl) (Nat.le_of_ble_eq_true rfl) (Nat.le_of_ble_eq_true rfl) rfl ?_
        show Rn _ d _ _ 0 0 _ 36 [(0, (2, a0)), (1, (0, a1)), (2, (0, a2))] [(0, x33.1)] x33.2
        refine r_if_ge (pc := 36) (off := 6) (tgt := 42) (by decide +kernel) (by decide) (fun c36 => ?_) (fun c36 => ?_)
        · have h := ite_t c36 h
          refine r_aload_n (pc := 42) 0 (n := 0) (by decide +kernel) rfl rfl ?_
          refine r_iconst (pc := 43) (z := 1) (by decide +kernel) ⟨by decide, by decide⟩ ?_
          obtain ⟨m44, q44, h⟩ := bnd h
          refine r_put (pc := 44) (by decide +kernel) fl_M_170 (by decide) (Or.inr nf_9_20) rfl (fun h3 => by cases h3) q44 ?_
          refine r_aload_n (pc := 47) 0 (n := 0) (by decide +kernel) rfl rfl ?_
          refine r_iconst (pc := 48) (z := 3) (by decide +kernel) ⟨by decide, by decide⟩ ?_
          obtain ⟨m49, q49, h⟩ := bnd h
          refine r_put (pc := 49) (by decide +kernel) fl_M_185 (by decide) (Or.inr nf_9_21) rfl (fun h3 => by cases h3) q49 ?_
          refine r_aload_n (pc := 52) 0 (n := 0) (by decide +kernel) rfl rfl ?_
          refine r_bipush (pc := 53) (z := 18) (by decide +kernel) ⟨by decide, by decide⟩ ?_
          obtain ⟨_, q55c, h⟩ := bnd h
          obtain ⟨x55, q55, h⟩ := bnd h
          refine r_callV (pc := 55) (i := 255) (d2 := d - 1) (As := [(0, 18)]) (st := []) (st1 := [(0, 18), (2, a0)]) (by decide +kernel) yk_M_make (by decide) rfl ⟨ml_M_255, vk_M_make⟩ np_M_make rfl (by omega) q55c (c_M_make (d := d - 1) (by omega) q55) (Nat.le_of_ble_eq_true rfl) (Nat.le_of_ble_eq_true rfl) (Nat.le_of_ble_eq_true rfl) rfl ?_
          show Rn _ d _ _ 0 0 _ 58 [(0, (2, a0)), (1, (0, a1)), (2, (0, a2))] [(0, x55.1)] x55.2
          refine r_if_ge (pc := 58) (off := 8) (tgt := 66) (by decide +kernel) (by decide) (fun c58 => ?_) (fun c58 => ?_)
          · have h := ite_t c58 h
            refine r_aload_n (pc := 66) 0 (n := 0) (by decide +kernel) rfl rfl ?_
            refine r_bipush (pc := 67) (z := 18) (by decide +kernel) ⟨by decide, by decide⟩ ?_
            obtain ⟨_, q69c, h⟩ := bnd h
            obtain ⟨x69, q69, h⟩ := bnd h
            refine r_callV (pc := 69) (i := 288) (d2 := d - 1) (As := [(0, 18)]) (st := []) (st1 := [(0, 18), (2, a0)]) (by decide +kernel) yk_M_layFirst (by decide) rfl ⟨ml_M_288, vk_M_layFirst⟩ np_M_layFirst rfl (by omega) q69c (c_M_layFirst (d := d - 1) (by omega) q69) (Nat.le_of_ble_eq_true rfl) (Nat.le_of_ble_eq_true rfl) (Nat.le_of_ble_eq_true rfl) rfl ?_
            show Rn _ d _ _ 0 0 _ 72 [(0, (2, a0)), (1, (0, a1)), (2, (0, a2))] [(0, x69.1)] x69.2
            obtain rfl := Option.some.inj h
            exact r_ret (pc := 72) (r := some (0, x69.1)) (by decide +kernel) rfl trivial (Nat.le_of_ble_eq_true rfl) (Nat.le_of_ble_eq_true rfl)
          · have h := ite_f c58 h
            refine r_bipush (pc := 61) (z := (-5)) (by decide +kernel) ⟨by decide, by decide⟩ ?_
            refine r_goto (pc := 63) (off := 9) (tgt := 72) (by decide +kernel) (by decide) ?_
            obtain rfl := Option.some.inj h
            exact r_ret (pc := 72) (r := some (0, (-5))) (by decide +kernel) rfl trivial (Nat.le_of_ble_eq_true rfl) (Nat.le_of_ble_eq_true rfl)
        · have h := ite_f c36 h
          refine r_bipush (pc := 39) (z := (-5)) (by decide +kernel) ⟨by decide, by decide⟩ ?_
          obtain rfl := Option.some.inj h
          exact r_ret (pc := 41) (r := some (0, (-5))) (by decide +kernel) rfl trivial (Nat.le_of_ble_eq_true rfl) (Nat.le_of_ble_eq_true rfl)
    · have h := ite_t c13 h
      refine r_bipush (pc := 16) (z := (-2)) (by decide +kernel) ⟨by decide, by decide⟩ ?_
      obtain rfl := Option.some.inj h
      exact r_ret (pc := 18) (r := some (0, (-2))) (by decide +kernel) rfl trivial (Nat.le_of_ble_eq_true rfl) (Nat.le_of_ble_eq_true rfl)

/-! TreeTonguesModel.ends(I)I -/
noncomputable def L_M_ends_42 (k : Mem → Option (Int × Mem)) (v0 : Int) (v2 : Int) (v3 : Int) : Nat → Int → Mem → Option (Int × Mem)
  | 0 => fun _ _ => none
  | n + 1 => fun v4 M => if v3 ≤ v4 then (k  M) else ((gf M v0 9 54 31).bind fun g49 => (wt M 10 g49 v4 0).bind fun m55 => L_M_ends_42 k v0 v2 v3 n (wr (v4 + 1)) m55)
noncomputable def L_M_ends_105 (k : Mem → Option (Int × Mem)) (v0 : Int) (v2 : Int) (v3 : Int) (v4 : Int) (v5 : Int) (v6 : Int) : Nat → Int → Mem → Option (Int × Mem)
  | 0 => fun _ _ => none
  | n + 1 => fun v7 M => (gf M v0 9 54 1).bind fun g108 => (rd M 10 g108 v5).bind fun e113 => (if e113 ≤ 1 then (some 1) else (some v3)).bind fun (t115 : Int) => if t115 ≤ v7 then (k  M) else ((ck M v0 9 54).bind fun _ => (D_M_step v0 16 v5 v6 v7 M).bind fun x135 => (gf x135.2 v0 9 54 31).bind fun g141 => (rd x135.2 10 g141 x135.1).bind fun e147 => (gf x135.2 v0 9 54 31).bind fun g149 => (rd x135.2 10 g149 v6).bind fun e154 => (wt x135.2 10 g141 x135.1 (ior e147 (ior e154 (ishl 1 v6)))).bind fun m161 => (gf m161 v0 9 54 31).bind fun g163 => (rd m161 10 g163 x135.1).bind fun e169 => (gf m161 v0 9 54 1).bind fun g171 => (rd m161 10 g171 v5).bind fun e176 => (if e176 ≤ 1 then (some 0) else ((gf m161 v0 9 54 31).bind fun g182 => (rd m161 10 g182 v7).bind fun e187 => some (ior e187 (ishl 1 v7)))).bind fun (t178 : Int) => (wt m161 10 g163 x135.1 (ior e169 t178)).bind fun m198 => L_M_ends_105 k v0 v2 v3 v4 v5 v6 n (wr (v7 + 1)) m198)
noncomputable def L_M_ends_86 (k : Mem → Option (Int × Mem)) (v0 : Int) (v2 : Int) (v3 : Int) (v4 : Int) (v5 : Int) : Nat → Int → Mem → Option (Int × Mem)
  | 0 => fun _ _ => none
  | n + 1 => fun v6 M => (if v3 ≤ v6 then (some 0) else ((gf M v0 9 54 1).bind fun g93 => (rd M 10 g93 v5).bind fun e98 => if e98 ≤ 0 then (some 0) else (some 1))).bind fun (t89 : Int) => if t89 = 0 then (k  M) else (L_M_ends_105 (fun  m105 => L_M_ends_86 k v0 v2 v3 v4 v5 n (wr (v6 + 1)) m105) v0 v2 v3 v4 v5 v6 FU 0 M)
noncomputable def L_M_ends_74 (k : Mem → Option (Int × Mem)) (v0 : Int) (v2 : Int) (v3 : Int) (v4 : Int) : Nat → Int → Mem → Option (Int × Mem)
  | 0 => fun _ _ => none
  | n + 1 => fun v5 M => (gf M v0 9 54 0).bind fun g77 => if g77 ≤ v5 then (k  M) else (L_M_ends_86 (fun  m86 => L_M_ends_74 k v0 v2 v3 v4 n (wr (v5 + 1)) m86) v0 v2 v3 v4 v5 FU 0 M)
noncomputable def L_M_ends_65 (k : Mem → Option (Int × Mem)) (v0 : Int) (v2 : Int) (v3 : Int) : Nat → Int → Mem → Option (Int × Mem)
  | 0 => fun _ _ => none
  | n + 1 => fun v4 M => if v3 < v4 then (k  M) else (L_M_ends_74 (fun  m74 => L_M_ends_65 k v0 v2 v3 n (wr (v4 + 1)) m74) v0 v2 v3 v4 FU 0 M)
noncomputable def L_M_ends_226 (k : Mem → Option (Int × Mem)) (v0 : Int) (v2 : Int) (v3 : Int) : Nat → Int → Mem → Option (Int × Mem)
  | 0 => fun _ _ => none
  | n + 1 => fun v4 M => if v3 ≤ v4 then (k  M) else ((if (iand (ishr v2 v4) 1) = 1 then ((gf M v0 9 54 31).bind fun g243 => (rd M 10 g243 v4).bind fun e248 => if (iand (ishr e248 v4) 1) = 1 then (some 1) else (some 0)) else (some 0)).bind fun (t239 : Int) => if t239 = 0 then (L_M_ends_226 k v0 v2 v3 n (wr (v4 + 1)) M) else (some (0, M)))
noncomputable def D_M_ends (a0 a1 : Int) (M : Mem) : Option (Int × Mem) := (ck M a0 9 54).bind fun _ => (D_M_isTongue a0 a1 M).bind fun x2 => if x2.1 = 0 then (some ((-2), x2.2)) else ((ck x2.2 a0 9 54).bind fun _ => (D_M_load a0 a1 16 x2.2).bind fun x15 => if 0 ≤ x15.1 then ((ck x15.2 a0 9 54).bind fun _ => (D_M_usefulOf a0 16 x15.2).bind fun x27 => (gf x27.2 a0 9 54 13).bind fun g32 => (rd x27.2 10 g32 16).bind fun e37 => L_M_ends_42 (fun  m42 => L_M_ends_65 (fun  m65 => L_M_ends_226 (fun  m226 => some (1, m226)) a0 x27.1 e37 FU 0 m65) a0 x27.1 e37 FU 0 m42) a0 x27.1 e37 FU 0 x27.2) else (some ((-5), x15.2)))
theorem sL_M_ends_42 {d mc ms : Nat} (hd : 9 ≤ d) {r : Int × Mem} {k : Mem → Option (Int × Mem)} {v0 : Int} {v2 : Int} {v3 : Int} (hk : ∀ (M : Mem), k M = some r → Rn Y_M_ends d mc ms 0 0 (some (0, r.1), r.2) 62 [(0, (2, v0)), (2, (0, v2)), (3, (0, v3))] [] M) : ∀ (n : Nat) (v4 : Int) (M : Mem), L_M_ends_42 k v0 v2 v3 n v4 M = some r → Rn Y_M_ends d mc ms 0 0 (some (0, r.1), r.2) 42 [(0, (2, v0)), (2, (0, v2)), (3, (0, v3)), (4, (0, v4))] [] M := by
  intro n
  induction n with
  | zero => intro _ _ h; cases h
  | succ n ih =>
    intro v4 M h
    rw [L_M_ends_42] at h
    refine r_iload (pc := 42) 3 (by decide +kernel) rfl ?_
    refine r_iload_n (pc := 44) 2 (n := 3) (by decide +kernel) rfl rfl ?_
    refine r_icmp_ge (pc := 45) (off := 17) (tgt := 62) (by decide +kernel) (by decide) (fun c45 => ?_) (fun c45 => ?_)
    · have h := ite_t c45 h
      refine r_lv [0, 1, 2] rfl ?_
      exact hk  M h
    · have h := ite_f c45 h
      refine r_aload_n (pc := 48) 0 (n := 0) (by decide +kernel) rfl rfl ?_
      obtain ⟨g49, q49, h⟩ := bnd h
      refine r_get (pc := 49) (by decide +kernel) fl_M_74.r (by decide) rfl q49 ?_
      refine r_iload (pc := 52) 3 (by decide +kernel) rfl ?_
      refine r_iconst (pc := 54) (z := 0) (by decide +kernel) ⟨by decide, by decide⟩ ?_
      obtain ⟨m55, q55, h⟩ := bnd h
      refine r_iast (pc := 55) (by decide +kernel) q55 ?_
      refine r_iinc (pc := 56) 3 (n := 1) (lv' := [(4, (0, wr (v4 + 1))), (0, (2, v0)), (2, (0, v2)), (3, (0, v3))]) (by decide +kernel) rfl (Nat.le_of_ble_eq_true rfl) rfl ?_
      refine r_goto (pc := 59) (off := (-17)) (tgt := 42) (by decide +kernel) (by decide) ?_
      refine r_lv [1, 2, 3, 0] rfl ?_
      exact ih (wr (v4 + 1)) m55 h
theorem sL_M_ends_105 {d mc ms : Nat} (hd : 9 ≤ d) {r : Int × Mem} {k : Mem → Option (Int × Mem)} {v0 : Int} {v2 : Int} {v3 : Int} {v4 : Int} {v5 : Int} {v6 : Int} (hk : ∀ (M : Mem), k M = some r → Rn Y_M_ends d mc ms 0 0 (some (0, r.1), r.2) 205 [(0, (2, v0)), (2, (0, v2)), (3, (0, v3)), (4, (0, v4)), (5, (0, v5)), (6, (0, v6))] [] M) : ∀ (n : Nat) (v7 : Int) (M : Mem), L_M_ends_105 k v0 v2 v3 v4 v5 v6 n v7 M = some r → Rn Y_M_ends d mc ms 0 0 (some (0, r.1), r.2) 105 [(0, (2, v0)), (2, (0, v2)), (3, (0, v3)), (4, (0, v4)), (5, (0, v5)), (6, (0, v6)), (7, (0, v7))] [] M := by
  intro n
  induction n with
  | zero => intro _ _ h; cases h
  | succ n ih =>
    intro v7 M h
    rw [L_M_ends_105] at h
    refine r_iload (pc := 105) 6 (by decide +kernel) rfl ?_
    refine r_aload_n (pc := 107) 0 (n := 0) (by decide +kernel) rfl rfl ?_
    obtain ⟨g108, q108, h⟩ := bnd h
    refine r_get (pc := 108) (by decide +kernel) fl_M_7.r (by decide) rfl q108 ?_
    refine r_iload (pc := 111) 4 (by decide +kernel) rfl ?_
    obtain ⟨e113, q113, h⟩ := bnd h
    refine r_iald (pc := 113) (by decide +kernel) q113 ?_
    refine r_iconst (pc := 114) (z := 1) (by decide +kernel) ⟨by decide, by decide⟩ ?_
    obtain ⟨t115, ht115, h⟩ := bnd h
    have E115_0 : Rn Y_M_ends d mc ms 0 0 (some (0, r.1), r.2) 123 [(0, (2, v0)), (2, (0, v2)), (3, (0, v3)), (4, (0, v4)), (5, (0, v5)), (6, (0, v6)), (7, (0, v7))] [(0, t115), (0, v7)] M := by
      refine r_icmp_ge (pc := 123) (off := 82) (tgt := 205) (by decide +kernel) (by decide) (fun c123 => ?_) (fun c123 => ?_)
      · have h := ite_t c123 h
        refine r_lv [0, 1, 2, 3, 4, 5] rfl ?_
        exact hk  M h
      · have h := ite_f c123 h
        refine r_aload_n (pc := 126) 0 (n := 0) (by decide +kernel) rfl rfl ?_
        refine r_bipush (pc := 127) (z := 16) (by decide +kernel) ⟨by decide, by decide⟩ ?_
        refine r_iload (pc := 129) 4 (by decide +kernel) rfl ?_
        refine r_iload (pc := 131) 5 (by decide +kernel) rfl ?_
        refine r_iload (pc := 133) 6 (by decide +kernel) rfl ?_
        obtain ⟨_, q135c, h⟩ := bnd h
        obtain ⟨x135, q135, h⟩ := bnd h
        refine r_callV (pc := 135) (i := 155) (d2 := d - 1) (As := [(0, 16), (0, v5), (0, v6), (0, v7)]) (st := []) (st1 := [(0, v7), (0, v6), (0, v5), (0, 16), (2, v0)]) (by decide +kernel) yk_M_step (by decide) rfl ⟨ml_M_155, vk_M_step⟩ np_M_step rfl (by omega) q135c (c_M_step (d := d - 1) (by omega) q135) (Nat.le_of_ble_eq_true rfl) (Nat.le_of_ble_eq_true rfl) (Nat.le_of_ble_eq_true rfl) rfl ?_
        show Rn _ d _ _ 0 0 _ 138 [(0, (2, v0)), (2, (0, v2)), (3, (0, v3)), (4, (0, v4)), (5, (0, v5)), (6, (0, v6)), (7, (0, v7))] [(0, x135.1)] x135.2
        refine r_istore (pc := 138) (lv' := [(8, (0, x135.1)), (0, (2, v0)), (2, (0, v2)), (3, (0, v3)), (4, (0, v4)), (5, (0, v5)), (6, (0, v6)), (7, (0, v7))]) (by decide +kernel) (Nat.le_of_ble_eq_true rfl) rfl ?_
        refine r_aload_n (pc := 140) 1 (n := 0) (by decide +kernel) rfl rfl ?_
        obtain ⟨g141, q141, h⟩ := bnd h
        refine r_get (pc := 141) (by decide +kernel) fl_M_74.r (by decide) rfl q141 ?_
        refine r_iload (pc := 144) 0 (by decide +kernel) rfl ?_
        refine r_dup2 (pc := 146) (by decide +kernel) rfl rfl ?_
        obtain ⟨e147, q147, h⟩ := bnd h
        refine r_iald (pc := 147) (by decide +kernel) q147 ?_
        refine r_aload_n (pc := 148) 1 (n := 0) (by decide +kernel) rfl rfl ?_
        obtain ⟨g149, q149, h⟩ := bnd h
        refine r_get (pc := 149) (by decide +kernel) fl_M_74.r (by decide) rfl q149 ?_
        refine r_iload (pc := 152) 6 (by decide +kernel) rfl ?_
        obtain ⟨e154, q154, h⟩ := bnd h
        refine r_iald (pc := 154) (by decide +kernel) q154 ?_
        refine r_iconst (pc := 155) (z := 1) (by decide +kernel) ⟨by decide, by decide⟩ ?_
        refine r_iload (pc := 156) 6 (by decide +kernel) rfl ?_
        refine r_ishl (pc := 158) (by decide +kernel) ?_
        refine r_ior (pc := 159) (by decide +kernel) ?_
        refine r_ior (pc := 160) (by decide +kernel) ?_
        obtain ⟨m161, q161, h⟩ := bnd h
        refine r_iast (pc := 161) (by decide +kernel) q161 ?_
        refine r_aload_n (pc := 162) 1 (n := 0) (by decide +kernel) rfl rfl ?_
        obtain ⟨g163, q163, h⟩ := bnd h
        refine r_get (pc := 163) (by decide +kernel) fl_M_74.r (by decide) rfl q163 ?_
        refine r_iload (pc := 166) 0 (by decide +kernel) rfl ?_
        refine r_dup2 (pc := 168) (by decide +kernel) rfl rfl ?_
        obtain ⟨e169, q169, h⟩ := bnd h
        refine r_iald (pc := 169) (by decide +kernel) q169 ?_
        refine r_aload_n (pc := 170) 1 (n := 0) (by decide +kernel) rfl rfl ?_
        obtain ⟨g171, q171, h⟩ := bnd h
        refine r_get (pc := 171) (by decide +kernel) fl_M_7.r (by decide) rfl q171 ?_
        refine r_iload (pc := 174) 5 (by decide +kernel) rfl ?_
        obtain ⟨e176, q176, h⟩ := bnd h
        refine r_iald (pc := 176) (by decide +kernel) q176 ?_
        refine r_iconst (pc := 177) (z := 1) (by decide +kernel) ⟨by decide, by decide⟩ ?_
        obtain ⟨t178, ht178, h⟩ := bnd h
        have E178_0 : Rn Y_M_ends d mc ms 0 0 (some (0, r.1), r.2) 197 [(0, (2, v0)), (2, (0, v2)), (3, (0, v3)), (4, (0, v4)), (5, (0, v5)), (6, (0, v6)), (7, (0, v7))] [(0, t178), (0, e169), (0, x135.1), (2, g163)] m161 := by
          refine r_ior (pc := 197) (by decide +kernel) ?_
          obtain ⟨m198, q198, h⟩ := bnd h
          refine r_iast (pc := 198) (by decide +kernel) q198 ?_
          refine r_iinc (pc := 199) 6 (n := 1) (lv' := [(7, (0, wr (v7 + 1))), (0, (2, v0)), (2, (0, v2)), (3, (0, v3)), (4, (0, v4)), (5, (0, v5)), (6, (0, v6))]) (by decide +kernel) rfl (Nat.le_of_ble_eq_true rfl) rfl ?_
          refine r_goto (pc := 202) (off := (-97)) (tgt := 105) (by decide +kernel) (by decide) ?_
          refine r_lv [1, 2, 3, 4, 5, 6, 0] rfl ?_
          exact ih (wr (v7 + 1)) m198 h
        refine r_icmp_le (pc := 178) (off := 18) (tgt := 196) (by decide +kernel) (by decide) (fun c178 => ?_) (fun c178 => ?_)
        · have ht178 := ite_t c178 ht178
          refine r_iconst (pc := 196) (z := 0) (by decide +kernel) ⟨by decide, by decide⟩ ?_
          obtain rfl := Option.some.inj ht178
          refine r_lv [1, 2, 3, 4, 5, 6, 7] rfl ?_
          exact E178_0
        · have ht178 := ite_f c178 ht178
          refine r_aload_n (pc := 181) 1 (n := 0) (by decide +kernel) rfl rfl ?_
          obtain ⟨g182, q182, ht178⟩ := bnd ht178
          refine r_get (pc := 182) (by decide +kernel) fl_M_74.r (by decide) rfl q182 ?_
          refine r_iload (pc := 185) 7 (by decide +kernel) rfl ?_
          obtain ⟨e187, q187, ht178⟩ := bnd ht178
          refine r_iald (pc := 187) (by decide +kernel) q187 ?_
          refine r_iconst (pc := 188) (z := 1) (by decide +kernel) ⟨by decide, by decide⟩ ?_
          refine r_iload (pc := 189) 7 (by decide +kernel) rfl ?_
          refine r_ishl (pc := 191) (by decide +kernel) ?_
          refine r_ior (pc := 192) (by decide +kernel) ?_
          refine r_goto (pc := 193) (off := 4) (tgt := 197) (by decide +kernel) (by decide) ?_
          obtain rfl := Option.some.inj ht178
          refine r_lv [1, 2, 3, 4, 5, 6, 7] rfl ?_
          exact E178_0
    refine r_icmp_le (pc := 115) (off := 7) (tgt := 122) (by decide +kernel) (by decide) (fun c115 => ?_) (fun c115 => ?_)
    · have ht115 := ite_t c115 ht115
      refine r_iconst (pc := 122) (z := 1) (by decide +kernel) ⟨by decide, by decide⟩ ?_
      obtain rfl := Option.some.inj ht115
      exact E115_0
    · have ht115 := ite_f c115 ht115
      refine r_iload_n (pc := 118) 2 (n := 3) (by decide +kernel) rfl rfl ?_
      refine r_goto (pc := 119) (off := 4) (tgt := 123) (by decide +kernel) (by decide) ?_
      obtain rfl := Option.some.inj ht115
      exact E115_0
theorem sL_M_ends_86 {d mc ms : Nat} (hd : 9 ≤ d) {r : Int × Mem} {k : Mem → Option (Int × Mem)} {v0 : Int} {v2 : Int} {v3 : Int} {v4 : Int} {v5 : Int} (hk : ∀ (M : Mem), k M = some r → Rn Y_M_ends d mc ms 0 0 (some (0, r.1), r.2) 211 [(0, (2, v0)), (2, (0, v2)), (3, (0, v3)), (4, (0, v4)), (5, (0, v5))] [] M) : ∀ (n : Nat) (v6 : Int) (M : Mem), L_M_ends_86 k v0 v2 v3 v4 v5 n v6 M = some r → Rn Y_M_ends d mc ms 0 0 (some (0, r.1), r.2) 86 [(0, (2, v0)), (2, (0, v2)), (3, (0, v3)), (4, (0, v4)), (5, (0, v5)), (6, (0, v6))] [] M := by
  intro n
  induction n with
  | zero => intro _ _ h; cases h
  | succ n ih =>
    intro v6 M h
    rw [L_M_ends_86] at h
    refine r_iload (pc := 86) 5 (by decide +kernel) rfl ?_
    refine r_iload_n (pc := 88) 2 (n := 3) (by decide +kernel) rfl rfl ?_
    obtain ⟨t89, ht89, h⟩ := bnd h
    have E89_0 : t89 = 0 → Rn Y_M_ends d mc ms 0 0 (some (0, r.1), r.2) 211 [(0, (2, v0)), (2, (0, v2)), (3, (0, v3)), (4, (0, v4)), (5, (0, v5))] [] M := by
      intro y0
      have h := ite_t y0 h
      exact hk  M h
    have E89_1 : ¬ t89 = 0 → Rn Y_M_ends d mc ms 0 0 (some (0, r.1), r.2) 102 [(0, (2, v0)), (2, (0, v2)), (3, (0, v3)), (4, (0, v4)), (5, (0, v5)), (6, (0, v6))] [] M := by
      intro n0
      have h := ite_f n0 h
      refine r_iconst (pc := 102) (z := 0) (by decide +kernel) ⟨by decide, by decide⟩ ?_
      refine r_istore (pc := 103) (lv' := [(7, (0, 0)), (0, (2, v0)), (2, (0, v2)), (3, (0, v3)), (4, (0, v4)), (5, (0, v5)), (6, (0, v6))]) (by decide +kernel) (Nat.le_of_ble_eq_true rfl) rfl ?_
      refine r_lv [1, 2, 3, 4, 5, 6, 0] rfl ?_
      refine sL_M_ends_105 (by omega) ?_ _ _  _ h
      intro m105 h
      refine r_iinc (pc := 205) 5 (n := 1) (lv' := [(6, (0, wr (v6 + 1))), (0, (2, v0)), (2, (0, v2)), (3, (0, v3)), (4, (0, v4)), (5, (0, v5))]) (by decide +kernel) rfl (Nat.le_of_ble_eq_true rfl) rfl ?_
      refine r_goto (pc := 208) (off := (-122)) (tgt := 86) (by decide +kernel) (by decide) ?_
      refine r_lv [1, 2, 3, 4, 5, 0] rfl ?_
      exact ih (wr (v6 + 1)) m105 h
    refine r_icmp_ge (pc := 89) (off := 122) (tgt := 211) (by decide +kernel) (by decide) (fun c89 => ?_) (fun c89 => ?_)
    · have ht89 := ite_t c89 ht89
      obtain rfl := Option.some.inj ht89
      refine r_lv [0, 1, 2, 3, 4] rfl ?_
      exact E89_0 rfl
    · have ht89 := ite_f c89 ht89
      refine r_aload_n (pc := 92) 0 (n := 0) (by decide +kernel) rfl rfl ?_
      obtain ⟨g93, q93, ht89⟩ := bnd ht89
      refine r_get (pc := 93) (by decide +kernel) fl_M_7.r (by decide) rfl q93 ?_
      refine r_iload (pc := 96) 4 (by decide +kernel) rfl ?_
      obtain ⟨e98, q98, ht89⟩ := bnd ht89
      refine r_iald (pc := 98) (by decide +kernel) q98 ?_
      refine r_if_le (pc := 99) (off := 112) (tgt := 211) (by decide +kernel) (by decide) (fun c99 => ?_) (fun c99 => ?_)
      · have ht89 := ite_t c99 ht89
        obtain rfl := Option.some.inj ht89
        refine r_lv [0, 1, 2, 3, 4] rfl ?_
        exact E89_0 rfl
      · have ht89 := ite_f c99 ht89
        obtain rfl := Option.some.inj ht89
        exact E89_1 (show ¬ (1 : Int) = 0 by decide)
theorem sL_M_ends_74 {d mc ms : Nat} (hd : 9 ≤ d) {r : Int × Mem} {k : Mem → Option (Int × Mem)} {v0 : Int} {v2 : Int} {v3 : Int} {v4 : Int} (hk : ∀ (M : Mem), k M = some r → Rn Y_M_ends d mc ms 0 0 (some (0, r.1), r.2) 217 [(0, (2, v0)), (2, (0, v2)), (3, (0, v3)), (4, (0, v4))] [] M) : ∀ (n : Nat) (v5 : Int) (M : Mem), L_M_ends_74 k v0 v2 v3 v4 n v5 M = some r → Rn Y_M_ends d mc ms 0 0 (some (0, r.1), r.2) 74 [(0, (2, v0)), (2, (0, v2)), (3, (0, v3)), (4, (0, v4)), (5, (0, v5))] [] M := by
  intro n
  induction n with
  | zero => intro _ _ h; cases h
  | succ n ih =>
    intro v5 M h
    rw [L_M_ends_74] at h
    refine r_iload (pc := 74) 4 (by decide +kernel) rfl ?_
    refine r_aload_n (pc := 76) 0 (n := 0) (by decide +kernel) rfl rfl ?_
    obtain ⟨g77, q77, h⟩ := bnd h
    refine r_get (pc := 77) (by decide +kernel) fl_M_124.r (by decide) rfl q77 ?_
    refine r_icmp_ge (pc := 80) (off := 137) (tgt := 217) (by decide +kernel) (by decide) (fun c80 => ?_) (fun c80 => ?_)
    · have h := ite_t c80 h
      refine r_lv [0, 1, 2, 3] rfl ?_
      exact hk  M h
    · have h := ite_f c80 h
      refine r_iconst (pc := 83) (z := 0) (by decide +kernel) ⟨by decide, by decide⟩ ?_
      refine r_istore (pc := 84) (lv' := [(6, (0, 0)), (0, (2, v0)), (2, (0, v2)), (3, (0, v3)), (4, (0, v4)), (5, (0, v5))]) (by decide +kernel) (Nat.le_of_ble_eq_true rfl) rfl ?_
      refine r_lv [1, 2, 3, 4, 5, 0] rfl ?_
      refine sL_M_ends_86 (by omega) ?_ _ _  _ h
      intro m86 h
      refine r_iinc (pc := 211) 4 (n := 1) (lv' := [(5, (0, wr (v5 + 1))), (0, (2, v0)), (2, (0, v2)), (3, (0, v3)), (4, (0, v4))]) (by decide +kernel) rfl (Nat.le_of_ble_eq_true rfl) rfl ?_
      refine r_goto (pc := 214) (off := (-140)) (tgt := 74) (by decide +kernel) (by decide) ?_
      refine r_lv [1, 2, 3, 4, 0] rfl ?_
      exact ih (wr (v5 + 1)) m86 h
theorem sL_M_ends_65 {d mc ms : Nat} (hd : 9 ≤ d) {r : Int × Mem} {k : Mem → Option (Int × Mem)} {v0 : Int} {v2 : Int} {v3 : Int} (hk : ∀ (M : Mem), k M = some r → Rn Y_M_ends d mc ms 0 0 (some (0, r.1), r.2) 223 [(0, (2, v0)), (2, (0, v2)), (3, (0, v3))] [] M) : ∀ (n : Nat) (v4 : Int) (M : Mem), L_M_ends_65 k v0 v2 v3 n v4 M = some r → Rn Y_M_ends d mc ms 0 0 (some (0, r.1), r.2) 65 [(0, (2, v0)), (2, (0, v2)), (3, (0, v3)), (4, (0, v4))] [] M := by
  intro n
  induction n with
  | zero => intro _ _ h; cases h
  | succ n ih =>
    intro v4 M h
    rw [L_M_ends_65] at h
    refine r_iload (pc := 65) 3 (by decide +kernel) rfl ?_
    refine r_iload_n (pc := 67) 2 (n := 3) (by decide +kernel) rfl rfl ?_
    refine r_icmp_gt (pc := 68) (off := 155) (tgt := 223) (by decide +kernel) (by decide) (fun c68 => ?_) (fun c68 => ?_)
    · have h := ite_t c68 h
      refine r_lv [0, 1, 2] rfl ?_
      exact hk  M h
    · have h := ite_f c68 h
      refine r_iconst (pc := 71) (z := 0) (by decide +kernel) ⟨by decide, by decide⟩ ?_
      refine r_istore (pc := 72) (lv' := [(5, (0, 0)), (0, (2, v0)), (2, (0, v2)), (3, (0, v3)), (4, (0, v4))]) (by decide +kernel) (Nat.le_of_ble_eq_true rfl) rfl ?_
      refine r_lv [1, 2, 3, 4, 0] rfl ?_
      refine sL_M_ends_74 (by omega) ?_ _ _  _ h
      intro m74 h
      refine r_iinc (pc := 217) 3 (n := 1) (lv' := [(4, (0, wr (v4 + 1))), (0, (2, v0)), (2, (0, v2)), (3, (0, v3))]) (by decide +kernel) rfl (Nat.le_of_ble_eq_true rfl) rfl ?_
      refine r_goto (pc := 220) (off := (-155)) (tgt := 65) (by decide +kernel) (by decide) ?_
      refine r_lv [1, 2, 3, 0] rfl ?_
      exact ih (wr (v4 + 1)) m74 h
theorem sL_M_ends_226 {d mc ms : Nat} (hd : 9 ≤ d) {r : Int × Mem} {k : Mem → Option (Int × Mem)} {v0 : Int} {v2 : Int} {v3 : Int} (hk : ∀ (M : Mem), k M = some r → Rn Y_M_ends d mc ms 0 0 (some (0, r.1), r.2) 266 [] [] M) : ∀ (n : Nat) (v4 : Int) (M : Mem), L_M_ends_226 k v0 v2 v3 n v4 M = some r → Rn Y_M_ends d mc ms 0 0 (some (0, r.1), r.2) 226 [(0, (2, v0)), (2, (0, v2)), (3, (0, v3)), (4, (0, v4))] [] M := by
  intro n
  induction n with
  | zero => intro _ _ h; cases h
  | succ n ih =>
    intro v4 M h
    rw [L_M_ends_226] at h
    refine r_iload (pc := 226) 3 (by decide +kernel) rfl ?_
    refine r_iload_n (pc := 228) 2 (n := 3) (by decide +kernel) rfl rfl ?_
    refine r_icmp_ge (pc := 229) (off := 37) (tgt := 266) (by decide +kernel) (by decide) (fun c229 => ?_) (fun c229 => ?_)
    · have h := ite_t c229 h
      refine r_lv [] rfl ?_
      exact hk  M h
    · have h := ite_f c229 h
      refine r_iload_n (pc := 232) 1 (n := 2) (by decide +kernel) rfl rfl ?_
      refine r_iload (pc := 233) 3 (by decide +kernel) rfl ?_
      refine r_ishr (pc := 235) (by decide +kernel) ?_
      refine r_iconst (pc := 236) (z := 1) (by decide +kernel) ⟨by decide, by decide⟩ ?_
      refine r_iand (pc := 237) (by decide +kernel) ?_
      refine r_iconst (pc := 238) (z := 1) (by decide +kernel) ⟨by decide, by decide⟩ ?_
      obtain ⟨t239, ht239, h⟩ := bnd h
      have E239_0 : t239 = 0 → Rn Y_M_ends d mc ms 0 0 (some (0, r.1), r.2) 260 [(0, (2, v0)), (2, (0, v2)), (3, (0, v3)), (4, (0, v4))] [] M := by
        intro y0
        have h := ite_t y0 h
        refine r_iinc (pc := 260) 3 (n := 1) (lv' := [(4, (0, wr (v4 + 1))), (0, (2, v0)), (2, (0, v2)), (3, (0, v3))]) (by decide +kernel) rfl (Nat.le_of_ble_eq_true rfl) rfl ?_
        refine r_goto (pc := 263) (off := (-37)) (tgt := 226) (by decide +kernel) (by decide) ?_
        refine r_lv [1, 2, 3, 0] rfl ?_
        exact ih (wr (v4 + 1)) M h
      have E239_1 : ¬ t239 = 0 → Rn Y_M_ends d mc ms 0 0 (some (0, r.1), r.2) 258 [] [] M := by
        intro n0
        have h := ite_f n0 h
        refine r_iconst (pc := 258) (z := 0) (by decide +kernel) ⟨by decide, by decide⟩ ?_
        obtain rfl := Option.some.inj h
        exact r_ret (pc := 259) (r := some (0, 0)) (by decide +kernel) rfl trivial (Nat.le_of_ble_eq_true rfl) (Nat.le_of_ble_eq_true rfl)
      refine r_icmp_ne (pc := 239) (off := 21) (tgt := 260) (by decide +kernel) (by decide) (fun c239 => ?_) (fun c239 => ?_)
      · have ht239 := ite_f c239 ht239
        obtain rfl := Option.some.inj ht239
        exact E239_0 rfl
      · have ht239 := ite_t c239 ht239
        refine r_aload_n (pc := 242) 0 (n := 0) (by decide +kernel) rfl rfl ?_
        obtain ⟨g243, q243, ht239⟩ := bnd ht239
        refine r_get (pc := 243) (by decide +kernel) fl_M_74.r (by decide) rfl q243 ?_
        refine r_iload (pc := 246) 3 (by decide +kernel) rfl ?_
        obtain ⟨e248, q248, ht239⟩ := bnd ht239
        refine r_iald (pc := 248) (by decide +kernel) q248 ?_
        refine r_iload (pc := 249) 3 (by decide +kernel) rfl ?_
        refine r_ishr (pc := 251) (by decide +kernel) ?_
        refine r_iconst (pc := 252) (z := 1) (by decide +kernel) ⟨by decide, by decide⟩ ?_
        refine r_iand (pc := 253) (by decide +kernel) ?_
        refine r_iconst (pc := 254) (z := 1) (by decide +kernel) ⟨by decide, by decide⟩ ?_
        refine r_icmp_ne (pc := 255) (off := 5) (tgt := 260) (by decide +kernel) (by decide) (fun c255 => ?_) (fun c255 => ?_)
        · have ht239 := ite_f c255 ht239
          obtain rfl := Option.some.inj ht239
          exact E239_0 rfl
        · have ht239 := ite_t c255 ht239
          obtain rfl := Option.some.inj ht239
          refine r_lv [] rfl ?_
          exact E239_1 (show ¬ (1 : Int) = 0 by decide)
theorem c_M_ends {d : Nat} (hd : 9 ≤ d) {a0 a1 : Int} {M : Mem} {x : Int × Mem} (h : D_M_ends a0 a1 M = some x) : Ct d Y_M_ends [(2, a0), (0, a1)] M (some (0, x.1), x.2) 0 0 := by
  refine ct_of yk_M_ends (Nat.le_of_ble_eq_true rfl) ?_
  rw [D_M_ends] at h
  show Rn Y_M_ends d 0 0 0 0 (some (0, x.1), x.2) 0 [(0, (2, a0)), (1, (0, a1))] [] M
  refine r_aload_n (pc := 0) 0 (n := 0) (by decide +kernel) rfl rfl ?_
  refine r_iload_n (pc := 1) 1 (n := 1) (by decide +kernel) rfl rfl ?_
  obtain ⟨_, q2c, h⟩ := bnd h
  obtain ⟨x2, q2, h⟩ := bnd h
  refine r_callV (pc := 2) (i := 146) (d2 := d - 1) (As := [(0, a1)]) (st := []) (st1 := [(0, a1), (2, a0)]) (by decide +kernel) yk_M_isTongue (by decide) rfl ⟨ml_M_146, vk_M_isTongue⟩ np_M_isTongue rfl (by omega) q2c (c_M_isTongue (d := d - 1) (by omega) q2) (Nat.le_of_ble_eq_true rfl) (Nat.le_of_ble_eq_true rfl) (Nat.le_of_ble_eq_true rfl) rfl ?_
  show Rn _ d _ _ 0 0 _ 5 [(0, (2, a0)), (1, (0, a1))] [(0, x2.1)] x2.2
  refine r_if_ne (pc := 5) (off := 6) (tgt := 11) (by decide +kernel) (by decide) (fun c5 => ?_) (fun c5 => ?_)
  · have h := ite_f c5 h
    refine r_aload_n (pc := 11) 0 (n := 0) (by decide +kernel) rfl rfl ?_
    refine r_iload_n (pc := 12) 1 (n := 1) (by decide +kernel) rfl rfl ?_
    refine r_bipush (pc := 13) (z := 16) (by decide +kernel) ⟨by decide, by decide⟩ ?_
    obtain ⟨_, q15c, h⟩ := bnd h
    obtain ⟨x15, q15, h⟩ := bnd h
    refine r_callV (pc := 15) (i := 260) (d2 := d - 1) (As := [(0, a1), (0, 16)]) (st := []) (st1 := [(0, 16), (0, a1), (2, a0)]) (by decide +kernel) yk_M_load (by decide) rfl ⟨ml_M_260, vk_M_load⟩ np_M_load rfl (by omega) q15c (c_M_load (d := d - 1) (by omega) q15) (Nat.le_of_ble_eq_true rfl) (Nat.le_of_ble_eq_true rfl) (Nat.le_of_ble_eq_true rfl) rfl ?_
    show Rn _ d _ _ 0 0 _ 18 [(0, (2, a0)), (1, (0, a1))] [(0, x15.1)] x15.2
    refine r_if_ge (pc := 18) (off := 6) (tgt := 24) (by decide +kernel) (by decide) (fun c18 => ?_) (fun c18 => ?_)
    · have h := ite_t c18 h
      refine r_aload_n (pc := 24) 0 (n := 0) (by decide +kernel) rfl rfl ?_
      refine r_bipush (pc := 25) (z := 16) (by decide +kernel) ⟨by decide, by decide⟩ ?_
      obtain ⟨_, q27c, h⟩ := bnd h
      obtain ⟨x27, q27, h⟩ := bnd h
      refine r_callV (pc := 27) (i := 275) (d2 := d - 1) (As := [(0, 16)]) (st := []) (st1 := [(0, 16), (2, a0)]) (by decide +kernel) yk_M_usefulOf (by decide) rfl ⟨ml_M_275, vk_M_usefulOf⟩ np_M_usefulOf rfl (by omega) q27c (c_M_usefulOf (d := d - 1) (by omega) q27) (Nat.le_of_ble_eq_true rfl) (Nat.le_of_ble_eq_true rfl) (Nat.le_of_ble_eq_true rfl) rfl ?_
      show Rn _ d _ _ 0 0 _ 30 [(0, (2, a0)), (1, (0, a1))] [(0, x27.1)] x27.2
      refine r_istore_n (pc := 30) (n := 2) (lv' := [(2, (0, x27.1)), (0, (2, a0)), (1, (0, a1))]) (by decide +kernel) rfl (Nat.le_of_ble_eq_true rfl) rfl ?_
      refine r_aload_n (pc := 31) 1 (n := 0) (by decide +kernel) rfl rfl ?_
      obtain ⟨g32, q32, h⟩ := bnd h
      refine r_get (pc := 32) (by decide +kernel) fl_M_41.r (by decide) rfl q32 ?_
      refine r_bipush (pc := 35) (z := 16) (by decide +kernel) ⟨by decide, by decide⟩ ?_
      obtain ⟨e37, q37, h⟩ := bnd h
      refine r_iald (pc := 37) (by decide +kernel) q37 ?_
      refine r_istore_n (pc := 38) (n := 3) (lv' := [(3, (0, e37)), (2, (0, x27.1)), (0, (2, a0)), (1, (0, a1))]) (by decide +kernel) rfl (Nat.le_of_ble_eq_true rfl) rfl ?_
      refine r_iconst (pc := 39) (z := 0) (by decide +kernel) ⟨by decide, by decide⟩ ?_
      refine r_istore (pc := 40) (lv' := [(4, (0, 0)), (3, (0, e37)), (2, (0, x27.1)), (0, (2, a0)), (1, (0, a1))]) (by decide +kernel) (Nat.le_of_ble_eq_true rfl) rfl ?_
      refine r_lv [3, 2, 1, 0] rfl ?_
      refine sL_M_ends_42 (by omega) ?_ _ _  _ h
      intro m42 h
      refine r_iconst (pc := 62) (z := 0) (by decide +kernel) ⟨by decide, by decide⟩ ?_
      refine r_istore (pc := 63) (lv' := [(4, (0, 0)), (0, (2, a0)), (2, (0, x27.1)), (3, (0, e37))]) (by decide +kernel) (Nat.le_of_ble_eq_true rfl) rfl ?_
      refine r_lv [1, 2, 3, 0] rfl ?_
      refine sL_M_ends_65 (by omega) ?_ _ _  _ h
      intro m65 h
      refine r_iconst (pc := 223) (z := 0) (by decide +kernel) ⟨by decide, by decide⟩ ?_
      refine r_istore (pc := 224) (lv' := [(4, (0, 0)), (0, (2, a0)), (2, (0, x27.1)), (3, (0, e37))]) (by decide +kernel) (Nat.le_of_ble_eq_true rfl) rfl ?_
      refine r_lv [1, 2, 3, 0] rfl ?_
      refine sL_M_ends_226 (by omega) ?_ _ _  _ h
      intro m226 h
      refine r_iconst (pc := 266) (z := 1) (by decide +kernel) ⟨by decide, by decide⟩ ?_
      obtain rfl := Option.some.inj h
      exact r_ret (pc := 267) (r := some (0, 1)) (by decide +kernel) rfl trivial (Nat.le_of_ble_eq_true rfl) (Nat.le_of_ble_eq_true rfl)
    · have h := ite_f c18 h
      refine r_bipush (pc := 21) (z := (-5)) (by decide +kernel) ⟨by decide, by decide⟩ ?_
      obtain rfl := Option.some.inj h
      exact r_ret (pc := 23) (r := some (0, (-5))) (by decide +kernel) rfl trivial (Nat.le_of_ble_eq_true rfl) (Nat.le_of_ble_eq_true rfl)
  · have h := ite_t c5 h
    refine r_bipush (pc := 8) (z := (-2)) (by decide +kernel) ⟨by decide, by decide⟩ ?_
    obtain rfl := Option.some.inj h
    exact r_ret (pc := 10) (r := some (0, (-2))) (by decide +kernel) rfl trivial (Nat.le_of_ble_eq_true rfl) (Nat.le_of_ble_eq_true rfl)

/-! TreeTonguesModel.plus(JJ)J -/
noncomputable def D_M_plus (a0 a1 : Int) (M : Mem) : Option (Int × Mem) := if (lc (wl (a0 + a1)) 1000000000000000000) ≤ 0 then (some (wl (a0 + a1), M)) else (some (1000000000000000000, M))
theorem c_M_plus {d : Nat} (hd : 1 ≤ d) {a0 a1 : Int} {M : Mem} {x : Int × Mem} (h : D_M_plus a0 a1 M = some x) : Ct d Y_M_plus [(1, a0), (1, a1)] M (some (1, x.1), x.2) 0 0 := by
  refine ct_of yk_M_plus (Nat.le_of_ble_eq_true rfl) ?_
  rw [D_M_plus] at h
  show Rn Y_M_plus d 0 0 0 0 (some (1, x.1), x.2) 0 [(0, (1, a0)), (2, (1, a1))] [] M
  refine r_lload_n (pc := 0) 0 (n := 0) (by decide +kernel) rfl rfl ?_
  refine r_lload_n (pc := 1) 1 (n := 2) (by decide +kernel) rfl rfl ?_
  refine r_ladd (pc := 2) (by decide +kernel) ?_
  refine r_ldc2 (pc := 3) (i := 291) (z := 1000000000000000000) (by decide +kernel) (mg 1305 (by decide +kernel) (by decide +kernel)) ⟨by decide, by decide⟩ ?_
  refine r_lcmp (pc := 6) (by decide +kernel) ?_
  refine r_if_le (pc := 7) (off := 9) (tgt := 16) (by decide +kernel) (by decide) (fun c7 => ?_) (fun c7 => ?_)
  · have h := ite_t c7 h
    refine r_lload_n (pc := 16) 0 (n := 0) (by decide +kernel) rfl rfl ?_
    refine r_lload_n (pc := 17) 1 (n := 2) (by decide +kernel) rfl rfl ?_
    refine r_ladd (pc := 18) (by decide +kernel) ?_
    obtain rfl := Option.some.inj h
    exact r_ret (pc := 19) (r := some (1, wl (a0 + a1))) (by decide +kernel) rfl trivial (Nat.le_of_ble_eq_true rfl) (Nat.le_of_ble_eq_true rfl)
  · have h := ite_f c7 h
    refine r_ldc2 (pc := 10) (i := 291) (z := 1000000000000000000) (by decide +kernel) (mg 1305 (by decide +kernel) (by decide +kernel)) ⟨by decide, by decide⟩ ?_
    refine r_goto (pc := 13) (off := 6) (tgt := 19) (by decide +kernel) (by decide) ?_
    obtain rfl := Option.some.inj h
    exact r_ret (pc := 19) (r := some (1, 1000000000000000000)) (by decide +kernel) rfl trivial (Nat.le_of_ble_eq_true rfl) (Nat.le_of_ble_eq_true rfl)

/-! TreeTonguesModel.times(JJ)J -/
noncomputable def D_M_times (a0 a1 : Int) (M : Mem) : Option (Int × Mem) := (if (lc a0 0) = 0 then (some 0) else (if (lc a1 0) = 0 then (some 0) else (some 1))).bind fun (t3 : Int) => if t3 = 0 then (some (0, M)) else ((nq a1).bind fun _ => if (lc a0 (ldv 1000000000000000000 a1)) ≤ 0 then (some (wl (a0 * a1), M)) else (some (1000000000000000000, M)))
theorem c_M_times {d : Nat} (hd : 1 ≤ d) {a0 a1 : Int} {M : Mem} {x : Int × Mem} (h : D_M_times a0 a1 M = some x) : Ct d Y_M_times [(1, a0), (1, a1)] M (some (1, x.1), x.2) 0 0 := by
  refine ct_of yk_M_times (Nat.le_of_ble_eq_true rfl) ?_
  rw [D_M_times] at h
  show Rn Y_M_times d 0 0 0 0 (some (1, x.1), x.2) 0 [(0, (1, a0)), (2, (1, a1))] [] M
  refine r_lload_n (pc := 0) 0 (n := 0) (by decide +kernel) rfl rfl ?_
  refine r_lconst (pc := 1) (n := 0) (z := 0) (by decide +kernel) rfl ?_
  refine r_lcmp (pc := 2) (by decide +kernel) ?_
  obtain ⟨t3, ht3, h⟩ := bnd h
  have E3_0 : t3 = 0 → Rn Y_M_times d 0 0 0 0 (some (1, x.1), x.2) 12 [] [] M := by
    intro y0
    have h := ite_t y0 h
    refine r_lconst (pc := 12) (n := 0) (z := 0) (by decide +kernel) rfl ?_
    refine r_goto (pc := 13) (off := 22) (tgt := 35) (by decide +kernel) (by decide) ?_
    obtain rfl := Option.some.inj h
    exact r_ret (pc := 35) (r := some (1, 0)) (by decide +kernel) rfl trivial (Nat.le_of_ble_eq_true rfl) (Nat.le_of_ble_eq_true rfl)
  have E3_1 : ¬ t3 = 0 → Rn Y_M_times d 0 0 0 0 (some (1, x.1), x.2) 16 [(0, (1, a0)), (2, (1, a1))] [] M := by
    intro n0
    have h := ite_f n0 h
    refine r_lload_n (pc := 16) 0 (n := 0) (by decide +kernel) rfl rfl ?_
    refine r_ldc2 (pc := 17) (i := 291) (z := 1000000000000000000) (by decide +kernel) (mg 1305 (by decide +kernel) (by decide +kernel)) ⟨by decide, by decide⟩ ?_
    refine r_lload_n (pc := 20) 1 (n := 2) (by decide +kernel) rfl rfl ?_
    obtain ⟨_, q21, h⟩ := bnd h
    refine r_ldiv (pc := 21) (by decide +kernel) (nq_s q21) ?_
    refine r_lcmp (pc := 22) (by decide +kernel) ?_
    refine r_if_le (pc := 23) (off := 9) (tgt := 32) (by decide +kernel) (by decide) (fun c23 => ?_) (fun c23 => ?_)
    · have h := ite_t c23 h
      refine r_lload_n (pc := 32) 0 (n := 0) (by decide +kernel) rfl rfl ?_
      refine r_lload_n (pc := 33) 1 (n := 2) (by decide +kernel) rfl rfl ?_
      refine r_lmul (pc := 34) (by decide +kernel) ?_
      obtain rfl := Option.some.inj h
      exact r_ret (pc := 35) (r := some (1, wl (a0 * a1))) (by decide +kernel) rfl trivial (Nat.le_of_ble_eq_true rfl) (Nat.le_of_ble_eq_true rfl)
    · have h := ite_f c23 h
      refine r_ldc2 (pc := 26) (i := 291) (z := 1000000000000000000) (by decide +kernel) (mg 1305 (by decide +kernel) (by decide +kernel)) ⟨by decide, by decide⟩ ?_
      refine r_goto (pc := 29) (off := 6) (tgt := 35) (by decide +kernel) (by decide) ?_
      obtain rfl := Option.some.inj h
      exact r_ret (pc := 35) (r := some (1, 1000000000000000000)) (by decide +kernel) rfl trivial (Nat.le_of_ble_eq_true rfl) (Nat.le_of_ble_eq_true rfl)
  refine r_if_eq (pc := 3) (off := 9) (tgt := 12) (by decide +kernel) (by decide) (fun c3 => ?_) (fun c3 => ?_)
  · have ht3 := ite_t c3 ht3
    obtain rfl := Option.some.inj ht3
    refine r_lv [] rfl ?_
    exact E3_0 rfl
  · have ht3 := ite_f c3 ht3
    refine r_lload_n (pc := 6) 1 (n := 2) (by decide +kernel) rfl rfl ?_
    refine r_lconst (pc := 7) (n := 0) (z := 0) (by decide +kernel) rfl ?_
    refine r_lcmp (pc := 8) (by decide +kernel) ?_
    refine r_if_ne (pc := 9) (off := 7) (tgt := 16) (by decide +kernel) (by decide) (fun c9 => ?_) (fun c9 => ?_)
    · have ht3 := ite_f c9 ht3
      obtain rfl := Option.some.inj ht3
      exact E3_1 (show ¬ (1 : Int) = 0 by decide)
    · have ht3 := ite_t c9 ht3
      obtain rfl := Option.some.inj ht3
      refine r_lv [] rfl ?_
      exact E3_0 rfl

/-! TreeTonguesModel.countAll()V -/
noncomputable def L_M_countAll_2 (k : Mem → Option (Mem)) (v0 : Int) : Nat → Int → Mem → Option (Mem)
  | 0 => fun _ _ => none
  | n + 1 => fun v1 M => if 246 ≤ v1 then (k  M) else ((gf M v0 9 54 45).bind fun g10 => (wt M 11 g10 v1 0).bind fun m15 => L_M_countAll_2 k v0 n (wr (v1 + 1)) m15)
noncomputable def L_M_countAll_217 (k : Mem → Option (Mem)) (v0 : Int) (v1 : Int) (v2 : Int) (v3 : Int) (v4 : Int) (v5 : Int) (v6 : Int) : Nat → Int → Mem → Option (Mem)
  | 0 => fun _ _ => none
  | n + 1 => fun v7 M => if (wr (v2 - 1)) ≤ v7 then (k  M) else ((gf M v0 9 54 45).bind fun g226 => (gf M v0 9 54 45).bind fun g232 => (rd M 11 g232 v6).bind fun e237 => (gf M v0 9 54 45).bind fun g239 => (rd M 11 g239 (wr ((wr (41 * v4)) + v7))).bind fun e250 => (gf M v0 9 54 45).bind fun g252 => (rd M 11 g252 (wr ((wr ((wr ((wr (41 * v5)) + v2)) - 1)) - v7))).bind fun e267 => (D_M_times e250 e267 M).bind fun x268 => (D_M_plus e237 x268.1 x268.2).bind fun x271 => (wt x271.2 11 g226 v6 x271.1).bind fun m274 => L_M_countAll_217 k v0 v1 v2 v3 v4 v5 v6 n (wr (v7 + 1)) m274)
noncomputable def L_M_countAll_180 (k : Mem → Option (Mem)) (v0 : Int) (v1 : Int) (v2 : Int) (v3 : Int) (v4 : Int) : Nat → Int → Mem → Option (Mem)
  | 0 => fun _ _ => none
  | n + 1 => fun v5 M => (if v1 ≤ v5 then (some 0) else ((gf M v0 9 54 1).bind fun g187 => (rd M 10 g187 v3).bind fun e191 => if e191 = 2 then (some 1) else (some 0))).bind fun (t183 : Int) => if t183 = 0 then (k  M) else ((ck M v0 9 54).bind fun _ => (D_M_step v0 16 v3 v4 v5 M).bind fun x206 => lt (wr ((wr (41 * x206.1)) + v2)) fun u6_212 => L_M_countAll_217 (fun  m217 => L_M_countAll_180 k v0 v1 v2 v3 v4 n (wr (v5 + 1)) m217) v0 v1 v2 v3 v4 v5 u6_212 FU 1 x206.2)
noncomputable def L_M_countAll_99 (k : Mem → Option (Mem)) (v0 : Int) (v1 : Int) (v2 : Int) (v3 : Int) : Nat → Int → Mem → Option (Mem)
  | 0 => fun _ _ => none
  | n + 1 => fun v4 M => (if v1 ≤ v4 then (some 0) else ((gf M v0 9 54 1).bind fun g106 => (rd M 10 g106 v3).bind fun e110 => if e110 ≤ 0 then (some 0) else (if v2 ≤ 1 then (some 0) else (some 1)))).bind fun (t102 : Int) => if t102 = 0 then (k  M) else ((gf M v0 9 54 1).bind fun g120 => (rd M 10 g120 v3).bind fun e124 => (if e124 = 1 then ((ck M v0 9 54).bind fun _ => (D_M_step v0 16 v3 v4 0 M).bind fun x138 => lt (wr ((wr (41 * x138.1)) + v2)) fun u5_144 => (gf x138.2 v0 9 54 45).bind fun g147 => (gf x138.2 v0 9 54 45).bind fun g153 => (rd x138.2 11 g153 u5_144).bind fun e158 => (gf x138.2 v0 9 54 45).bind fun g160 => (rd x138.2 11 g160 (wr ((wr ((wr (41 * v4)) + v2)) - 1))).bind fun e172 => (D_M_plus e158 e172 x138.2).bind fun x173 => (wt x173.2 11 g147 u5_144 x173.1).bind fun m176 => some m176) else (some M)).bind fun (t126 : Mem) => L_M_countAll_180 (fun  m180 => L_M_countAll_99 k v0 v1 v2 v3 n (wr (v4 + 1)) m180) v0 v1 v2 v3 v4 FU 0 t126)
noncomputable def L_M_countAll_40 (k : Mem → Option (Mem)) (v0 : Int) (v1 : Int) (v2 : Int) : Nat → Int → Mem → Option (Mem)
  | 0 => fun _ _ => none
  | n + 1 => fun v3 M => (gf M v0 9 54 0).bind fun g42 => if g42 ≤ v3 then (k  M) else ((gf M v0 9 54 1).bind fun g49 => (rd M 10 g49 v3).bind fun e53 => (if e53 = 0 then (if v2 = 1 then ((ck M v0 9 54).bind fun _ => (D_M_step v0 16 v3 0 0 M).bind fun x70 => lt (wr ((wr (41 * x70.1)) + v2)) fun u4_76 => (gf x70.2 v0 9 54 45).bind fun g79 => (gf x70.2 v0 9 54 45).bind fun g85 => (rd x70.2 11 g85 u4_76).bind fun e90 => (D_M_plus e90 1 x70.2).bind fun x92 => (wt x92.2 11 g79 u4_76 x92.1).bind fun m95 => some m95) else (some M)) else (some M)).bind fun (t54 : Mem) => L_M_countAll_99 (fun  m99 => L_M_countAll_40 k v0 v1 v2 n (wr (v3 + 1)) m99) v0 v1 v2 v3 FU 0 t54)
noncomputable def L_M_countAll_32 (k : Mem → Option (Mem)) (v0 : Int) (v1 : Int) : Nat → Int → Mem → Option (Mem)
  | 0 => fun _ _ => none
  | n + 1 => fun v2 M => if 40 < v2 then (k  M) else (L_M_countAll_40 (fun  m40 => L_M_countAll_32 k v0 v1 n (wr (v2 + 1)) m40) v0 v1 v2 FU 0 M)
noncomputable def D_M_countAll (a0 : Int) (M : Mem) : Option (Mem) := L_M_countAll_2 (fun  m2 => (gf m2 a0 9 54 13).bind fun g23 => (rd m2 10 g23 16).bind fun e28 => L_M_countAll_32 (fun  m32 => some m32) a0 e28 FU 1 m2) a0 FU 0 M
theorem sL_M_countAll_2 {d mc ms : Nat} (hd : 2 ≤ d) {r : Mem} {k : Mem → Option (Mem)} {v0 : Int} (hk : ∀ (M : Mem), k M = some r → Rn Y_M_countAll d mc ms 0 0 (none, r) 22 [(0, (2, v0))] [] M) : ∀ (n : Nat) (v1 : Int) (M : Mem), L_M_countAll_2 k v0 n v1 M = some r → Rn Y_M_countAll d mc ms 0 0 (none, r) 2 [(0, (2, v0)), (1, (0, v1))] [] M := by
  intro n
  induction n with
  | zero => intro _ _ h; cases h
  | succ n ih =>
    intro v1 M h
    rw [L_M_countAll_2] at h
    refine r_iload_n (pc := 2) 1 (n := 1) (by decide +kernel) rfl rfl ?_
    refine r_sipush (pc := 3) (z := 246) (by decide +kernel) ⟨by decide, by decide⟩ ?_
    refine r_icmp_ge (pc := 6) (off := 16) (tgt := 22) (by decide +kernel) (by decide) (fun c6 => ?_) (fun c6 => ?_)
    · have h := ite_t c6 h
      refine r_lv [0] rfl ?_
      exact hk  M h
    · have h := ite_f c6 h
      refine r_aload_n (pc := 9) 0 (n := 0) (by decide +kernel) rfl rfl ?_
      obtain ⟨g10, q10, h⟩ := bnd h
      refine r_get (pc := 10) (by decide +kernel) fl_M_102.r (by decide) rfl q10 ?_
      refine r_iload_n (pc := 13) 1 (n := 1) (by decide +kernel) rfl rfl ?_
      refine r_lconst (pc := 14) (n := 0) (z := 0) (by decide +kernel) rfl ?_
      obtain ⟨m15, q15, h⟩ := bnd h
      refine r_last (pc := 15) (by decide +kernel) q15 ?_
      refine r_iinc (pc := 16) 1 (n := 1) (lv' := [(1, (0, wr (v1 + 1))), (0, (2, v0))]) (by decide +kernel) rfl (Nat.le_of_ble_eq_true rfl) rfl ?_
      refine r_goto (pc := 19) (off := (-17)) (tgt := 2) (by decide +kernel) (by decide) ?_
      refine r_lv [1, 0] rfl ?_
      exact ih (wr (v1 + 1)) m15 h
theorem sL_M_countAll_217 {d mc ms : Nat} (hd : 2 ≤ d) {r : Mem} {k : Mem → Option (Mem)} {v0 : Int} {v1 : Int} {v2 : Int} {v3 : Int} {v4 : Int} {v5 : Int} {v6 : Int} (hk : ∀ (M : Mem), k M = some r → Rn Y_M_countAll d mc ms 0 0 (none, r) 281 [(0, (2, v0)), (1, (0, v1)), (2, (0, v2)), (3, (0, v3)), (4, (0, v4)), (5, (0, v5))] [] M) : ∀ (n : Nat) (v7 : Int) (M : Mem), L_M_countAll_217 k v0 v1 v2 v3 v4 v5 v6 n v7 M = some r → Rn Y_M_countAll d mc ms 0 0 (none, r) 217 [(0, (2, v0)), (1, (0, v1)), (2, (0, v2)), (3, (0, v3)), (4, (0, v4)), (5, (0, v5)), (6, (0, v6)), (7, (0, v7))] [] M := by
  intro n
  induction n with
  | zero => intro _ _ h; cases h
  | succ n ih =>
    intro v7 M h
    rw [L_M_countAll_217] at h
    refine r_iload (pc := 217) 7 (by decide +kernel) rfl ?_
    refine r_iload_n (pc := 219) 2 (n := 2) (by decide +kernel) rfl rfl ?_
    refine r_iconst (pc := 220) (z := 1) (by decide +kernel) ⟨by decide, by decide⟩ ?_
    refine r_isub (pc := 221) (by decide +kernel) ?_
    refine r_icmp_ge (pc := 222) (off := 59) (tgt := 281) (by decide +kernel) (by decide) (fun c222 => ?_) (fun c222 => ?_)
    · have h := ite_t c222 h
      refine r_lv [0, 1, 2, 3, 4, 5] rfl ?_
      exact hk  M h
    · have h := ite_f c222 h
      refine r_aload_n (pc := 225) 0 (n := 0) (by decide +kernel) rfl rfl ?_
      obtain ⟨g226, q226, h⟩ := bnd h
      refine r_get (pc := 226) (by decide +kernel) fl_M_102.r (by decide) rfl q226 ?_
      refine r_iload (pc := 229) 6 (by decide +kernel) rfl ?_
      refine r_aload_n (pc := 231) 0 (n := 0) (by decide +kernel) rfl rfl ?_
      obtain ⟨g232, q232, h⟩ := bnd h
      refine r_get (pc := 232) (by decide +kernel) fl_M_102.r (by decide) rfl q232 ?_
      refine r_iload (pc := 235) 6 (by decide +kernel) rfl ?_
      obtain ⟨e237, q237, h⟩ := bnd h
      refine r_lald (pc := 237) (by decide +kernel) q237 ?_
      refine r_aload_n (pc := 238) 0 (n := 0) (by decide +kernel) rfl rfl ?_
      obtain ⟨g239, q239, h⟩ := bnd h
      refine r_get (pc := 239) (by decide +kernel) fl_M_102.r (by decide) rfl q239 ?_
      refine r_bipush (pc := 242) (z := 41) (by decide +kernel) ⟨by decide, by decide⟩ ?_
      refine r_iload (pc := 244) 4 (by decide +kernel) rfl ?_
      refine r_imul (pc := 246) (by decide +kernel) ?_
      refine r_iload (pc := 247) 7 (by decide +kernel) rfl ?_
      refine r_iadd (pc := 249) (by decide +kernel) ?_
      obtain ⟨e250, q250, h⟩ := bnd h
      refine r_lald (pc := 250) (by decide +kernel) q250 ?_
      refine r_aload_n (pc := 251) 0 (n := 0) (by decide +kernel) rfl rfl ?_
      obtain ⟨g252, q252, h⟩ := bnd h
      refine r_get (pc := 252) (by decide +kernel) fl_M_102.r (by decide) rfl q252 ?_
      refine r_bipush (pc := 255) (z := 41) (by decide +kernel) ⟨by decide, by decide⟩ ?_
      refine r_iload (pc := 257) 5 (by decide +kernel) rfl ?_
      refine r_imul (pc := 259) (by decide +kernel) ?_
      refine r_iload_n (pc := 260) 2 (n := 2) (by decide +kernel) rfl rfl ?_
      refine r_iadd (pc := 261) (by decide +kernel) ?_
      refine r_iconst (pc := 262) (z := 1) (by decide +kernel) ⟨by decide, by decide⟩ ?_
      refine r_isub (pc := 263) (by decide +kernel) ?_
      refine r_iload (pc := 264) 7 (by decide +kernel) rfl ?_
      refine r_isub (pc := 266) (by decide +kernel) ?_
      obtain ⟨e267, q267, h⟩ := bnd h
      refine r_lald (pc := 267) (by decide +kernel) q267 ?_
      obtain ⟨x268, q268, h⟩ := bnd h
      refine r_callS (pc := 268) (i := 297) (d2 := d - 1) (As := [(1, e250), (1, e267)]) (st := [(1, e237), (0, v6), (2, g226)]) (st1 := [(1, e267), (1, e250), (1, e237), (0, v6), (2, g226)]) (by decide +kernel) yk_M_times ⟨ml_M_297, sk_M_times⟩ np_M_times rfl (by omega) (c_M_times (d := d - 1) (by omega) q268) (Nat.le_of_ble_eq_true rfl) (Nat.le_of_ble_eq_true rfl) (Nat.le_of_ble_eq_true rfl) rfl ?_
      show Rn _ d _ _ 0 0 _ 271 [(0, (2, v0)), (1, (0, v1)), (2, (0, v2)), (3, (0, v3)), (4, (0, v4)), (5, (0, v5)), (6, (0, v6)), (7, (0, v7))] [(1, x268.1), (1, e237), (0, v6), (2, g226)] x268.2
      obtain ⟨x271, q271, h⟩ := bnd h
      refine r_callS (pc := 271) (i := 293) (d2 := d - 1) (As := [(1, e237), (1, x268.1)]) (st := [(0, v6), (2, g226)]) (st1 := [(1, x268.1), (1, e237), (0, v6), (2, g226)]) (by decide +kernel) yk_M_plus ⟨ml_M_293, sk_M_plus⟩ np_M_plus rfl (by omega) (c_M_plus (d := d - 1) (by omega) q271) (Nat.le_of_ble_eq_true rfl) (Nat.le_of_ble_eq_true rfl) (Nat.le_of_ble_eq_true rfl) rfl ?_
      show Rn _ d _ _ 0 0 _ 274 [(0, (2, v0)), (1, (0, v1)), (2, (0, v2)), (3, (0, v3)), (4, (0, v4)), (5, (0, v5)), (6, (0, v6)), (7, (0, v7))] [(1, x271.1), (0, v6), (2, g226)] x271.2
      obtain ⟨m274, q274, h⟩ := bnd h
      refine r_last (pc := 274) (by decide +kernel) q274 ?_
      refine r_iinc (pc := 275) 7 (n := 1) (lv' := [(7, (0, wr (v7 + 1))), (0, (2, v0)), (1, (0, v1)), (2, (0, v2)), (3, (0, v3)), (4, (0, v4)), (5, (0, v5)), (6, (0, v6))]) (by decide +kernel) rfl (Nat.le_of_ble_eq_true rfl) rfl ?_
      refine r_goto (pc := 278) (off := (-61)) (tgt := 217) (by decide +kernel) (by decide) ?_
      refine r_lv [1, 2, 3, 4, 5, 6, 7, 0] rfl ?_
      exact ih (wr (v7 + 1)) m274 h
theorem sL_M_countAll_180 {d mc ms : Nat} (hd : 2 ≤ d) {r : Mem} {k : Mem → Option (Mem)} {v0 : Int} {v1 : Int} {v2 : Int} {v3 : Int} {v4 : Int} (hk : ∀ (M : Mem), k M = some r → Rn Y_M_countAll d mc ms 0 0 (none, r) 287 [(0, (2, v0)), (1, (0, v1)), (2, (0, v2)), (3, (0, v3)), (4, (0, v4))] [] M) : ∀ (n : Nat) (v5 : Int) (M : Mem), L_M_countAll_180 k v0 v1 v2 v3 v4 n v5 M = some r → Rn Y_M_countAll d mc ms 0 0 (none, r) 180 [(0, (2, v0)), (1, (0, v1)), (2, (0, v2)), (3, (0, v3)), (4, (0, v4)), (5, (0, v5))] [] M := by
  intro n
  induction n with
  | zero => intro _ _ h; cases h
  | succ n ih =>
    intro v5 M h
    rw [L_M_countAll_180] at h
    refine r_iload (pc := 180) 5 (by decide +kernel) rfl ?_
    refine r_iload_n (pc := 182) 1 (n := 1) (by decide +kernel) rfl rfl ?_
    obtain ⟨t183, ht183, h⟩ := bnd h
    have E183_0 : t183 = 0 → Rn Y_M_countAll d mc ms 0 0 (none, r) 287 [(0, (2, v0)), (1, (0, v1)), (2, (0, v2)), (3, (0, v3)), (4, (0, v4))] [] M := by
      intro y0
      have h := ite_t y0 h
      exact hk  M h
    have E183_1 : ¬ t183 = 0 → Rn Y_M_countAll d mc ms 0 0 (none, r) 196 [(0, (2, v0)), (1, (0, v1)), (2, (0, v2)), (3, (0, v3)), (4, (0, v4)), (5, (0, v5))] [] M := by
      intro n0
      have h := ite_f n0 h
      refine r_bipush (pc := 196) (z := 41) (by decide +kernel) ⟨by decide, by decide⟩ ?_
      refine r_aload_n (pc := 198) 0 (n := 0) (by decide +kernel) rfl rfl ?_
      refine r_bipush (pc := 199) (z := 16) (by decide +kernel) ⟨by decide, by decide⟩ ?_
      refine r_iload_n (pc := 201) 3 (n := 3) (by decide +kernel) rfl rfl ?_
      refine r_iload (pc := 202) 4 (by decide +kernel) rfl ?_
      refine r_iload (pc := 204) 5 (by decide +kernel) rfl ?_
      obtain ⟨_, q206c, h⟩ := bnd h
      obtain ⟨x206, q206, h⟩ := bnd h
      refine r_callV (pc := 206) (i := 155) (d2 := d - 1) (As := [(0, 16), (0, v3), (0, v4), (0, v5)]) (st := [(0, 41)]) (st1 := [(0, v5), (0, v4), (0, v3), (0, 16), (2, v0), (0, 41)]) (by decide +kernel) yk_M_step (by decide) rfl ⟨ml_M_155, vk_M_step⟩ np_M_step rfl (by omega) q206c (c_M_step (d := d - 1) (by omega) q206) (Nat.le_of_ble_eq_true rfl) (Nat.le_of_ble_eq_true rfl) (Nat.le_of_ble_eq_true rfl) rfl ?_
      show Rn _ d _ _ 0 0 _ 209 [(0, (2, v0)), (1, (0, v1)), (2, (0, v2)), (3, (0, v3)), (4, (0, v4)), (5, (0, v5))] [(0, x206.1), (0, 41)] x206.2
      refine r_imul (pc := 209) (by decide +kernel) ?_
      refine r_iload_n (pc := 210) 2 (n := 2) (by decide +kernel) rfl rfl ?_
      refine r_iadd (pc := 211) (by decide +kernel) ?_
      obtain ⟨u6_212, q212, h⟩ := lt_o h
      refine r_eq q212 ?_
      refine r_istore (pc := 212) (lv' := [(6, (0, u6_212)), (0, (2, v0)), (1, (0, v1)), (2, (0, v2)), (3, (0, v3)), (4, (0, v4)), (5, (0, v5))]) (by decide +kernel) (Nat.le_of_ble_eq_true rfl) rfl ?_
      refine r_iconst (pc := 214) (z := 1) (by decide +kernel) ⟨by decide, by decide⟩ ?_
      refine r_istore (pc := 215) (lv' := [(7, (0, 1)), (6, (0, u6_212)), (0, (2, v0)), (1, (0, v1)), (2, (0, v2)), (3, (0, v3)), (4, (0, v4)), (5, (0, v5))]) (by decide +kernel) (Nat.le_of_ble_eq_true rfl) rfl ?_
      refine r_lv [2, 3, 4, 5, 6, 7, 1, 0] rfl ?_
      refine sL_M_countAll_217 (by omega) ?_ _ _  _ h
      intro m217 h
      refine r_iinc (pc := 281) 5 (n := 1) (lv' := [(5, (0, wr (v5 + 1))), (0, (2, v0)), (1, (0, v1)), (2, (0, v2)), (3, (0, v3)), (4, (0, v4))]) (by decide +kernel) rfl (Nat.le_of_ble_eq_true rfl) rfl ?_
      refine r_goto (pc := 284) (off := (-104)) (tgt := 180) (by decide +kernel) (by decide) ?_
      refine r_lv [1, 2, 3, 4, 5, 0] rfl ?_
      exact ih (wr (v5 + 1)) m217 h
    refine r_icmp_ge (pc := 183) (off := 104) (tgt := 287) (by decide +kernel) (by decide) (fun c183 => ?_) (fun c183 => ?_)
    · have ht183 := ite_t c183 ht183
      obtain rfl := Option.some.inj ht183
      refine r_lv [0, 1, 2, 3, 4] rfl ?_
      exact E183_0 rfl
    · have ht183 := ite_f c183 ht183
      refine r_aload_n (pc := 186) 0 (n := 0) (by decide +kernel) rfl rfl ?_
      obtain ⟨g187, q187, ht183⟩ := bnd ht183
      refine r_get (pc := 187) (by decide +kernel) fl_M_7.r (by decide) rfl q187 ?_
      refine r_iload_n (pc := 190) 3 (n := 3) (by decide +kernel) rfl rfl ?_
      obtain ⟨e191, q191, ht183⟩ := bnd ht183
      refine r_iald (pc := 191) (by decide +kernel) q191 ?_
      refine r_iconst (pc := 192) (z := 2) (by decide +kernel) ⟨by decide, by decide⟩ ?_
      refine r_icmp_ne (pc := 193) (off := 94) (tgt := 287) (by decide +kernel) (by decide) (fun c193 => ?_) (fun c193 => ?_)
      · have ht183 := ite_f c193 ht183
        obtain rfl := Option.some.inj ht183
        refine r_lv [0, 1, 2, 3, 4] rfl ?_
        exact E183_0 rfl
      · have ht183 := ite_t c193 ht183
        obtain rfl := Option.some.inj ht183
        exact E183_1 (show ¬ (1 : Int) = 0 by decide)
theorem sL_M_countAll_99 {d mc ms : Nat} (hd : 2 ≤ d) {r : Mem} {k : Mem → Option (Mem)} {v0 : Int} {v1 : Int} {v2 : Int} {v3 : Int} (hk : ∀ (M : Mem), k M = some r → Rn Y_M_countAll d mc ms 0 0 (none, r) 293 [(0, (2, v0)), (1, (0, v1)), (2, (0, v2)), (3, (0, v3))] [] M) : ∀ (n : Nat) (v4 : Int) (M : Mem), L_M_countAll_99 k v0 v1 v2 v3 n v4 M = some r → Rn Y_M_countAll d mc ms 0 0 (none, r) 99 [(0, (2, v0)), (1, (0, v1)), (2, (0, v2)), (3, (0, v3)), (4, (0, v4))] [] M := by
  intro n
  induction n with
  | zero => intro _ _ h; cases h
  | succ n ih =>
    intro v4 M h
    rw [L_M_countAll_99] at h
    refine r_iload (pc := 99) 4 (by decide +kernel) rfl ?_
    refine r_iload_n (pc := 101) 1 (n := 1) (by decide +kernel) rfl rfl ?_
    obtain ⟨t102, ht102, h⟩ := bnd h
    have E102_0 : t102 = 0 → Rn Y_M_countAll d mc ms 0 0 (none, r) 293 [(0, (2, v0)), (1, (0, v1)), (2, (0, v2)), (3, (0, v3))] [] M := by
      intro y0
      have h := ite_t y0 h
      exact hk  M h
    have E102_1 : ¬ t102 = 0 → Rn Y_M_countAll d mc ms 0 0 (none, r) 119 [(0, (2, v0)), (1, (0, v1)), (2, (0, v2)), (3, (0, v3)), (4, (0, v4))] [] M := by
      intro n0
      have h := ite_f n0 h
      refine r_aload_n (pc := 119) 0 (n := 0) (by decide +kernel) rfl rfl ?_
      obtain ⟨g120, q120, h⟩ := bnd h
      refine r_get (pc := 120) (by decide +kernel) fl_M_7.r (by decide) rfl q120 ?_
      refine r_iload_n (pc := 123) 3 (n := 3) (by decide +kernel) rfl rfl ?_
      obtain ⟨e124, q124, h⟩ := bnd h
      refine r_iald (pc := 124) (by decide +kernel) q124 ?_
      refine r_iconst (pc := 125) (z := 1) (by decide +kernel) ⟨by decide, by decide⟩ ?_
      obtain ⟨t126, ht126, h⟩ := bnd h
      have E126_0 : Rn Y_M_countAll d mc ms 0 0 (none, r) 177 [(0, (2, v0)), (1, (0, v1)), (2, (0, v2)), (3, (0, v3)), (4, (0, v4))] [] t126 := by
        refine r_iconst (pc := 177) (z := 0) (by decide +kernel) ⟨by decide, by decide⟩ ?_
        refine r_istore (pc := 178) (lv' := [(5, (0, 0)), (0, (2, v0)), (1, (0, v1)), (2, (0, v2)), (3, (0, v3)), (4, (0, v4))]) (by decide +kernel) (Nat.le_of_ble_eq_true rfl) rfl ?_
        refine r_lv [1, 2, 3, 4, 5, 0] rfl ?_
        refine sL_M_countAll_180 (by omega) ?_ _ _  _ h
        intro m180 h
        refine r_iinc (pc := 287) 4 (n := 1) (lv' := [(4, (0, wr (v4 + 1))), (0, (2, v0)), (1, (0, v1)), (2, (0, v2)), (3, (0, v3))]) (by decide +kernel) rfl (Nat.le_of_ble_eq_true rfl) rfl ?_
        refine r_goto (pc := 290) (off := (-191)) (tgt := 99) (by decide +kernel) (by decide) ?_
        refine r_lv [1, 2, 3, 4, 0] rfl ?_
        exact ih (wr (v4 + 1)) m180 h
      refine r_icmp_ne (pc := 126) (off := 51) (tgt := 177) (by decide +kernel) (by decide) (fun c126 => ?_) (fun c126 => ?_)
      · have ht126 := ite_f c126 ht126
        obtain rfl := Option.some.inj ht126
        exact E126_0
      · have ht126 := ite_t c126 ht126
        refine r_bipush (pc := 129) (z := 41) (by decide +kernel) ⟨by decide, by decide⟩ ?_
        refine r_aload_n (pc := 131) 0 (n := 0) (by decide +kernel) rfl rfl ?_
        refine r_bipush (pc := 132) (z := 16) (by decide +kernel) ⟨by decide, by decide⟩ ?_
        refine r_iload_n (pc := 134) 3 (n := 3) (by decide +kernel) rfl rfl ?_
        refine r_iload (pc := 135) 4 (by decide +kernel) rfl ?_
        refine r_iconst (pc := 137) (z := 0) (by decide +kernel) ⟨by decide, by decide⟩ ?_
        obtain ⟨_, q138c, ht126⟩ := bnd ht126
        obtain ⟨x138, q138, ht126⟩ := bnd ht126
        refine r_callV (pc := 138) (i := 155) (d2 := d - 1) (As := [(0, 16), (0, v3), (0, v4), (0, 0)]) (st := [(0, 41)]) (st1 := [(0, 0), (0, v4), (0, v3), (0, 16), (2, v0), (0, 41)]) (by decide +kernel) yk_M_step (by decide) rfl ⟨ml_M_155, vk_M_step⟩ np_M_step rfl (by omega) q138c (c_M_step (d := d - 1) (by omega) q138) (Nat.le_of_ble_eq_true rfl) (Nat.le_of_ble_eq_true rfl) (Nat.le_of_ble_eq_true rfl) rfl ?_
        show Rn _ d _ _ 0 0 _ 141 [(0, (2, v0)), (1, (0, v1)), (2, (0, v2)), (3, (0, v3)), (4, (0, v4))] [(0, x138.1), (0, 41)] x138.2
        refine r_imul (pc := 141) (by decide +kernel) ?_
        refine r_iload_n (pc := 142) 2 (n := 2) (by decide +kernel) rfl rfl ?_
        refine r_iadd (pc := 143) (by decide +kernel) ?_
        obtain ⟨u5_144, q144, ht126⟩ := lt_o ht126
        refine r_eq q144 ?_
        refine r_istore (pc := 144) (lv' := [(5, (0, u5_144)), (0, (2, v0)), (1, (0, v1)), (2, (0, v2)), (3, (0, v3)), (4, (0, v4))]) (by decide +kernel) (Nat.le_of_ble_eq_true rfl) rfl ?_
        refine r_aload_n (pc := 146) 1 (n := 0) (by decide +kernel) rfl rfl ?_
        obtain ⟨g147, q147, ht126⟩ := bnd ht126
        refine r_get (pc := 147) (by decide +kernel) fl_M_102.r (by decide) rfl q147 ?_
        refine r_iload (pc := 150) 0 (by decide +kernel) rfl ?_
        refine r_aload_n (pc := 152) 1 (n := 0) (by decide +kernel) rfl rfl ?_
        obtain ⟨g153, q153, ht126⟩ := bnd ht126
        refine r_get (pc := 153) (by decide +kernel) fl_M_102.r (by decide) rfl q153 ?_
        refine r_iload (pc := 156) 0 (by decide +kernel) rfl ?_
        obtain ⟨e158, q158, ht126⟩ := bnd ht126
        refine r_lald (pc := 158) (by decide +kernel) q158 ?_
        refine r_aload_n (pc := 159) 1 (n := 0) (by decide +kernel) rfl rfl ?_
        obtain ⟨g160, q160, ht126⟩ := bnd ht126
        refine r_get (pc := 160) (by decide +kernel) fl_M_102.r (by decide) rfl q160 ?_
        refine r_bipush (pc := 163) (z := 41) (by decide +kernel) ⟨by decide, by decide⟩ ?_
        refine r_iload (pc := 165) 5 (by decide +kernel) rfl ?_
        refine r_imul (pc := 167) (by decide +kernel) ?_
        refine r_iload_n (pc := 168) 3 (n := 2) (by decide +kernel) rfl rfl ?_
        refine r_iadd (pc := 169) (by decide +kernel) ?_
        refine r_iconst (pc := 170) (z := 1) (by decide +kernel) ⟨by decide, by decide⟩ ?_
        refine r_isub (pc := 171) (by decide +kernel) ?_
        obtain ⟨e172, q172, ht126⟩ := bnd ht126
        refine r_lald (pc := 172) (by decide +kernel) q172 ?_
        obtain ⟨x173, q173, ht126⟩ := bnd ht126
        refine r_callS (pc := 173) (i := 293) (d2 := d - 1) (As := [(1, e158), (1, e172)]) (st := [(0, u5_144), (2, g147)]) (st1 := [(1, e172), (1, e158), (0, u5_144), (2, g147)]) (by decide +kernel) yk_M_plus ⟨ml_M_293, sk_M_plus⟩ np_M_plus rfl (by omega) (c_M_plus (d := d - 1) (by omega) q173) (Nat.le_of_ble_eq_true rfl) (Nat.le_of_ble_eq_true rfl) (Nat.le_of_ble_eq_true rfl) rfl ?_
        show Rn _ d _ _ 0 0 _ 176 [(5, (0, u5_144)), (0, (2, v0)), (1, (0, v1)), (2, (0, v2)), (3, (0, v3)), (4, (0, v4))] [(1, x173.1), (0, u5_144), (2, g147)] x173.2
        obtain ⟨m176, q176, ht126⟩ := bnd ht126
        refine r_last (pc := 176) (by decide +kernel) q176 ?_
        obtain rfl := Option.some.inj ht126
        refine r_lv [1, 2, 3, 4, 5] rfl ?_
        exact E126_0
    refine r_icmp_ge (pc := 102) (off := 191) (tgt := 293) (by decide +kernel) (by decide) (fun c102 => ?_) (fun c102 => ?_)
    · have ht102 := ite_t c102 ht102
      obtain rfl := Option.some.inj ht102
      refine r_lv [0, 1, 2, 3] rfl ?_
      exact E102_0 rfl
    · have ht102 := ite_f c102 ht102
      refine r_aload_n (pc := 105) 0 (n := 0) (by decide +kernel) rfl rfl ?_
      obtain ⟨g106, q106, ht102⟩ := bnd ht102
      refine r_get (pc := 106) (by decide +kernel) fl_M_7.r (by decide) rfl q106 ?_
      refine r_iload_n (pc := 109) 3 (n := 3) (by decide +kernel) rfl rfl ?_
      obtain ⟨e110, q110, ht102⟩ := bnd ht102
      refine r_iald (pc := 110) (by decide +kernel) q110 ?_
      refine r_if_le (pc := 111) (off := 182) (tgt := 293) (by decide +kernel) (by decide) (fun c111 => ?_) (fun c111 => ?_)
      · have ht102 := ite_t c111 ht102
        obtain rfl := Option.some.inj ht102
        refine r_lv [0, 1, 2, 3] rfl ?_
        exact E102_0 rfl
      · have ht102 := ite_f c111 ht102
        refine r_iload_n (pc := 114) 2 (n := 2) (by decide +kernel) rfl rfl ?_
        refine r_iconst (pc := 115) (z := 1) (by decide +kernel) ⟨by decide, by decide⟩ ?_
        refine r_icmp_le (pc := 116) (off := 177) (tgt := 293) (by decide +kernel) (by decide) (fun c116 => ?_) (fun c116 => ?_)
        · have ht102 := ite_t c116 ht102
          obtain rfl := Option.some.inj ht102
          refine r_lv [0, 1, 2, 3] rfl ?_
          exact E102_0 rfl
        · have ht102 := ite_f c116 ht102
          obtain rfl := Option.some.inj ht102
          exact E102_1 (show ¬ (1 : Int) = 0 by decide)
theorem sL_M_countAll_40 {d mc ms : Nat} (hd : 2 ≤ d) {r : Mem} {k : Mem → Option (Mem)} {v0 : Int} {v1 : Int} {v2 : Int} (hk : ∀ (M : Mem), k M = some r → Rn Y_M_countAll d mc ms 0 0 (none, r) 299 [(0, (2, v0)), (1, (0, v1)), (2, (0, v2))] [] M) : ∀ (n : Nat) (v3 : Int) (M : Mem), L_M_countAll_40 k v0 v1 v2 n v3 M = some r → Rn Y_M_countAll d mc ms 0 0 (none, r) 40 [(0, (2, v0)), (1, (0, v1)), (2, (0, v2)), (3, (0, v3))] [] M := by
  intro n
  induction n with
  | zero => intro _ _ h; cases h
  | succ n ih =>
    intro v3 M h
    rw [L_M_countAll_40] at h
    refine r_iload_n (pc := 40) 3 (n := 3) (by decide +kernel) rfl rfl ?_
    refine r_aload_n (pc := 41) 0 (n := 0) (by decide +kernel) rfl rfl ?_
    obtain ⟨g42, q42, h⟩ := bnd h
    refine r_get (pc := 42) (by decide +kernel) fl_M_124.r (by decide) rfl q42 ?_
    refine r_icmp_ge (pc := 45) (off := 254) (tgt := 299) (by decide +kernel) (by decide) (fun c45 => ?_) (fun c45 => ?_)
    · have h := ite_t c45 h
      refine r_lv [0, 1, 2] rfl ?_
      exact hk  M h
    · have h := ite_f c45 h
      refine r_aload_n (pc := 48) 0 (n := 0) (by decide +kernel) rfl rfl ?_
      obtain ⟨g49, q49, h⟩ := bnd h
      refine r_get (pc := 49) (by decide +kernel) fl_M_7.r (by decide) rfl q49 ?_
      refine r_iload_n (pc := 52) 3 (n := 3) (by decide +kernel) rfl rfl ?_
      obtain ⟨e53, q53, h⟩ := bnd h
      refine r_iald (pc := 53) (by decide +kernel) q53 ?_
      obtain ⟨t54, ht54, h⟩ := bnd h
      have E54_0 : Rn Y_M_countAll d mc ms 0 0 (none, r) 96 [(0, (2, v0)), (1, (0, v1)), (2, (0, v2)), (3, (0, v3))] [] t54 := by
        refine r_iconst (pc := 96) (z := 0) (by decide +kernel) ⟨by decide, by decide⟩ ?_
        refine r_istore (pc := 97) (lv' := [(4, (0, 0)), (0, (2, v0)), (1, (0, v1)), (2, (0, v2)), (3, (0, v3))]) (by decide +kernel) (Nat.le_of_ble_eq_true rfl) rfl ?_
        refine r_lv [1, 2, 3, 4, 0] rfl ?_
        refine sL_M_countAll_99 (by omega) ?_ _ _  _ h
        intro m99 h
        refine r_iinc (pc := 293) 3 (n := 1) (lv' := [(3, (0, wr (v3 + 1))), (0, (2, v0)), (1, (0, v1)), (2, (0, v2))]) (by decide +kernel) rfl (Nat.le_of_ble_eq_true rfl) rfl ?_
        refine r_goto (pc := 296) (off := (-256)) (tgt := 40) (by decide +kernel) (by decide) ?_
        refine r_lv [1, 2, 3, 0] rfl ?_
        exact ih (wr (v3 + 1)) m99 h
      refine r_if_ne (pc := 54) (off := 42) (tgt := 96) (by decide +kernel) (by decide) (fun c54 => ?_) (fun c54 => ?_)
      · have ht54 := ite_f c54 ht54
        obtain rfl := Option.some.inj ht54
        exact E54_0
      · have ht54 := ite_t c54 ht54
        refine r_iload_n (pc := 57) 2 (n := 2) (by decide +kernel) rfl rfl ?_
        refine r_iconst (pc := 58) (z := 1) (by decide +kernel) ⟨by decide, by decide⟩ ?_
        refine r_icmp_ne (pc := 59) (off := 37) (tgt := 96) (by decide +kernel) (by decide) (fun c59 => ?_) (fun c59 => ?_)
        · have ht54 := ite_f c59 ht54
          obtain rfl := Option.some.inj ht54
          exact E54_0
        · have ht54 := ite_t c59 ht54
          refine r_bipush (pc := 62) (z := 41) (by decide +kernel) ⟨by decide, by decide⟩ ?_
          refine r_aload_n (pc := 64) 0 (n := 0) (by decide +kernel) rfl rfl ?_
          refine r_bipush (pc := 65) (z := 16) (by decide +kernel) ⟨by decide, by decide⟩ ?_
          refine r_iload_n (pc := 67) 3 (n := 3) (by decide +kernel) rfl rfl ?_
          refine r_iconst (pc := 68) (z := 0) (by decide +kernel) ⟨by decide, by decide⟩ ?_
          refine r_iconst (pc := 69) (z := 0) (by decide +kernel) ⟨by decide, by decide⟩ ?_
          obtain ⟨_, q70c, ht54⟩ := bnd ht54
          obtain ⟨x70, q70, ht54⟩ := bnd ht54
          refine r_callV (pc := 70) (i := 155) (d2 := d - 1) (As := [(0, 16), (0, v3), (0, 0), (0, 0)]) (st := [(0, 41)]) (st1 := [(0, 0), (0, 0), (0, v3), (0, 16), (2, v0), (0, 41)]) (by decide +kernel) yk_M_step (by decide) rfl ⟨ml_M_155, vk_M_step⟩ np_M_step rfl (by omega) q70c (c_M_step (d := d - 1) (by omega) q70) (Nat.le_of_ble_eq_true rfl) (Nat.le_of_ble_eq_true rfl) (Nat.le_of_ble_eq_true rfl) rfl ?_
          show Rn _ d _ _ 0 0 _ 73 [(0, (2, v0)), (1, (0, v1)), (2, (0, v2)), (3, (0, v3))] [(0, x70.1), (0, 41)] x70.2
          refine r_imul (pc := 73) (by decide +kernel) ?_
          refine r_iload_n (pc := 74) 2 (n := 2) (by decide +kernel) rfl rfl ?_
          refine r_iadd (pc := 75) (by decide +kernel) ?_
          obtain ⟨u4_76, q76, ht54⟩ := lt_o ht54
          refine r_eq q76 ?_
          refine r_istore (pc := 76) (lv' := [(4, (0, u4_76)), (0, (2, v0)), (1, (0, v1)), (2, (0, v2)), (3, (0, v3))]) (by decide +kernel) (Nat.le_of_ble_eq_true rfl) rfl ?_
          refine r_aload_n (pc := 78) 1 (n := 0) (by decide +kernel) rfl rfl ?_
          obtain ⟨g79, q79, ht54⟩ := bnd ht54
          refine r_get (pc := 79) (by decide +kernel) fl_M_102.r (by decide) rfl q79 ?_
          refine r_iload (pc := 82) 0 (by decide +kernel) rfl ?_
          refine r_aload_n (pc := 84) 1 (n := 0) (by decide +kernel) rfl rfl ?_
          obtain ⟨g85, q85, ht54⟩ := bnd ht54
          refine r_get (pc := 85) (by decide +kernel) fl_M_102.r (by decide) rfl q85 ?_
          refine r_iload (pc := 88) 0 (by decide +kernel) rfl ?_
          obtain ⟨e90, q90, ht54⟩ := bnd ht54
          refine r_lald (pc := 90) (by decide +kernel) q90 ?_
          refine r_lconst (pc := 91) (n := 1) (z := 1) (by decide +kernel) rfl ?_
          obtain ⟨x92, q92, ht54⟩ := bnd ht54
          refine r_callS (pc := 92) (i := 293) (d2 := d - 1) (As := [(1, e90), (1, 1)]) (st := [(0, u4_76), (2, g79)]) (st1 := [(1, 1), (1, e90), (0, u4_76), (2, g79)]) (by decide +kernel) yk_M_plus ⟨ml_M_293, sk_M_plus⟩ np_M_plus rfl (by omega) (c_M_plus (d := d - 1) (by omega) q92) (Nat.le_of_ble_eq_true rfl) (Nat.le_of_ble_eq_true rfl) (Nat.le_of_ble_eq_true rfl) rfl ?_
          show Rn _ d _ _ 0 0 _ 95 [(4, (0, u4_76)), (0, (2, v0)), (1, (0, v1)), (2, (0, v2)), (3, (0, v3))] [(1, x92.1), (0, u4_76), (2, g79)] x92.2
          obtain ⟨m95, q95, ht54⟩ := bnd ht54
          refine r_last (pc := 95) (by decide +kernel) q95 ?_
          obtain rfl := Option.some.inj ht54
          refine r_lv [1, 2, 3, 4] rfl ?_
          exact E54_0
theorem sL_M_countAll_32 {d mc ms : Nat} (hd : 2 ≤ d) {r : Mem} {k : Mem → Option (Mem)} {v0 : Int} {v1 : Int} (hk : ∀ (M : Mem), k M = some r → Rn Y_M_countAll d mc ms 0 0 (none, r) 305 [] [] M) : ∀ (n : Nat) (v2 : Int) (M : Mem), L_M_countAll_32 k v0 v1 n v2 M = some r → Rn Y_M_countAll d mc ms 0 0 (none, r) 32 [(0, (2, v0)), (1, (0, v1)), (2, (0, v2))] [] M := by
  intro n
  induction n with
  | zero => intro _ _ h; cases h
  | succ n ih =>
    intro v2 M h
    rw [L_M_countAll_32] at h
    refine r_iload_n (pc := 32) 2 (n := 2) (by decide +kernel) rfl rfl ?_
    refine r_bipush (pc := 33) (z := 40) (by decide +kernel) ⟨by decide, by decide⟩ ?_
    refine r_icmp_gt (pc := 35) (off := 270) (tgt := 305) (by decide +kernel) (by decide) (fun c35 => ?_) (fun c35 => ?_)
    · have h := ite_t c35 h
      refine r_lv [] rfl ?_
      exact hk  M h
    · have h := ite_f c35 h
      refine r_iconst (pc := 38) (z := 0) (by decide +kernel) ⟨by decide, by decide⟩ ?_
      refine r_istore_n (pc := 39) (n := 3) (lv' := [(3, (0, 0)), (0, (2, v0)), (1, (0, v1)), (2, (0, v2))]) (by decide +kernel) rfl (Nat.le_of_ble_eq_true rfl) rfl ?_
      refine r_lv [1, 2, 3, 0] rfl ?_
      refine sL_M_countAll_40 (by omega) ?_ _ _  _ h
      intro m40 h
      refine r_iinc (pc := 299) 2 (n := 1) (lv' := [(2, (0, wr (v2 + 1))), (0, (2, v0)), (1, (0, v1))]) (by decide +kernel) rfl (Nat.le_of_ble_eq_true rfl) rfl ?_
      refine r_goto (pc := 302) (off := (-270)) (tgt := 32) (by decide +kernel) (by decide) ?_
      refine r_lv [1, 2, 0] rfl ?_
      exact ih (wr (v2 + 1)) m40 h
theorem c_M_countAll {d : Nat} (hd : 2 ≤ d) {a0 : Int} {M : Mem} {x : Mem} (h : D_M_countAll a0 M = some x) : Ct d Y_M_countAll [(2, a0)] M (none, x) 0 0 := by
  refine ct_of yk_M_countAll (Nat.le_of_ble_eq_true rfl) ?_
  rw [D_M_countAll] at h
  show Rn Y_M_countAll d 0 0 0 0 (none, x) 0 [(0, (2, a0))] [] M
  refine r_iconst (pc := 0) (z := 0) (by decide +kernel) ⟨by decide, by decide⟩ ?_
  refine r_istore_n (pc := 1) (n := 1) (lv' := [(1, (0, 0)), (0, (2, a0))]) (by decide +kernel) rfl (Nat.le_of_ble_eq_true rfl) rfl ?_
  refine r_lv [1, 0] rfl ?_
  refine sL_M_countAll_2 (by omega) ?_ _ _  _ h
  intro m2 h
  refine r_aload_n (pc := 22) 0 (n := 0) (by decide +kernel) rfl rfl ?_
  obtain ⟨g23, q23, h⟩ := bnd h
  refine r_get (pc := 23) (by decide +kernel) fl_M_41.r (by decide) rfl q23 ?_
  refine r_bipush (pc := 26) (z := 16) (by decide +kernel) ⟨by decide, by decide⟩ ?_
  obtain ⟨e28, q28, h⟩ := bnd h
  refine r_iald (pc := 28) (by decide +kernel) q28 ?_
  refine r_istore_n (pc := 29) (n := 1) (lv' := [(1, (0, e28)), (0, (2, a0))]) (by decide +kernel) rfl (Nat.le_of_ble_eq_true rfl) rfl ?_
  refine r_iconst (pc := 30) (z := 1) (by decide +kernel) ⟨by decide, by decide⟩ ?_
  refine r_istore_n (pc := 31) (n := 2) (lv' := [(2, (0, 1)), (1, (0, e28)), (0, (2, a0))]) (by decide +kernel) rfl (Nat.le_of_ble_eq_true rfl) rfl ?_
  refine r_lv [2, 1, 0] rfl ?_
  refine sL_M_countAll_32 (by omega) ?_ _ _  _ h
  intro m32 h
  obtain rfl := Option.some.inj h
  exact r_ret (pc := 305) (r := none) (by decide +kernel) rfl trivial (Nat.le_of_ble_eq_true rfl) (Nat.le_of_ble_eq_true rfl)
