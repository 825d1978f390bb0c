/-! TreeTonguesModel.byRules(III)I -/
noncomputable def L_M_byRules_12 (k : Int → Mem → Option (Int × Mem)) (v0 : Int) (v1 : Int) (v2 : Int) (v3 : Int) : Nat → Int → Int → Mem → Option (Int × Mem)
  | 0 => fun _ _ _ => none
  | n + 1 => fun v4 v5 M => (gf M v0 9 54 22).bind fun g17 => (gf M v0 9 54 8).bind fun g22 => (gf M v0 9 54 22).bind fun g26 => (rd M 10 g22 g26).bind fun e29 => if (wr ((wr (40 * g17)) + e29)) ≤ v5 then (k v4 M) else ((gf M v0 9 54 9).bind fun g35 => (rd M 10 g35 v5).bind fun e40 => ((if e40 = v1 then ((gf M v0 9 54 1).bind fun g46 => (rd M 10 g46 v1).bind fun e50 => (if e50 < 1 then (some 0) else ((gf M v0 9 54 10).bind fun g57 => (rd M 10 g57 v5).bind fun e62 => if (iand (ishr v2 e62) 1) = 1 then (some 0) else (some 1))).bind fun (t52 : Int) => if t52 = 0 then ((gf M v0 9 54 1).bind fun g71 => (rd M 10 g71 v1).bind fun e75 => (if e75 < 2 then (some 0) else ((gf M v0 9 54 11).bind fun g82 => (rd M 10 g82 v5).bind fun e87 => if (iand (ishr v3 e87) 1) = 1 then (some 0) else (some 1))).bind fun (t77 : Int) => if t77 = 0 then (some 1) else (some 0)) else (some 0)) else (some 0)).bind fun (t42i : Int) => if t42i = 0 then (some 0) else (some 1)).bind fun (t42 : Int) => (if t42 = 0 then (some 0) else ((gf M v0 9 54 12).bind fun g111 => (rd M 10 g111 v5).bind fun e116 => some (ishl 1 e116))).bind fun (t106 : Int) => lt (ior v4 t106) fun u4_123 => L_M_byRules_12 k v0 v1 v2 v3 n u4_123 (wr (v5 + 1)) M)
noncomputable def D_M_byRules (a0 a1 a2 a3 : Int) (M : Mem) : Option (Int × Mem) := (gf M a0 9 54 22).bind fun g6 => lt (wr (40 * g6)) fun u5_10 => L_M_byRules_12 (fun w4_12 m12 => some (w4_12, m12)) a0 a1 a2 a3 FU 0 u5_10 M
theorem sL_M_byRules_12 {d mc ms : Nat} (hd : 1 ≤ d) {r : Int × Mem} {k : Int → Mem → Option (Int × Mem)} {v0 : Int} {v1 : Int} {v2 : Int} {v3 : Int} (hk : ∀ (v4 : Int) (M : Mem), k v4 M = some r → Rn Y_M_byRules d mc ms 0 0 (some (0, r.1), r.2) 131 [(4, (0, v4))] [] M) : ∀ (n : Nat) (v4 : Int) (v5 : Int) (M : Mem), L_M_byRules_12 k v0 v1 v2 v3 n v4 v5 M = some r → Rn Y_M_byRules d mc ms 0 0 (some (0, r.1), r.2) 12 [(0, (2, v0)), (1, (0, v1)), (2, (0, v2)), (3, (0, v3)), (4, (0, v4)), (5, (0, v5))] [] M := by
  intro n
  induction n with
  | zero => intro _ _ _ h; cases h
  | succ n ih =>
    intro v4 v5 M h
    rw [L_M_byRules_12] at h
    refine r_iload (pc := 12) 5 (by decide +kernel) rfl ?_
    refine r_bipush (pc := 14) (z := 40) (by decide +kernel) ⟨by decide, by decide⟩ ?_
    refine r_aload_n (pc := 16) 0 (n := 0) (by decide +kernel) rfl rfl ?_
    obtain ⟨g17, q17, h⟩ := bnd h
    refine r_get (pc := 17) (by decide +kernel) fl_M_152.r (by decide) rfl q17 ?_
    refine r_imul (pc := 20) (by decide +kernel) ?_
    refine r_aload_n (pc := 21) 0 (n := 0) (by decide +kernel) rfl rfl ?_
    obtain ⟨g22, q22, h⟩ := bnd h
    refine r_get (pc := 22) (by decide +kernel) fl_M_26.r (by decide) rfl q22 ?_
    refine r_aload_n (pc := 25) 0 (n := 0) (by decide +kernel) rfl rfl ?_
    obtain ⟨g26, q26, h⟩ := bnd h
    refine r_get (pc := 26) (by decide +kernel) fl_M_152.r (by decide) rfl q26 ?_
    obtain ⟨e29, q29, h⟩ := bnd h
    refine r_iald (pc := 29) (by decide +kernel) q29 ?_
    refine r_iadd (pc := 30) (by decide +kernel) ?_
    refine r_icmp_ge (pc := 31) (off := 100) (tgt := 131) (by decide +kernel) (by decide) (fun c31 => ?_) (fun c31 => ?_)
    · have h := ite_t c31 h
      refine r_lv [4] rfl ?_
      exact hk v4 M h
    · have h := ite_f c31 h
      refine r_aload_n (pc := 34) 0 (n := 0) (by decide +kernel) rfl rfl ?_
      obtain ⟨g35, q35, h⟩ := bnd h
      refine r_get (pc := 35) (by decide +kernel) fl_M_29.r (by decide) rfl q35 ?_
      refine r_iload (pc := 38) 5 (by decide +kernel) rfl ?_
      obtain ⟨e40, q40, h⟩ := bnd h
      refine r_iald (pc := 40) (by decide +kernel) q40 ?_
      refine r_iload_n (pc := 41) 1 (n := 1) (by decide +kernel) rfl rfl ?_
      obtain ⟨t42, ht42, h⟩ := bnd h
      have E42_0 : Rn Y_M_byRules d mc ms 0 0 (some (0, r.1), r.2) 100 [(0, (2, v0)), (1, (0, v1)), (2, (0, v2)), (3, (0, v3)), (4, (0, v4)), (5, (0, v5))] [(0, t42)] M := by
        refine r_istore (pc := 100) (lv' := [(6, (0, t42)), (0, (2, v0)), (1, (0, v1)), (2, (0, v2)), (3, (0, v3)), (4, (0, v4)), (5, (0, v5))]) (by decide +kernel) (Nat.le_of_ble_eq_true rfl) rfl ?_
        refine r_iload (pc := 102) 5 (by decide +kernel) rfl ?_
        refine r_iload (pc := 104) 0 (by decide +kernel) rfl ?_
        obtain ⟨t106, ht106, h⟩ := bnd h
        have E106_0 : Rn Y_M_byRules d mc ms 0 0 (some (0, r.1), r.2) 122 [(0, (2, v0)), (1, (0, v1)), (2, (0, v2)), (3, (0, v3)), (5, (0, v5))] [(0, t106), (0, v4)] M := by
          refine r_ior (pc := 122) (by decide +kernel) ?_
          obtain ⟨u4_123, q123, h⟩ := lt_o h
          refine r_eq q123 ?_
          refine r_istore (pc := 123) (lv' := [(4, (0, u4_123)), (0, (2, v0)), (1, (0, v1)), (2, (0, v2)), (3, (0, v3)), (5, (0, v5))]) (by decide +kernel) (Nat.le_of_ble_eq_true rfl) rfl ?_
          refine r_iinc (pc := 125) 5 (n := 1) (lv' := [(5, (0, wr (v5 + 1))), (4, (0, u4_123)), (0, (2, v0)), (1, (0, v1)), (2, (0, v2)), (3, (0, v3))]) (by decide +kernel) rfl (Nat.le_of_ble_eq_true rfl) rfl ?_
          refine r_goto (pc := 128) (off := (-116)) (tgt := 12) (by decide +kernel) (by decide) ?_
          refine r_lv [2, 3, 4, 5, 1, 0] rfl ?_
          exact ih u4_123 (wr (v5 + 1)) M h
        refine r_if_eq (pc := 106) (off := 15) (tgt := 121) (by decide +kernel) (by decide) (fun c106 => ?_) (fun c106 => ?_)
        · have ht106 := ite_t c106 ht106
          refine r_iconst (pc := 121) (z := 0) (by decide +kernel) ⟨by decide, by decide⟩ ?_
          obtain rfl := Option.some.inj ht106
          refine r_lv [1, 2, 3, 4, 6] rfl ?_
          exact E106_0
        · have ht106 := ite_f c106 ht106
          refine r_iconst (pc := 109) (z := 1) (by decide +kernel) ⟨by decide, by decide⟩ ?_
          refine r_aload_n (pc := 110) 1 (n := 0) (by decide +kernel) rfl rfl ?_
          obtain ⟨g111, q111, ht106⟩ := bnd ht106
          refine r_get (pc := 111) (by decide +kernel) fl_M_38.r (by decide) rfl q111 ?_
          refine r_iload (pc := 114) 6 (by decide +kernel) rfl ?_
          obtain ⟨e116, q116, ht106⟩ := bnd ht106
          refine r_iald (pc := 116) (by decide +kernel) q116 ?_
          refine r_ishl (pc := 117) (by decide +kernel) ?_
          refine r_goto (pc := 118) (off := 4) (tgt := 122) (by decide +kernel) (by decide) ?_
          obtain rfl := Option.some.inj ht106
          refine r_lv [1, 2, 3, 4, 6] rfl ?_
          exact E106_0
      obtain ⟨t42i, ht42i, ht42⟩ := bnd ht42
      have E42i_0 : t42i = 0 → Rn Y_M_byRules d mc ms 0 0 (some (0, r.1), r.2) 99 [(0, (2, v0)), (1, (0, v1)), (2, (0, v2)), (3, (0, v3)), (4, (0, v4)), (5, (0, v5))] [] M := by
        intro y0
        have ht42 := ite_t y0 ht42
        refine r_iconst (pc := 99) (z := 0) (by decide +kernel) ⟨by decide, by decide⟩ ?_
        obtain rfl := Option.some.inj ht42
        exact E42_0
      have E42i_1 : ¬ t42i = 0 → Rn Y_M_byRules d mc ms 0 0 (some (0, r.1), r.2) 95 [(0, (2, v0)), (1, (0, v1)), (2, (0, v2)), (3, (0, v3)), (4, (0, v4)), (5, (0, v5))] [] M := by
        intro n0
        have ht42 := ite_f n0 ht42
        refine r_iconst (pc := 95) (z := 1) (by decide +kernel) ⟨by decide, by decide⟩ ?_
        refine r_goto (pc := 96) (off := 4) (tgt := 100) (by decide +kernel) (by decide) ?_
        obtain rfl := Option.some.inj ht42
        exact E42_0
      refine r_icmp_ne (pc := 42) (off := 57) (tgt := 99) (by decide +kernel) (by decide) (fun c42 => ?_) (fun c42 => ?_)
      · have ht42i := ite_f c42 ht42i
        obtain rfl := Option.some.inj ht42i
        exact E42i_0 rfl
      · have ht42i := ite_t c42 ht42i
        refine r_aload_n (pc := 45) 0 (n := 0) (by decide +kernel) rfl rfl ?_
        obtain ⟨g46, q46, ht42i⟩ := bnd ht42i
        refine r_get (pc := 46) (by decide +kernel) fl_M_7.r (by decide) rfl q46 ?_
        refine r_iload_n (pc := 49) 1 (n := 1) (by decide +kernel) rfl rfl ?_
        obtain ⟨e50, q50, ht42i⟩ := bnd ht42i
        refine r_iald (pc := 50) (by decide +kernel) q50 ?_
        refine r_iconst (pc := 51) (z := 1) (by decide +kernel) ⟨by decide, by decide⟩ ?_
        obtain ⟨t52, ht52, ht42i⟩ := bnd ht42i
        have E52_0 : t52 = 0 → Rn Y_M_byRules d mc ms 0 0 (some (0, r.1), r.2) 70 [(0, (2, v0)), (1, (0, v1)), (2, (0, v2)), (3, (0, v3)), (4, (0, v4)), (5, (0, v5))] [] M := by
          intro y0
          have ht42i := ite_t y0 ht42i
          refine r_aload_n (pc := 70) 0 (n := 0) (by decide +kernel) rfl rfl ?_
          obtain ⟨g71, q71, ht42i⟩ := bnd ht42i
          refine r_get (pc := 71) (by decide +kernel) fl_M_7.r (by decide) rfl q71 ?_
          refine r_iload_n (pc := 74) 1 (n := 1) (by decide +kernel) rfl rfl ?_
          obtain ⟨e75, q75, ht42i⟩ := bnd ht42i
          refine r_iald (pc := 75) (by decide +kernel) q75 ?_
          refine r_iconst (pc := 76) (z := 2) (by decide +kernel) ⟨by decide, by decide⟩ ?_
          obtain ⟨t77, ht77, ht42i⟩ := bnd ht42i
          have E77_0 : t77 = 0 → Rn Y_M_byRules d mc ms 0 0 (some (0, r.1), r.2) 95 [(0, (2, v0)), (1, (0, v1)), (2, (0, v2)), (3, (0, v3)), (4, (0, v4)), (5, (0, v5))] [] M := by
            intro y0
            have ht42i := ite_t y0 ht42i
            obtain rfl := Option.some.inj ht42i
            exact E42i_1 (show ¬ (1 : Int) = 0 by decide)
          have E77_1 : ¬ t77 = 0 → Rn Y_M_byRules d mc ms 0 0 (some (0, r.1), r.2) 99 [(0, (2, v0)), (1, (0, v1)), (2, (0, v2)), (3, (0, v3)), (4, (0, v4)), (5, (0, v5))] [] M := by
            intro n0
            have ht42i := ite_f n0 ht42i
            obtain rfl := Option.some.inj ht42i
            exact E42i_0 rfl
          refine r_icmp_lt (pc := 77) (off := 18) (tgt := 95) (by decide +kernel) (by decide) (fun c77 => ?_) (fun c77 => ?_)
          · have ht77 := ite_t c77 ht77
            obtain rfl := Option.some.inj ht77
            exact E77_0 rfl
          · have ht77 := ite_f c77 ht77
            refine r_iload_n (pc := 80) 3 (n := 3) (by decide +kernel) rfl rfl ?_
            refine r_aload_n (pc := 81) 0 (n := 0) (by decide +kernel) rfl rfl ?_
            obtain ⟨g82, q82, ht77⟩ := bnd ht77
            refine r_get (pc := 82) (by decide +kernel) fl_M_35.r (by decide) rfl q82 ?_
            refine r_iload (pc := 85) 5 (by decide +kernel) rfl ?_
            obtain ⟨e87, q87, ht77⟩ := bnd ht77
            refine r_iald (pc := 87) (by decide +kernel) q87 ?_
            refine r_ishr (pc := 88) (by decide +kernel) ?_
            refine r_iconst (pc := 89) (z := 1) (by decide +kernel) ⟨by decide, by decide⟩ ?_
            refine r_iand (pc := 90) (by decide +kernel) ?_
            refine r_iconst (pc := 91) (z := 1) (by decide +kernel) ⟨by decide, by decide⟩ ?_
            refine r_icmp_ne (pc := 92) (off := 7) (tgt := 99) (by decide +kernel) (by decide) (fun c92 => ?_) (fun c92 => ?_)
            · have ht77 := ite_f c92 ht77
              obtain rfl := Option.some.inj ht77
              exact E77_1 (show ¬ (1 : Int) = 0 by decide)
            · have ht77 := ite_t c92 ht77
              obtain rfl := Option.some.inj ht77
              exact E77_0 rfl
        have E52_1 : ¬ t52 = 0 → Rn Y_M_byRules d mc ms 0 0 (some (0, r.1), r.2) 99 [(0, (2, v0)), (1, (0, v1)), (2, (0, v2)), (3, (0, v3)), (4, (0, v4)), (5, (0, v5))] [] M := by
          intro n0
          have ht42i := ite_f n0 ht42i
          obtain rfl := Option.some.inj ht42i
          exact E42i_0 rfl
        refine r_icmp_lt (pc := 52) (off := 18) (tgt := 70) (by decide +kernel) (by decide) (fun c52 => ?_) (fun c52 => ?_)
        · have ht52 := ite_t c52 ht52
          obtain rfl := Option.some.inj ht52
          exact E52_0 rfl
        · have ht52 := ite_f c52 ht52
          refine r_iload_n (pc := 55) 2 (n := 2) (by decide +kernel) rfl rfl ?_
          refine r_aload_n (pc := 56) 0 (n := 0) (by decide +kernel) rfl rfl ?_
          obtain ⟨g57, q57, ht52⟩ := bnd ht52
          refine r_get (pc := 57) (by decide +kernel) fl_M_32.r (by decide) rfl q57 ?_
          refine r_iload (pc := 60) 5 (by decide +kernel) rfl ?_
          obtain ⟨e62, q62, ht52⟩ := bnd ht52
          refine r_iald (pc := 62) (by decide +kernel) q62 ?_
          refine r_ishr (pc := 63) (by decide +kernel) ?_
          refine r_iconst (pc := 64) (z := 1) (by decide +kernel) ⟨by decide, by decide⟩ ?_
          refine r_iand (pc := 65) (by decide +kernel) ?_
          refine r_iconst (pc := 66) (z := 1) (by decide +kernel) ⟨by decide, by decide⟩ ?_
          refine r_icmp_ne (pc := 67) (off := 32) (tgt := 99) (by decide +kernel) (by decide) (fun c67 => ?_) (fun c67 => ?_)
          · have ht52 := ite_f c67 ht52
            obtain rfl := Option.some.inj ht52
            exact E52_1 (show ¬ (1 : Int) = 0 by decide)
          · have ht52 := ite_t c67 ht52
            obtain rfl := Option.some.inj ht52
            exact E52_0 rfl
theorem c_M_byRules {d : Nat} (hd : 1 ≤ d) {a0 a1 a2 a3 : Int} {M : Mem} {x : Int × Mem} (h : D_M_byRules a0 a1 a2 a3 M = some x) : Ct d Y_M_byRules [(2, a0), (0, a1), (0, a2), (0, a3)] M (some (0, x.1), x.2) 0 0 := by
  refine ct_of yk_M_byRules (Nat.le_of_ble_eq_true rfl) ?_
  rw [D_M_byRules] at h
  show Rn Y_M_byRules d 0 0 0 0 (some (0, x.1), x.2) 0 [(0, (2, a0)), (1, (0, a1)), (2, (0, a2)), (3, (0, a3))] [] M
  refine r_iconst (pc := 0) (z := 0) (by decide +kernel) ⟨by decide, by decide⟩ ?_
  refine r_istore (pc := 1) (lv' := [(4, (0, 0)), (0, (2, a0)), (1, (0, a1)), (2, (0, a2)), (3, (0, a3))]) (by decide +kernel) (Nat.le_of_ble_eq_true rfl) rfl ?_
  refine r_bipush (pc := 3) (z := 40) (by decide +kernel) ⟨by decide, by decide⟩ ?_
  refine r_aload_n (pc := 5) 1 (n := 0) (by decide +kernel) rfl rfl ?_
  obtain ⟨g6, q6, h⟩ := bnd h
  refine r_get (pc := 6) (by decide +kernel) fl_M_152.r (by decide) rfl q6 ?_
  refine r_imul (pc := 9) (by decide +kernel) ?_
  obtain ⟨u5_10, q10, h⟩ := lt_o h
  refine r_eq q10 ?_
  refine r_istore (pc := 10) (lv' := [(5, (0, u5_10)), (4, (0, 0)), (0, (2, a0)), (1, (0, a1)), (2, (0, a2)), (3, (0, a3))]) (by decide +kernel) (Nat.le_of_ble_eq_true rfl) rfl ?_
  refine r_lv [2, 3, 4, 5, 1, 0] rfl ?_
  refine sL_M_byRules_12 (by omega) ?_ _ _ _  _ h
  intro w4_12 m12 h
  refine r_iload (pc := 131) 0 (by decide +kernel) rfl ?_
  obtain rfl := Option.some.inj h
  exact r_ret (pc := 133) (r := some (0, w4_12)) (by decide +kernel) rfl trivial (Nat.le_of_ble_eq_true rfl) (Nat.le_of_ble_eq_true rfl)

/-! TreeTonguesModel.step(IIII)I -/
noncomputable def D_M_step (a0 a1 a2 a3 a4 : Int) (M : Mem) : Option (Int × Mem) := (gf M a0 9 54 14).bind fun g1 => (rd M 10 g1 (wr ((wr ((wr ((wr (216 * a1)) + (wr (36 * a2)))) + (wr (6 * a3)))) + a4))).bind fun e22 => some (e22, M)
theorem c_M_step {d : Nat} (hd : 1 ≤ d) {a0 a1 a2 a3 a4 : Int} {M : Mem} {x : Int × Mem} (h : D_M_step a0 a1 a2 a3 a4 M = some x) : Ct d Y_M_step [(2, a0), (0, a1), (0, a2), (0, a3), (0, a4)] M (some (0, x.1), x.2) 0 0 := by
  refine ct_of yk_M_step (Nat.le_of_ble_eq_true rfl) ?_
  rw [D_M_step] at h
  show Rn Y_M_step d 0 0 0 0 (some (0, x.1), x.2) 0 [(0, (2, a0)), (1, (0, a1)), (2, (0, a2)), (3, (0, a3)), (4, (0, a4))] [] M
  refine r_aload_n (pc := 0) 0 (n := 0) (by decide +kernel) rfl rfl ?_
  obtain ⟨g1, q1, h⟩ := bnd h
  refine r_get (pc := 1) (by decide +kernel) fl_M_44.r (by decide) rfl q1 ?_
  refine r_sipush (pc := 4) (z := 216) (by decide +kernel) ⟨by decide, by decide⟩ ?_
  refine r_iload_n (pc := 7) 1 (n := 1) (by decide +kernel) rfl rfl ?_
  refine r_imul (pc := 8) (by decide +kernel) ?_
  refine r_bipush (pc := 9) (z := 36) (by decide +kernel) ⟨by decide, by decide⟩ ?_
  refine r_iload_n (pc := 11) 2 (n := 2) (by decide +kernel) rfl rfl ?_
  refine r_imul (pc := 12) (by decide +kernel) ?_
  refine r_iadd (pc := 13) (by decide +kernel) ?_
  refine r_bipush (pc := 14) (z := 6) (by decide +kernel) ⟨by decide, by decide⟩ ?_
  refine r_iload_n (pc := 16) 3 (n := 3) (by decide +kernel) rfl rfl ?_
  refine r_imul (pc := 17) (by decide +kernel) ?_
  refine r_iadd (pc := 18) (by decide +kernel) ?_
  refine r_iload (pc := 19) 4 (by decide +kernel) rfl ?_
  refine r_iadd (pc := 21) (by decide +kernel) ?_
  obtain ⟨e22, q22, h⟩ := bnd h
  refine r_iald (pc := 22) (by decide +kernel) q22 ?_
  obtain rfl := Option.some.inj h
  exact r_ret (pc := 23) (r := some (0, e22)) (by decide +kernel) rfl trivial (Nat.le_of_ble_eq_true rfl) (Nat.le_of_ble_eq_true rfl)

/-! TreeTonguesModel.mapped(I)I -/
noncomputable def D_M_mapped (a0 a1 : Int) (M : Mem) : Option (Int × Mem) := (gf M a0 9 54 23).bind fun g1 => some (iand (ishr g1 (wr (3 * a1))) 7, M)
theorem c_M_mapped {d : Nat} (hd : 1 ≤ d) {a0 a1 : Int} {M : Mem} {x : Int × Mem} (h : D_M_mapped a0 a1 M = some x) : Ct d Y_M_mapped [(2, a0), (0, a1)] M (some (0, x.1), x.2) 0 0 := by
  refine ct_of yk_M_mapped (Nat.le_of_ble_eq_true rfl) ?_
  rw [D_M_mapped] at h
  show Rn Y_M_mapped d 0 0 0 0 (some (0, x.1), x.2) 0 [(0, (2, a0)), (1, (0, a1))] [] M
  refine r_aload_n (pc := 0) 0 (n := 0) (by decide +kernel) rfl rfl ?_
  obtain ⟨g1, q1, h⟩ := bnd h
  refine r_get (pc := 1) (by decide +kernel) fl_M_149.r (by decide) rfl q1 ?_
  refine r_iconst (pc := 4) (z := 3) (by decide +kernel) ⟨by decide, by decide⟩ ?_
  refine r_iload_n (pc := 5) 1 (n := 1) (by decide +kernel) rfl rfl ?_
  refine r_imul (pc := 6) (by decide +kernel) ?_
  refine r_ishr (pc := 7) (by decide +kernel) ?_
  refine r_bipush (pc := 8) (z := 7) (by decide +kernel) ⟨by decide, by decide⟩ ?_
  refine r_iand (pc := 10) (by decide +kernel) ?_
  obtain rfl := Option.some.inj h
  exact r_ret (pc := 11) (r := some (0, iand (ishr g1 (wr (3 * a1))) 7)) (by decide +kernel) rfl trivial (Nat.le_of_ble_eq_true rfl) (Nat.le_of_ble_eq_true rfl)

/-! TreeTonguesModel.bySets(III)I -/
noncomputable def L_M_bySets_21 (k : Int → Mem → Option (Int × Mem)) (v0 : Int) (v1 : Int) (v2 : Int) (v3 : Int) (v5 : Int) : Nat → Int → Int → Mem → Option (Int × Mem)
  | 0 => fun _ _ _ => none
  | n + 1 => fun v4 v6 M => (gf M v0 9 54 13).bind fun g24 => (rd M 10 g24 16).bind fun e29 => if e29 ≤ v6 then (k v4 M) else ((gf M v0 9 54 1).bind fun g34 => (rd M 10 g34 v1).bind fun e38 => (((if e38 < 1 then (some 0) else (if (iand (ishr v2 v5) 1) = 1 then (some 0) else (some 1))).bind fun (t40ii : Int) => if t40ii = 0 then ((gf M v0 9 54 1).bind fun g54 => (rd M 10 g54 v1).bind fun e58 => (if e58 < 2 then (some 0) else (if (iand (ishr v3 v6) 1) = 1 then (some 0) else (some 1))).bind fun (t60 : Int) => if t60 = 0 then (some 1) else (some 0)) else (some 0)).bind fun (t40i : Int) => if t40i = 0 then (some 0) else (some 1)).bind fun (t40 : Int) => (if t40 = 0 then (some (0, M)) else ((gf M v0 9 54 1).bind fun g93 => (rd M 10 g93 v1).bind fun e97 => (if 1 ≤ e97 then (some v5) else (some 0)).bind fun (t99 : Int) => (gf M v0 9 54 1).bind fun g109 => (rd M 10 g109 v1).bind fun e113 => (if 2 ≤ e113 then (some v6) else (some 0)).bind fun (t115 : Int) => (ck M v0 9 54).bind fun _ => (D_M_step v0 16 v1 t99 t115 M).bind fun x124 => some (ishl 1 x124.1, x124.2))).bind fun (t84 : Int × Mem) => lt (ior v4 t84.1) fun u4_133 => L_M_bySets_21 k v0 v1 v2 v3 v5 n u4_133 (wr (v6 + 1)) t84.2)
noncomputable def L_M_bySets_6 (k : Int → Mem → Option (Int × Mem)) (v0 : Int) (v1 : Int) (v2 : Int) (v3 : Int) : Nat → Int → Int → Mem → Option (Int × Mem)
  | 0 => fun _ _ _ => none
  | n + 1 => fun v4 v5 M => (gf M v0 9 54 13).bind fun g9 => (rd M 10 g9 16).bind fun e14 => if e14 ≤ v5 then (k v4 M) else (L_M_bySets_21 (fun w4_21 m21 => L_M_bySets_6 k v0 v1 v2 v3 n w4_21 (wr (v5 + 1)) m21) v0 v1 v2 v3 v5 FU v4 0 M)
noncomputable def D_M_bySets (a0 a1 a2 a3 : Int) (M : Mem) : Option (Int × Mem) := L_M_bySets_6 (fun w4_6 m6 => some (w4_6, m6)) a0 a1 a2 a3 FU 0 0 M
theorem sL_M_bySets_21 {d mc ms : Nat} (hd : 2 ≤ d) {r : Int × Mem} {k : Int → Mem → Option (Int × Mem)} {v0 : Int} {v1 : Int} {v2 : Int} {v3 : Int} {v5 : Int} (hk : ∀ (v4 : Int) (M : Mem), k v4 M = some r → Rn Y_M_bySets d mc ms 0 0 (some (0, r.1), r.2) 141 [(0, (2, v0)), (1, (0, v1)), (2, (0, v2)), (3, (0, v3)), (4, (0, v4)), (5, (0, v5))] [] M) : ∀ (n : Nat) (v4 : Int) (v6 : Int) (M : Mem), L_M_bySets_21 k v0 v1 v2 v3 v5 n v4 v6 M = some r → Rn Y_M_bySets d mc ms 0 0 (some (0, r.1), r.2) 21 [(0, (2, v0)), (1, (0, v1)), (2, (0, v2)), (3, (0, v3)), (4, (0, v4)), (5, (0, v5)), (6, (0, v6))] [] M := by
  intro n
  induction n with
  | zero => intro _ _ _ h; cases h
  | succ n ih =>
    intro v4 v6 M h
    rw [L_M_bySets_21] at h
    refine r_iload (pc := 21) 6 (by decide +kernel) rfl ?_
    refine r_aload_n (pc := 23) 0 (n := 0) (by decide +kernel) rfl rfl ?_
    obtain ⟨g24, q24, h⟩ := bnd h
    refine r_get (pc := 24) (by decide +kernel) fl_M_41.r (by decide) rfl q24 ?_
    refine r_bipush (pc := 27) (z := 16) (by decide +kernel) ⟨by decide, by decide⟩ ?_
    obtain ⟨e29, q29, h⟩ := bnd h
    refine r_iald (pc := 29) (by decide +kernel) q29 ?_
    refine r_icmp_ge (pc := 30) (off := 111) (tgt := 141) (by decide +kernel) (by decide) (fun c30 => ?_) (fun c30 => ?_)
    · have h := ite_t c30 h
      refine r_lv [0, 1, 2, 3, 4, 5] rfl ?_
      exact hk v4 M h
    · have h := ite_f c30 h
      refine r_aload_n (pc := 33) 0 (n := 0) (by decide +kernel) rfl rfl ?_
      obtain ⟨g34, q34, h⟩ := bnd h
      refine r_get (pc := 34) (by decide +kernel) fl_M_7.r (by decide) rfl q34 ?_
      refine r_iload_n (pc := 37) 1 (n := 1) (by decide +kernel) rfl rfl ?_
      obtain ⟨e38, q38, h⟩ := bnd h
      refine r_iald (pc := 38) (by decide +kernel) q38 ?_
      refine r_iconst (pc := 39) (z := 1) (by decide +kernel) ⟨by decide, by decide⟩ ?_
      obtain ⟨t40, ht40, h⟩ := bnd h
      have E40_0 : Rn Y_M_bySets d mc ms 0 0 (some (0, r.1), r.2) 78 [(0, (2, v0)), (1, (0, v1)), (2, (0, v2)), (3, (0, v3)), (4, (0, v4)), (5, (0, v5)), (6, (0, v6))] [(0, t40)] M := by
        refine r_istore (pc := 78) (lv' := [(7, (0, t40)), (0, (2, v0)), (1, (0, v1)), (2, (0, v2)), (3, (0, v3)), (4, (0, v4)), (5, (0, v5)), (6, (0, v6))]) (by decide +kernel) (Nat.le_of_ble_eq_true rfl) rfl ?_
        refine r_iload (pc := 80) 5 (by decide +kernel) rfl ?_
        refine r_iload (pc := 82) 0 (by decide +kernel) rfl ?_
        obtain ⟨t84, ht84, h⟩ := bnd h
        have E84_0 : Rn Y_M_bySets d mc ms 0 0 (some (0, r.1), r.2) 132 [(0, (2, v0)), (1, (0, v1)), (2, (0, v2)), (3, (0, v3)), (5, (0, v5)), (6, (0, v6))] [(0, t84.1), (0, v4)] t84.2 := by
          refine r_ior (pc := 132) (by decide +kernel) ?_
          obtain ⟨u4_133, q133, h⟩ := lt_o h
          refine r_eq q133 ?_
          refine r_istore (pc := 133) (lv' := [(4, (0, u4_133)), (0, (2, v0)), (1, (0, v1)), (2, (0, v2)), (3, (0, v3)), (5, (0, v5)), (6, (0, v6))]) (by decide +kernel) (Nat.le_of_ble_eq_true rfl) rfl ?_
          refine r_iinc (pc := 135) 6 (n := 1) (lv' := [(6, (0, wr (v6 + 1))), (4, (0, u4_133)), (0, (2, v0)), (1, (0, v1)), (2, (0, v2)), (3, (0, v3)), (5, (0, v5))]) (by decide +kernel) rfl (Nat.le_of_ble_eq_true rfl) rfl ?_
          refine r_goto (pc := 138) (off := (-117)) (tgt := 21) (by decide +kernel) (by decide) ?_
          refine r_lv [2, 3, 4, 5, 1, 6, 0] rfl ?_
          exact ih u4_133 (wr (v6 + 1)) t84.2 h
        refine r_if_eq (pc := 84) (off := 47) (tgt := 131) (by decide +kernel) (by decide) (fun c84 => ?_) (fun c84 => ?_)
        · have ht84 := ite_t c84 ht84
          refine r_iconst (pc := 131) (z := 0) (by decide +kernel) ⟨by decide, by decide⟩ ?_
          obtain rfl := Option.some.inj ht84
          refine r_lv [1, 2, 3, 4, 6, 7] rfl ?_
          exact E84_0
        · have ht84 := ite_f c84 ht84
          refine r_iconst (pc := 87) (z := 1) (by decide +kernel) ⟨by decide, by decide⟩ ?_
          refine r_aload_n (pc := 88) 1 (n := 0) (by decide +kernel) rfl rfl ?_
          refine r_bipush (pc := 89) (z := 16) (by decide +kernel) ⟨by decide, by decide⟩ ?_
          refine r_iload_n (pc := 91) 2 (n := 1) (by decide +kernel) rfl rfl ?_
          refine r_aload_n (pc := 92) 1 (n := 0) (by decide +kernel) rfl rfl ?_
          obtain ⟨g93, q93, ht84⟩ := bnd ht84
          refine r_get (pc := 93) (by decide +kernel) fl_M_7.r (by decide) rfl q93 ?_
          refine r_iload_n (pc := 96) 2 (n := 1) (by decide +kernel) rfl rfl ?_
          obtain ⟨e97, q97, ht84⟩ := bnd ht84
          refine r_iald (pc := 97) (by decide +kernel) q97 ?_
          refine r_iconst (pc := 98) (z := 1) (by decide +kernel) ⟨by decide, by decide⟩ ?_
          obtain ⟨t99, ht99, ht84⟩ := bnd ht84
          have E99_0 : Rn Y_M_bySets d mc ms 0 0 (some (0, r.1), r.2) 108 [(0, (2, v0)), (1, (0, v1)), (2, (0, v2)), (3, (0, v3)), (5, (0, v5)), (6, (0, v6))] [(0, t99), (0, v1), (0, 16), (2, v0), (0, 1), (0, v4)] M := by
            refine r_aload_n (pc := 108) 0 (n := 0) (by decide +kernel) rfl rfl ?_
            obtain ⟨g109, q109, ht84⟩ := bnd ht84
            refine r_get (pc := 109) (by decide +kernel) fl_M_7.r (by decide) rfl q109 ?_
            refine r_iload_n (pc := 112) 1 (n := 1) (by decide +kernel) rfl rfl ?_
            obtain ⟨e113, q113, ht84⟩ := bnd ht84
            refine r_iald (pc := 113) (by decide +kernel) q113 ?_
            refine r_iconst (pc := 114) (z := 2) (by decide +kernel) ⟨by decide, by decide⟩ ?_
            obtain ⟨t115, ht115, ht84⟩ := bnd ht84
            have E115_0 : Rn Y_M_bySets d mc ms 0 0 (some (0, r.1), r.2) 124 [(0, (2, v0)), (1, (0, v1)), (2, (0, v2)), (3, (0, v3)), (5, (0, v5)), (6, (0, v6))] [(0, t115), (0, t99), (0, v1), (0, 16), (2, v0), (0, 1), (0, v4)] M := by
              obtain ⟨_, q124c, ht84⟩ := bnd ht84
              obtain ⟨x124, q124, ht84⟩ := bnd ht84
              refine r_callV (pc := 124) (i := 155) (d2 := d - 1) (As := [(0, 16), (0, v1), (0, t99), (0, t115)]) (st := [(0, 1), (0, v4)]) (st1 := [(0, t115), (0, t99), (0, v1), (0, 16), (2, v0), (0, 1), (0, v4)]) (by decide +kernel) yk_M_step (by decide) rfl ⟨ml_M_155, vk_M_step⟩ np_M_step rfl (by omega) q124c (c_M_step (d := d - 1) (by omega) q124) (Nat.le_of_ble_eq_true rfl) (Nat.le_of_ble_eq_true rfl) (Nat.le_of_ble_eq_true rfl) rfl ?_
              show Rn _ d _ _ 0 0 _ 127 [(0, (2, v0)), (1, (0, v1)), (2, (0, v2)), (3, (0, v3)), (5, (0, v5)), (6, (0, v6))] [(0, x124.1), (0, 1), (0, v4)] x124.2
              refine r_ishl (pc := 127) (by decide +kernel) ?_
              refine r_goto (pc := 128) (off := 4) (tgt := 132) (by decide +kernel) (by decide) ?_
              obtain rfl := Option.some.inj ht84
              exact E84_0
            refine r_icmp_ge (pc := 115) (off := 7) (tgt := 122) (by decide +kernel) (by decide) (fun c115 => ?_) (fun c115 => ?_)
            · have ht115 := ite_t c115 ht115
              refine r_iload (pc := 122) 5 (by decide +kernel) rfl ?_
              obtain rfl := Option.some.inj ht115
              exact E115_0
            · have ht115 := ite_f c115 ht115
              refine r_iconst (pc := 118) (z := 0) (by decide +kernel) ⟨by decide, by decide⟩ ?_
              refine r_goto (pc := 119) (off := 5) (tgt := 124) (by decide +kernel) (by decide) ?_
              obtain rfl := Option.some.inj ht115
              exact E115_0
          refine r_icmp_ge (pc := 99) (off := 7) (tgt := 106) (by decide +kernel) (by decide) (fun c99 => ?_) (fun c99 => ?_)
          · have ht99 := ite_t c99 ht99
            refine r_iload (pc := 106) 6 (by decide +kernel) rfl ?_
            obtain rfl := Option.some.inj ht99
            refine r_lv [1, 2, 3, 4, 6, 7] rfl ?_
            exact E99_0
          · have ht99 := ite_f c99 ht99
            refine r_iconst (pc := 102) (z := 0) (by decide +kernel) ⟨by decide, by decide⟩ ?_
            refine r_goto (pc := 103) (off := 5) (tgt := 108) (by decide +kernel) (by decide) ?_
            obtain rfl := Option.some.inj ht99
            refine r_lv [1, 2, 3, 4, 6, 7] rfl ?_
            exact E99_0
      obtain ⟨t40i, ht40i, ht40⟩ := bnd ht40
      have E40i_0 : t40i = 0 → Rn Y_M_bySets d mc ms 0 0 (some (0, r.1), r.2) 77 [(0, (2, v0)), (1, (0, v1)), (2, (0, v2)), (3, (0, v3)), (4, (0, v4)), (5, (0, v5)), (6, (0, v6))] [] M := by
        intro y0
        have ht40 := ite_t y0 ht40
        refine r_iconst (pc := 77) (z := 0) (by decide +kernel) ⟨by decide, by decide⟩ ?_
        obtain rfl := Option.some.inj ht40
        exact E40_0
      have E40i_1 : ¬ t40i = 0 → Rn Y_M_bySets d mc ms 0 0 (some (0, r.1), r.2) 73 [(0, (2, v0)), (1, (0, v1)), (2, (0, v2)), (3, (0, v3)), (4, (0, v4)), (5, (0, v5)), (6, (0, v6))] [] M := by
        intro n0
        have ht40 := ite_f n0 ht40
        refine r_iconst (pc := 73) (z := 1) (by decide +kernel) ⟨by decide, by decide⟩ ?_
        refine r_goto (pc := 74) (off := 4) (tgt := 78) (by decide +kernel) (by decide) ?_
        obtain rfl := Option.some.inj ht40
        exact E40_0
      obtain ⟨t40ii, ht40ii, ht40i⟩ := bnd ht40i
      have E40ii_0 : t40ii = 0 → Rn Y_M_bySets d mc ms 0 0 (some (0, r.1), r.2) 53 [(0, (2, v0)), (1, (0, v1)), (2, (0, v2)), (3, (0, v3)), (4, (0, v4)), (5, (0, v5)), (6, (0, v6))] [] M := by
        intro y0
        have ht40i := ite_t y0 ht40i
        refine r_aload_n (pc := 53) 0 (n := 0) (by decide +kernel) rfl rfl ?_
        obtain ⟨g54, q54, ht40i⟩ := bnd ht40i
        refine r_get (pc := 54) (by decide +kernel) fl_M_7.r (by decide) rfl q54 ?_
        refine r_iload_n (pc := 57) 1 (n := 1) (by decide +kernel) rfl rfl ?_
        obtain ⟨e58, q58, ht40i⟩ := bnd ht40i
        refine r_iald (pc := 58) (by decide +kernel) q58 ?_
        refine r_iconst (pc := 59) (z := 2) (by decide +kernel) ⟨by decide, by decide⟩ ?_
        obtain ⟨t60, ht60, ht40i⟩ := bnd ht40i
        have E60_0 : t60 = 0 → Rn Y_M_bySets d mc ms 0 0 (some (0, r.1), r.2) 73 [(0, (2, v0)), (1, (0, v1)), (2, (0, v2)), (3, (0, v3)), (4, (0, v4)), (5, (0, v5)), (6, (0, v6))] [] M := by
          intro y0
          have ht40i := ite_t y0 ht40i
          obtain rfl := Option.some.inj ht40i
          exact E40i_1 (show ¬ (1 : Int) = 0 by decide)
        have E60_1 : ¬ t60 = 0 → Rn Y_M_bySets d mc ms 0 0 (some (0, r.1), r.2) 77 [(0, (2, v0)), (1, (0, v1)), (2, (0, v2)), (3, (0, v3)), (4, (0, v4)), (5, (0, v5)), (6, (0, v6))] [] M := by
          intro n0
          have ht40i := ite_f n0 ht40i
          obtain rfl := Option.some.inj ht40i
          exact E40i_0 rfl
        refine r_icmp_lt (pc := 60) (off := 13) (tgt := 73) (by decide +kernel) (by decide) (fun c60 => ?_) (fun c60 => ?_)
        · have ht60 := ite_t c60 ht60
          obtain rfl := Option.some.inj ht60
          exact E60_0 rfl
        · have ht60 := ite_f c60 ht60
          refine r_iload_n (pc := 63) 3 (n := 3) (by decide +kernel) rfl rfl ?_
          refine r_iload (pc := 64) 6 (by decide +kernel) rfl ?_
          refine r_ishr (pc := 66) (by decide +kernel) ?_
          refine r_iconst (pc := 67) (z := 1) (by decide +kernel) ⟨by decide, by decide⟩ ?_
          refine r_iand (pc := 68) (by decide +kernel) ?_
          refine r_iconst (pc := 69) (z := 1) (by decide +kernel) ⟨by decide, by decide⟩ ?_
          refine r_icmp_ne (pc := 70) (off := 7) (tgt := 77) (by decide +kernel) (by decide) (fun c70 => ?_) (fun c70 => ?_)
          · have ht60 := ite_f c70 ht60
            obtain rfl := Option.some.inj ht60
            exact E60_1 (show ¬ (1 : Int) = 0 by decide)
          · have ht60 := ite_t c70 ht60
            obtain rfl := Option.some.inj ht60
            exact E60_0 rfl
      have E40ii_1 : ¬ t40ii = 0 → Rn Y_M_bySets d mc ms 0 0 (some (0, r.1), r.2) 77 [(0, (2, v0)), (1, (0, v1)), (2, (0, v2)), (3, (0, v3)), (4, (0, v4)), (5, (0, v5)), (6, (0, v6))] [] M := by
        intro n0
        have ht40i := ite_f n0 ht40i
        obtain rfl := Option.some.inj ht40i
        exact E40i_0 rfl
      refine r_icmp_lt (pc := 40) (off := 13) (tgt := 53) (by decide +kernel) (by decide) (fun c40 => ?_) (fun c40 => ?_)
      · have ht40ii := ite_t c40 ht40ii
        obtain rfl := Option.some.inj ht40ii
        exact E40ii_0 rfl
      · have ht40ii := ite_f c40 ht40ii
        refine r_iload_n (pc := 43) 2 (n := 2) (by decide +kernel) rfl rfl ?_
        refine r_iload (pc := 44) 5 (by decide +kernel) rfl ?_
        refine r_ishr (pc := 46) (by decide +kernel) ?_
        refine r_iconst (pc := 47) (z := 1) (by decide +kernel) ⟨by decide, by decide⟩ ?_
        refine r_iand (pc := 48) (by decide +kernel) ?_
        refine r_iconst (pc := 49) (z := 1) (by decide +kernel) ⟨by decide, by decide⟩ ?_
        refine r_icmp_ne (pc := 50) (off := 27) (tgt := 77) (by decide +kernel) (by decide) (fun c50 => ?_) (fun c50 => ?_)
        · have ht40ii := ite_f c50 ht40ii
          obtain rfl := Option.some.inj ht40ii
          exact E40ii_1 (show ¬ (1 : Int) = 0 by decide)
        · have ht40ii := ite_t c50 ht40ii
          obtain rfl := Option.some.inj ht40ii
          exact E40ii_0 rfl
theorem sL_M_bySets_6 {d mc ms : Nat} (hd : 2 ≤ d) {r : Int × Mem} {k : Int → Mem → Option (Int × Mem)} {v0 : Int} {v1 : Int} {v2 : Int} {v3 : Int} (hk : ∀ (v4 : Int) (M : Mem), k v4 M = some r → Rn Y_M_bySets d mc ms 0 0 (some (0, r.1), r.2) 147 [(4, (0, v4))] [] M) : ∀ (n : Nat) (v4 : Int) (v5 : Int) (M : Mem), L_M_bySets_6 k v0 v1 v2 v3 n v4 v5 M = some r → Rn Y_M_bySets d mc ms 0 0 (some (0, r.1), r.2) 6 [(0, (2, v0)), (1, (0, v1)), (2, (0, v2)), (3, (0, v3)), (4, (0, v4)), (5, (0, v5))] [] M := by
  intro n
  induction n with
  | zero => intro _ _ _ h; cases h
  | succ n ih =>
    intro v4 v5 M h
    rw [L_M_bySets_6] at h
    refine r_iload (pc := 6) 5 (by decide +kernel) rfl ?_
    refine r_aload_n (pc := 8) 0 (n := 0) (by decide +kernel) rfl rfl ?_
    obtain ⟨g9, q9, h⟩ := bnd h
    refine r_get (pc := 9) (by decide +kernel) fl_M_41.r (by decide) rfl q9 ?_
    refine r_bipush (pc := 12) (z := 16) (by decide +kernel) ⟨by decide, by decide⟩ ?_
    obtain ⟨e14, q14, h⟩ := bnd h
    refine r_iald (pc := 14) (by decide +kernel) q14 ?_
    refine r_icmp_ge (pc := 15) (off := 132) (tgt := 147) (by decide +kernel) (by decide) (fun c15 => ?_) (fun c15 => ?_)
    · have h := ite_t c15 h
      refine r_lv [4] rfl ?_
      exact hk v4 M h
    · have h := ite_f c15 h
      refine r_iconst (pc := 18) (z := 0) (by decide +kernel) ⟨by decide, by decide⟩ ?_
      refine r_istore (pc := 19) (lv' := [(6, (0, 0)), (0, (2, v0)), (1, (0, v1)), (2, (0, v2)), (3, (0, v3)), (4, (0, v4)), (5, (0, v5))]) (by decide +kernel) (Nat.le_of_ble_eq_true rfl) rfl ?_
      refine r_lv [1, 2, 3, 4, 5, 6, 0] rfl ?_
      refine sL_M_bySets_21 (by omega) ?_ _ _ _  _ h
      intro w4_21 m21 h
      refine r_iinc (pc := 141) 5 (n := 1) (lv' := [(5, (0, wr (v5 + 1))), (0, (2, v0)), (1, (0, v1)), (2, (0, v2)), (3, (0, v3)), (4, (0, w4_21))]) (by decide +kernel) rfl (Nat.le_of_ble_eq_true rfl) rfl ?_
      refine r_goto (pc := 144) (off := (-138)) (tgt := 6) (by decide +kernel) (by decide) ?_
      refine r_lv [1, 2, 3, 4, 5, 0] rfl ?_
      exact ih w4_21 (wr (v5 + 1)) m21 h
theorem c_M_bySets {d : Nat} (hd : 2 ≤ d) {a0 a1 a2 a3 : Int} {M : Mem} {x : Int × Mem} (h : D_M_bySets a0 a1 a2 a3 M = some x) : Ct d Y_M_bySets [(2, a0), (0, a1), (0, a2), (0, a3)] M (some (0, x.1), x.2) 0 0 := by
  refine ct_of yk_M_bySets (Nat.le_of_ble_eq_true rfl) ?_
  rw [D_M_bySets] at h
  show Rn Y_M_bySets d 0 0 0 0 (some (0, x.1), x.2) 0 [(0, (2, a0)), (1, (0, a1)), (2, (0, a2)), (3, (0, a3))] [] M
  refine r_iconst (pc := 0) (z := 0) (by decide +kernel) ⟨by decide, by decide⟩ ?_
  refine r_istore (pc := 1) (lv' := [(4, (0, 0)), (0, (2, a0)), (1, (0, a1)), (2, (0, a2)), (3, (0, a3))]) (by decide +kernel) (Nat.le_of_ble_eq_true rfl) rfl ?_
  refine r_iconst (pc := 3) (z := 0) (by decide +kernel) ⟨by decide, by decide⟩ ?_
  refine r_istore (pc := 4) (lv' := [(5, (0, 0)), (4, (0, 0)), (0, (2, a0)), (1, (0, a1)), (2, (0, a2)), (3, (0, a3))]) (by decide +kernel) (Nat.le_of_ble_eq_true rfl) rfl ?_
  refine r_lv [2, 3, 4, 5, 1, 0] rfl ?_
  refine sL_M_bySets_6 (by omega) ?_ _ _ _  _ h
  intro w4_6 m6 h
  refine r_iload (pc := 147) 0 (by decide +kernel) rfl ?_
  obtain rfl := Option.some.inj h
  exact r_ret (pc := 149) (r := some (0, w4_6)) (by decide +kernel) rfl trivial (Nat.le_of_ble_eq_true rfl) (Nat.le_of_ble_eq_true rfl)

/-! TreeTonguesModel.renamedStep(III)I -/
noncomputable def L_M_renamedStep_6 (k : Int → Mem → Option (Int × Mem)) (v0 : Int) (v1 : Int) (v2 : Int) (v3 : Int) : Nat → Int → Int → Mem → Option (Int × Mem)
  | 0 => fun _ _ _ => none
  | n + 1 => fun v4 v5 M => (gf M v0 9 54 0).bind fun g9 => if g9 ≤ v5 then (k v4 M) else ((ck M v0 9 54).bind fun _ => (D_M_mapped v0 v5 M).bind fun x20 => (if x20.1 = v1 then ((ck x20.2 v0 9 54).bind fun _ => (D_M_bySets v0 v5 v2 v3 x20.2).bind fun x32 => some (x32.1, x32.2)) else (some (0, x20.2))).bind fun (t24 : Int × Mem) => lt (ior v4 t24.1) fun u4_40 => L_M_renamedStep_6 k v0 v1 v2 v3 n u4_40 (wr (v5 + 1)) t24.2)
noncomputable def D_M_renamedStep (a0 a1 a2 a3 : Int) (M : Mem) : Option (Int × Mem) := L_M_renamedStep_6 (fun w4_6 m6 => some (w4_6, m6)) a0 a1 a2 a3 FU 0 0 M
theorem sL_M_renamedStep_6 {d mc ms : Nat} (hd : 3 ≤ d) {r : Int × Mem} {k : Int → Mem → Option (Int × Mem)} {v0 : Int} {v1 : Int} {v2 : Int} {v3 : Int} (hk : ∀ (v4 : Int) (M : Mem), k v4 M = some r → Rn Y_M_renamedStep d mc ms 0 0 (some (0, r.1), r.2) 48 [(4, (0, v4))] [] M) : ∀ (n : Nat) (v4 : Int) (v5 : Int) (M : Mem), L_M_renamedStep_6 k v0 v1 v2 v3 n v4 v5 M = some r → Rn Y_M_renamedStep d mc ms 0 0 (some (0, r.1), r.2) 6 [(0, (2, v0)), (1, (0, v1)), (2, (0, v2)), (3, (0, v3)), (4, (0, v4)), (5, (0, v5))] [] M := by
  intro n
  induction n with
  | zero => intro _ _ _ h; cases h
  | succ n ih =>
    intro v4 v5 M h
    rw [L_M_renamedStep_6] at h
    refine r_iload (pc := 6) 5 (by decide +kernel) rfl ?_
    refine r_aload_n (pc := 8) 0 (n := 0) (by decide +kernel) rfl rfl ?_
    obtain ⟨g9, q9, h⟩ := bnd h
    refine r_get (pc := 9) (by decide +kernel) fl_M_124.r (by decide) rfl q9 ?_
    refine r_icmp_ge (pc := 12) (off := 36) (tgt := 48) (by decide +kernel) (by decide) (fun c12 => ?_) (fun c12 => ?_)
    · have h := ite_t c12 h
      refine r_lv [4] rfl ?_
      exact hk v4 M h
    · have h := ite_f c12 h
      refine r_iload (pc := 15) 4 (by decide +kernel) rfl ?_
      refine r_aload_n (pc := 17) 0 (n := 0) (by decide +kernel) rfl rfl ?_
      refine r_iload (pc := 18) 5 (by decide +kernel) rfl ?_
      obtain ⟨_, q20c, h⟩ := bnd h
      obtain ⟨x20, q20, h⟩ := bnd h
      refine r_callV (pc := 20) (i := 159) (d2 := d - 1) (As := [(0, v5)]) (st := [(0, v4)]) (st1 := [(0, v5), (2, v0), (0, v4)]) (by decide +kernel) yk_M_mapped (by decide) rfl ⟨ml_M_159, vk_M_mapped⟩ np_M_mapped rfl (by omega) q20c (c_M_mapped (d := d - 1) (by omega) q20) (Nat.le_of_ble_eq_true rfl) (Nat.le_of_ble_eq_true rfl) (Nat.le_of_ble_eq_true rfl) rfl ?_
      show Rn _ d _ _ 0 0 _ 23 [(0, (2, v0)), (1, (0, v1)), (2, (0, v2)), (3, (0, v3)), (4, (0, v4)), (5, (0, v5))] [(0, x20.1), (0, v4)] x20.2
      refine r_iload_n (pc := 23) 1 (n := 1) (by decide +kernel) rfl rfl ?_
      obtain ⟨t24, ht24, h⟩ := bnd h
      have E24_0 : Rn Y_M_renamedStep d mc ms 0 0 (some (0, r.1), r.2) 39 [(0, (2, v0)), (1, (0, v1)), (2, (0, v2)), (3, (0, v3)), (5, (0, v5))] [(0, t24.1), (0, v4)] t24.2 := by
        refine r_ior (pc := 39) (by decide +kernel) ?_
        obtain ⟨u4_40, q40, h⟩ := lt_o h
        refine r_eq q40 ?_
        refine r_istore (pc := 40) (lv' := [(4, (0, u4_40)), (0, (2, v0)), (1, (0, v1)), (2, (0, v2)), (3, (0, v3)), (5, (0, v5))]) (by decide +kernel) (Nat.le_of_ble_eq_true rfl) rfl ?_
        refine r_iinc (pc := 42) 5 (n := 1) (lv' := [(5, (0, wr (v5 + 1))), (4, (0, u4_40)), (0, (2, v0)), (1, (0, v1)), (2, (0, v2)), (3, (0, v3))]) (by decide +kernel) rfl (Nat.le_of_ble_eq_true rfl) rfl ?_
        refine r_goto (pc := 45) (off := (-39)) (tgt := 6) (by decide +kernel) (by decide) ?_
        refine r_lv [2, 3, 4, 5, 1, 0] rfl ?_
        exact ih u4_40 (wr (v5 + 1)) t24.2 h
      refine r_icmp_ne (pc := 24) (off := 14) (tgt := 38) (by decide +kernel) (by decide) (fun c24 => ?_) (fun c24 => ?_)
      · have ht24 := ite_f c24 ht24
        refine r_iconst (pc := 38) (z := 0) (by decide +kernel) ⟨by decide, by decide⟩ ?_
        obtain rfl := Option.some.inj ht24
        refine r_lv [0, 1, 2, 3, 5] rfl ?_
        exact E24_0
      · have ht24 := ite_t c24 ht24
        refine r_aload_n (pc := 27) 0 (n := 0) (by decide +kernel) rfl rfl ?_
        refine r_iload (pc := 28) 5 (by decide +kernel) rfl ?_
        refine r_iload_n (pc := 30) 2 (n := 2) (by decide +kernel) rfl rfl ?_
        refine r_iload_n (pc := 31) 3 (n := 3) (by decide +kernel) rfl rfl ?_
        obtain ⟨_, q32c, ht24⟩ := bnd ht24
        obtain ⟨x32, q32, ht24⟩ := bnd ht24
        refine r_callV (pc := 32) (i := 163) (d2 := d - 1) (As := [(0, v5), (0, v2), (0, v3)]) (st := [(0, v4)]) (st1 := [(0, v3), (0, v2), (0, v5), (2, v0), (0, v4)]) (by decide +kernel) yk_M_bySets (by decide) rfl ⟨ml_M_163, vk_M_bySets⟩ np_M_bySets rfl (by omega) q32c (c_M_bySets (d := d - 1) (by omega) q32) (Nat.le_of_ble_eq_true rfl) (Nat.le_of_ble_eq_true rfl) (Nat.le_of_ble_eq_true rfl) rfl ?_
        show Rn _ d _ _ 0 0 _ 35 [(0, (2, v0)), (1, (0, v1)), (2, (0, v2)), (3, (0, v3)), (4, (0, v4)), (5, (0, v5))] [(0, x32.1), (0, v4)] x32.2
        refine r_goto (pc := 35) (off := 4) (tgt := 39) (by decide +kernel) (by decide) ?_
        obtain rfl := Option.some.inj ht24
        refine r_lv [0, 1, 2, 3, 5] rfl ?_
        exact E24_0
theorem c_M_renamedStep {d : Nat} (hd : 3 ≤ d) {a0 a1 a2 a3 : Int} {M : Mem} {x : Int × Mem} (h : D_M_renamedStep a0 a1 a2 a3 M = some x) : Ct d Y_M_renamedStep [(2, a0), (0, a1), (0, a2), (0, a3)] M (some (0, x.1), x.2) 0 0 := by
  refine ct_of yk_M_renamedStep (Nat.le_of_ble_eq_true rfl) ?_
  rw [D_M_renamedStep] at h
  show Rn Y_M_renamedStep d 0 0 0 0 (some (0, x.1), x.2) 0 [(0, (2, a0)), (1, (0, a1)), (2, (0, a2)), (3, (0, a3))] [] M
  refine r_iconst (pc := 0) (z := 0) (by decide +kernel) ⟨by decide, by decide⟩ ?_
  refine r_istore (pc := 1) (lv' := [(4, (0, 0)), (0, (2, a0)), (1, (0, a1)), (2, (0, a2)), (3, (0, a3))]) (by decide +kernel) (Nat.le_of_ble_eq_true rfl) rfl ?_
  refine r_iconst (pc := 3) (z := 0) (by decide +kernel) ⟨by decide, by decide⟩ ?_
  refine r_istore (pc := 4) (lv' := [(5, (0, 0)), (4, (0, 0)), (0, (2, a0)), (1, (0, a1)), (2, (0, a2)), (3, (0, a3))]) (by decide +kernel) (Nat.le_of_ble_eq_true rfl) rfl ?_
  refine r_lv [2, 3, 4, 5, 1, 0] rfl ?_
  refine sL_M_renamedStep_6 (by omega) ?_ _ _ _  _ h
  intro w4_6 m6 h
  refine r_iload (pc := 48) 0 (by decide +kernel) rfl ?_
  obtain rfl := Option.some.inj h
  exact r_ret (pc := 50) (r := some (0, w4_6)) (by decide +kernel) rfl trivial (Nat.le_of_ble_eq_true rfl) (Nat.le_of_ble_eq_true rfl)

/-! TreeTonguesModel.withinStep(III)I -/
noncomputable def D_M_withinStep (a0 a1 a2 a3 : Int) (M : Mem) : Option (Int × Mem) := (ck M a0 9 54).bind fun _ => (D_M_step a0 16 a1 (idv a2 2) (idv a3 2) M).bind fun x10 => (gf x10.2 a0 9 54 1).bind fun g16 => (rd x10.2 10 g16 a1).bind fun e20 => (((if e20 ≤ 0 then (some 0) else (if (irm a2 2) = 1 then (some 1) else (some 0))).bind fun (t21ii : Int) => if t21ii = 0 then ((gf x10.2 a0 9 54 1).bind fun g32 => (rd x10.2 10 g32 a1).bind fun e36 => (if e36 ≤ 1 then (some 0) else (if (irm a3 2) = 1 then (some 1) else (some 0))).bind fun (t38 : Int) => if t38 = 0 then (some 1) else (some 0)) else (some 0)).bind fun (t21i : Int) => if t21i = 0 then (some 1) else (some 0)).bind fun (t21 : Int) => ((if t21 = 0 then ((gf x10.2 a0 9 54 15).bind fun g65 => (rd x10.2 12 g65 (wr (96 + x10.1))).bind fun e73 => if e73 = 0 then (some 1) else (some 0)) else (some 0)).bind fun (t61i : Int) => if t61i = 0 then (some 1) else (some 0)).bind fun (t61 : Int) => some (wr ((wr (2 * x10.1)) + t61), x10.2)
theorem c_M_withinStep {d : Nat} (hd : 2 ≤ d) {a0 a1 a2 a3 : Int} {M : Mem} {x : Int × Mem} (h : D_M_withinStep a0 a1 a2 a3 M = some x) : Ct d Y_M_withinStep [(2, a0), (0, a1), (0, a2), (0, a3)] M (some (0, x.1), x.2) 0 0 := by
  refine ct_of yk_M_withinStep (Nat.le_of_ble_eq_true rfl) ?_
  rw [D_M_withinStep] at h
  show Rn Y_M_withinStep d 0 0 0 0 (some (0, x.1), x.2) 0 [(0, (2, a0)), (1, (0, a1)), (2, (0, a2)), (3, (0, a3))] [] M
  refine r_aload_n (pc := 0) 0 (n := 0) (by decide +kernel) rfl rfl ?_
  refine r_bipush (pc := 1) (z := 16) (by decide +kernel) ⟨by decide, by decide⟩ ?_
  refine r_iload_n (pc := 3) 1 (n := 1) (by decide +kernel) rfl rfl ?_
  refine r_iload_n (pc := 4) 2 (n := 2) (by decide +kernel) rfl rfl ?_
  refine r_iconst (pc := 5) (z := 2) (by decide +kernel) ⟨by decide, by decide⟩ ?_
  refine r_idiv (pc := 6) (by decide +kernel) (by decide) ?_
  refine r_iload_n (pc := 7) 3 (n := 3) (by decide +kernel) rfl rfl ?_
  refine r_iconst (pc := 8) (z := 2) (by decide +kernel) ⟨by decide, by decide⟩ ?_
  refine r_idiv (pc := 9) (by decide +kernel) (by decide) ?_
  obtain ⟨_, q10c, h⟩ := bnd h
  obtain ⟨x10, q10, h⟩ := bnd h
  refine r_callV (pc := 10) (i := 155) (d2 := d - 1) (As := [(0, 16), (0, a1), (0, idv a2 2), (0, idv a3 2)]) (st := []) (st1 := [(0, idv a3 2), (0, idv a2 2), (0, a1), (0, 16), (2, a0)]) (by decide +kernel) yk_M_step (by decide) rfl ⟨ml_M_155, vk_M_step⟩ np_M_step rfl (by omega) q10c (c_M_step (d := d - 1) (by omega) q10) (Nat.le_of_ble_eq_true rfl) (Nat.le_of_ble_eq_true rfl) (Nat.le_of_ble_eq_true rfl) rfl ?_
  show Rn _ d _ _ 0 0 _ 13 [(0, (2, a0)), (1, (0, a1)), (2, (0, a2)), (3, (0, a3))] [(0, x10.1)] x10.2
  refine r_istore (pc := 13) (lv' := [(4, (0, x10.1)), (0, (2, a0)), (1, (0, a1)), (2, (0, a2)), (3, (0, a3))]) (by decide +kernel) (Nat.le_of_ble_eq_true rfl) rfl ?_
  refine r_aload_n (pc := 15) 1 (n := 0) (by decide +kernel) rfl rfl ?_
  obtain ⟨g16, q16, h⟩ := bnd h
  refine r_get (pc := 16) (by decide +kernel) fl_M_7.r (by decide) rfl q16 ?_
  refine r_iload_n (pc := 19) 2 (n := 1) (by decide +kernel) rfl rfl ?_
  obtain ⟨e20, q20, h⟩ := bnd h
  refine r_iald (pc := 20) (by decide +kernel) q20 ?_
  obtain ⟨t21, ht21, h⟩ := bnd h
  have E21_0 : Rn Y_M_withinStep d 0 0 0 0 (some (0, x.1), x.2) 53 [(0, (2, a0)), (4, (0, x10.1))] [(0, t21)] x10.2 := by
    refine r_istore (pc := 53) (lv' := [(5, (0, t21)), (0, (2, a0)), (4, (0, x10.1))]) (by decide +kernel) (Nat.le_of_ble_eq_true rfl) rfl ?_
    refine r_iconst (pc := 55) (z := 2) (by decide +kernel) ⟨by decide, by decide⟩ ?_
    refine r_iload (pc := 56) 2 (by decide +kernel) rfl ?_
    refine r_imul (pc := 58) (by decide +kernel) ?_
    refine r_iload (pc := 59) 0 (by decide +kernel) rfl ?_
    obtain ⟨t61, ht61, h⟩ := bnd h
    have E61_0 : Rn Y_M_withinStep d 0 0 0 0 (some (0, x.1), x.2) 82 [] [(0, t61), (0, wr (2 * x10.1))] x10.2 := by
      refine r_iadd (pc := 82) (by decide +kernel) ?_
      obtain rfl := Option.some.inj h
      exact r_ret (pc := 83) (r := some (0, wr ((wr (2 * x10.1)) + t61))) (by decide +kernel) rfl trivial (Nat.le_of_ble_eq_true rfl) (Nat.le_of_ble_eq_true rfl)
    obtain ⟨t61i, ht61i, ht61⟩ := bnd ht61
    have E61i_0 : t61i = 0 → Rn Y_M_withinStep d 0 0 0 0 (some (0, x.1), x.2) 77 [] [(0, wr (2 * x10.1))] x10.2 := by
      intro y0
      have ht61 := ite_t y0 ht61
      refine r_iconst (pc := 77) (z := 1) (by decide +kernel) ⟨by decide, by decide⟩ ?_
      refine r_goto (pc := 78) (off := 4) (tgt := 82) (by decide +kernel) (by decide) ?_
      obtain rfl := Option.some.inj ht61
      exact E61_0
    have E61i_1 : ¬ t61i = 0 → Rn Y_M_withinStep d 0 0 0 0 (some (0, x.1), x.2) 81 [] [(0, wr (2 * x10.1))] x10.2 := by
      intro n0
      have ht61 := ite_f n0 ht61
      refine r_iconst (pc := 81) (z := 0) (by decide +kernel) ⟨by decide, by decide⟩ ?_
      obtain rfl := Option.some.inj ht61
      exact E61_0
    refine r_if_ne (pc := 61) (off := 16) (tgt := 77) (by decide +kernel) (by decide) (fun c61 => ?_) (fun c61 => ?_)
    · have ht61i := ite_f c61 ht61i
      obtain rfl := Option.some.inj ht61i
      refine r_lv [] rfl ?_
      exact E61i_0 rfl
    · have ht61i := ite_t c61 ht61i
      refine r_aload_n (pc := 64) 1 (n := 0) (by decide +kernel) rfl rfl ?_
      obtain ⟨g65, q65, ht61i⟩ := bnd ht61i
      refine r_get (pc := 65) (by decide +kernel) fl_M_47.r (by decide) rfl q65 ?_
      refine r_bipush (pc := 68) (z := 96) (by decide +kernel) ⟨by decide, by decide⟩ ?_
      refine r_iload (pc := 70) 2 (by decide +kernel) rfl ?_
      refine r_iadd (pc := 72) (by decide +kernel) ?_
      obtain ⟨e73, q73, ht61i⟩ := bnd ht61i
      refine r_zald (pc := 73) (by decide +kernel) q73 ?_
      refine r_if_eq (pc := 74) (off := 7) (tgt := 81) (by decide +kernel) (by decide) (fun c74 => ?_) (fun c74 => ?_)
      · have ht61i := ite_t c74 ht61i
        obtain rfl := Option.some.inj ht61i
        refine r_lv [] rfl ?_
        exact E61i_1 (show ¬ (1 : Int) = 0 by decide)
      · have ht61i := ite_f c74 ht61i
        obtain rfl := Option.some.inj ht61i
        refine r_lv [] rfl ?_
        exact E61i_0 rfl
  obtain ⟨t21i, ht21i, ht21⟩ := bnd ht21
  have E21i_0 : t21i = 0 → Rn Y_M_withinStep d 0 0 0 0 (some (0, x.1), x.2) 48 [(0, (2, a0)), (4, (0, x10.1))] [] x10.2 := by
    intro y0
    have ht21 := ite_t y0 ht21
    refine r_iconst (pc := 48) (z := 1) (by decide +kernel) ⟨by decide, by decide⟩ ?_
    refine r_goto (pc := 49) (off := 4) (tgt := 53) (by decide +kernel) (by decide) ?_
    obtain rfl := Option.some.inj ht21
    exact E21_0
  have E21i_1 : ¬ t21i = 0 → Rn Y_M_withinStep d 0 0 0 0 (some (0, x.1), x.2) 52 [(0, (2, a0)), (4, (0, x10.1))] [] x10.2 := by
    intro n0
    have ht21 := ite_f n0 ht21
    refine r_iconst (pc := 52) (z := 0) (by decide +kernel) ⟨by decide, by decide⟩ ?_
    obtain rfl := Option.some.inj ht21
    exact E21_0
  obtain ⟨t21ii, ht21ii, ht21i⟩ := bnd ht21i
  have E21ii_0 : t21ii = 0 → Rn Y_M_withinStep d 0 0 0 0 (some (0, x.1), x.2) 31 [(0, (2, a0)), (1, (0, a1)), (3, (0, a3)), (4, (0, x10.1))] [] x10.2 := by
    intro y0
    have ht21i := ite_t y0 ht21i
    refine r_aload_n (pc := 31) 0 (n := 0) (by decide +kernel) rfl rfl ?_
    obtain ⟨g32, q32, ht21i⟩ := bnd ht21i
    refine r_get (pc := 32) (by decide +kernel) fl_M_7.r (by decide) rfl q32 ?_
    refine r_iload_n (pc := 35) 1 (n := 1) (by decide +kernel) rfl rfl ?_
    obtain ⟨e36, q36, ht21i⟩ := bnd ht21i
    refine r_iald (pc := 36) (by decide +kernel) q36 ?_
    refine r_iconst (pc := 37) (z := 1) (by decide +kernel) ⟨by decide, by decide⟩ ?_
    obtain ⟨t38, ht38, ht21i⟩ := bnd ht21i
    have E38_0 : t38 = 0 → Rn Y_M_withinStep d 0 0 0 0 (some (0, x.1), x.2) 52 [(0, (2, a0)), (4, (0, x10.1))] [] x10.2 := by
      intro y0
      have ht21i := ite_t y0 ht21i
      obtain rfl := Option.some.inj ht21i
      exact E21i_1 (show ¬ (1 : Int) = 0 by decide)
    have E38_1 : ¬ t38 = 0 → Rn Y_M_withinStep d 0 0 0 0 (some (0, x.1), x.2) 48 [(0, (2, a0)), (4, (0, x10.1))] [] x10.2 := by
      intro n0
      have ht21i := ite_f n0 ht21i
      obtain rfl := Option.some.inj ht21i
      exact E21i_0 rfl
    refine r_icmp_le (pc := 38) (off := 14) (tgt := 52) (by decide +kernel) (by decide) (fun c38 => ?_) (fun c38 => ?_)
    · have ht38 := ite_t c38 ht38
      obtain rfl := Option.some.inj ht38
      refine r_lv [0, 3] rfl ?_
      exact E38_0 rfl
    · have ht38 := ite_f c38 ht38
      refine r_iload_n (pc := 41) 2 (n := 3) (by decide +kernel) rfl rfl ?_
      refine r_iconst (pc := 42) (z := 2) (by decide +kernel) ⟨by decide, by decide⟩ ?_
      refine r_irem (pc := 43) (by decide +kernel) (by decide) ?_
      refine r_iconst (pc := 44) (z := 1) (by decide +kernel) ⟨by decide, by decide⟩ ?_
      refine r_icmp_ne (pc := 45) (off := 7) (tgt := 52) (by decide +kernel) (by decide) (fun c45 => ?_) (fun c45 => ?_)
      · have ht38 := ite_f c45 ht38
        obtain rfl := Option.some.inj ht38
        refine r_lv [0, 3] rfl ?_
        exact E38_0 rfl
      · have ht38 := ite_t c45 ht38
        obtain rfl := Option.some.inj ht38
        refine r_lv [0, 3] rfl ?_
        exact E38_1 (show ¬ (1 : Int) = 0 by decide)
  have E21ii_1 : ¬ t21ii = 0 → Rn Y_M_withinStep d 0 0 0 0 (some (0, x.1), x.2) 48 [(0, (2, a0)), (4, (0, x10.1))] [] x10.2 := by
    intro n0
    have ht21i := ite_f n0 ht21i
    obtain rfl := Option.some.inj ht21i
    exact E21i_0 rfl
  refine r_if_le (pc := 21) (off := 10) (tgt := 31) (by decide +kernel) (by decide) (fun c21 => ?_) (fun c21 => ?_)
  · have ht21ii := ite_t c21 ht21ii
    obtain rfl := Option.some.inj ht21ii
    refine r_lv [1, 2, 4, 0] rfl ?_
    exact E21ii_0 rfl
  · have ht21ii := ite_f c21 ht21ii
    refine r_iload_n (pc := 24) 3 (n := 2) (by decide +kernel) rfl rfl ?_
    refine r_iconst (pc := 25) (z := 2) (by decide +kernel) ⟨by decide, by decide⟩ ?_
    refine r_irem (pc := 26) (by decide +kernel) (by decide) ?_
    refine r_iconst (pc := 27) (z := 1) (by decide +kernel) ⟨by decide, by decide⟩ ?_
    refine r_icmp_eq (pc := 28) (off := 20) (tgt := 48) (by decide +kernel) (by decide) (fun c28 => ?_) (fun c28 => ?_)
    · have ht21ii := ite_t c28 ht21ii
      obtain rfl := Option.some.inj ht21ii
      refine r_lv [1, 0] rfl ?_
      exact E21ii_1 (show ¬ (1 : Int) = 0 by decide)
    · have ht21ii := ite_f c28 ht21ii
      obtain rfl := Option.some.inj ht21ii
      refine r_lv [1, 2, 4, 0] rfl ?_
      exact E21ii_0 rfl

/-! TreeTonguesModel.graftedStep(III)I -/
noncomputable def D_M_graftedStep (a0 a1 a2 a3 : Int) (M : Mem) : Option (Int × Mem) := (gf M a0 9 54 24).bind fun g2 => (if a1 = g2 then (some (0, M)) else ((ck M a0 9 54).bind fun _ => (D_M_bySets a0 a1 (idv a2 8) (idv a3 8) M).bind fun x22 => some (x22.1, x22.2))).bind fun (t5 : Int × Mem) => (ck t5.2 a0 9 54).bind fun _ => (D_M_step a0 17 a1 (irm a2 8) (irm a3 8) t5.2).bind fun x39 => (gf x39.2 a0 9 54 15).bind fun g47 => (rd x39.2 12 g47 (wr (102 + x39.1))).bind fun e55 => (if e55 = 0 then (some (0, x39.2)) else ((gf x39.2 a0 9 54 24).bind fun g64 => (ck x39.2 a0 9 54).bind fun _ => (D_M_step a0 16 g64 0 0 x39.2).bind fun x69 => some (ishl 1 x69.1, x69.2))).bind fun (t56 : Int × Mem) => lt (ior t5.1 t56.1) fun u4_78 => some (wr ((wr (8 * u4_78)) + x39.1), t56.2)
theorem c_M_graftedStep {d : Nat} (hd : 3 ≤ d) {a0 a1 a2 a3 : Int} {M : Mem} {x : Int × Mem} (h : D_M_graftedStep a0 a1 a2 a3 M = some x) : Ct d Y_M_graftedStep [(2, a0), (0, a1), (0, a2), (0, a3)] M (some (0, x.1), x.2) 0 0 := by
  refine ct_of yk_M_graftedStep (Nat.le_of_ble_eq_true rfl) ?_
  rw [D_M_graftedStep] at h
  show Rn Y_M_graftedStep d 0 0 0 0 (some (0, x.1), x.2) 0 [(0, (2, a0)), (1, (0, a1)), (2, (0, a2)), (3, (0, a3))] [] M
  refine r_iload_n (pc := 0) 1 (n := 1) (by decide +kernel) rfl rfl ?_
  refine r_aload_n (pc := 1) 0 (n := 0) (by decide +kernel) rfl rfl ?_
  obtain ⟨g2, q2, h⟩ := bnd h
  refine r_get (pc := 2) (by decide +kernel) fl_M_167.r (by decide) rfl q2 ?_
  obtain ⟨t5, ht5, h⟩ := bnd h
  have E5_0 : Rn Y_M_graftedStep d 0 0 0 0 (some (0, x.1), x.2) 25 [(0, (2, a0)), (1, (0, a1)), (2, (0, a2)), (3, (0, a3))] [(0, t5.1)] t5.2 := by
    refine r_istore (pc := 25) (lv' := [(4, (0, t5.1)), (0, (2, a0)), (1, (0, a1)), (2, (0, a2)), (3, (0, a3))]) (by decide +kernel) (Nat.le_of_ble_eq_true rfl) rfl ?_
    refine r_aload_n (pc := 27) 1 (n := 0) (by decide +kernel) rfl rfl ?_
    refine r_bipush (pc := 28) (z := 17) (by decide +kernel) ⟨by decide, by decide⟩ ?_
    refine r_iload_n (pc := 30) 2 (n := 1) (by decide +kernel) rfl rfl ?_
    refine r_iload_n (pc := 31) 3 (n := 2) (by decide +kernel) rfl rfl ?_
    refine r_bipush (pc := 32) (z := 8) (by decide +kernel) ⟨by decide, by decide⟩ ?_
    refine r_irem (pc := 34) (by decide +kernel) (by decide) ?_
    refine r_iload_n (pc := 35) 4 (n := 3) (by decide +kernel) rfl rfl ?_
    refine r_bipush (pc := 36) (z := 8) (by decide +kernel) ⟨by decide, by decide⟩ ?_
    refine r_irem (pc := 38) (by decide +kernel) (by decide) ?_
    obtain ⟨_, q39c, h⟩ := bnd h
    obtain ⟨x39, q39, h⟩ := bnd h
    refine r_callV (pc := 39) (i := 155) (d2 := d - 1) (As := [(0, 17), (0, a1), (0, irm a2 8), (0, irm a3 8)]) (st := []) (st1 := [(0, irm a3 8), (0, irm a2 8), (0, a1), (0, 17), (2, a0)]) (by decide +kernel) yk_M_step (by decide) rfl ⟨ml_M_155, vk_M_step⟩ np_M_step rfl (by omega) q39c (c_M_step (d := d - 1) (by omega) q39) (Nat.le_of_ble_eq_true rfl) (Nat.le_of_ble_eq_true rfl) (Nat.le_of_ble_eq_true rfl) rfl ?_
    show Rn _ d _ _ 0 0 _ 42 [(4, (0, t5.1)), (0, (2, a0)), (1, (0, a1)), (2, (0, a2)), (3, (0, a3))] [(0, x39.1)] x39.2
    refine r_istore (pc := 42) (lv' := [(5, (0, x39.1)), (4, (0, t5.1)), (0, (2, a0)), (1, (0, a1)), (2, (0, a2)), (3, (0, a3))]) (by decide +kernel) (Nat.le_of_ble_eq_true rfl) rfl ?_
    refine r_iload (pc := 44) 1 (by decide +kernel) rfl ?_
    refine r_aload_n (pc := 46) 2 (n := 0) (by decide +kernel) rfl rfl ?_
    obtain ⟨g47, q47, h⟩ := bnd h
    refine r_get (pc := 47) (by decide +kernel) fl_M_47.r (by decide) rfl q47 ?_
    refine r_bipush (pc := 50) (z := 102) (by decide +kernel) ⟨by decide, by decide⟩ ?_
    refine r_iload (pc := 52) 0 (by decide +kernel) rfl ?_
    refine r_iadd (pc := 54) (by decide +kernel) ?_
    obtain ⟨e55, q55, h⟩ := bnd h
    refine r_zald (pc := 55) (by decide +kernel) q55 ?_
    obtain ⟨t56, ht56, h⟩ := bnd h
    have E56_0 : Rn Y_M_graftedStep d 0 0 0 0 (some (0, x.1), x.2) 77 [(5, (0, x39.1))] [(0, t56.1), (0, t5.1)] t56.2 := by
      refine r_ior (pc := 77) (by decide +kernel) ?_
      obtain ⟨u4_78, q78, h⟩ := lt_o h
      refine r_eq q78 ?_
      refine r_istore (pc := 78) (lv' := [(4, (0, u4_78)), (5, (0, x39.1))]) (by decide +kernel) (Nat.le_of_ble_eq_true rfl) rfl ?_
      refine r_bipush (pc := 80) (z := 8) (by decide +kernel) ⟨by decide, by decide⟩ ?_
      refine r_iload (pc := 82) 0 (by decide +kernel) rfl ?_
      refine r_imul (pc := 84) (by decide +kernel) ?_
      refine r_iload (pc := 85) 1 (by decide +kernel) rfl ?_
      refine r_iadd (pc := 87) (by decide +kernel) ?_
      obtain rfl := Option.some.inj h
      exact r_ret (pc := 88) (r := some (0, wr ((wr (8 * u4_78)) + x39.1))) (by decide +kernel) rfl trivial (Nat.le_of_ble_eq_true rfl) (Nat.le_of_ble_eq_true rfl)
    refine r_if_eq (pc := 56) (off := 20) (tgt := 76) (by decide +kernel) (by decide) (fun c56 => ?_) (fun c56 => ?_)
    · have ht56 := ite_t c56 ht56
      refine r_iconst (pc := 76) (z := 0) (by decide +kernel) ⟨by decide, by decide⟩ ?_
      obtain rfl := Option.some.inj ht56
      refine r_lv [0] rfl ?_
      exact E56_0
    · have ht56 := ite_f c56 ht56
      refine r_iconst (pc := 59) (z := 1) (by decide +kernel) ⟨by decide, by decide⟩ ?_
      refine r_aload_n (pc := 60) 2 (n := 0) (by decide +kernel) rfl rfl ?_
      refine r_bipush (pc := 61) (z := 16) (by decide +kernel) ⟨by decide, by decide⟩ ?_
      refine r_aload_n (pc := 63) 2 (n := 0) (by decide +kernel) rfl rfl ?_
      obtain ⟨g64, q64, ht56⟩ := bnd ht56
      refine r_get (pc := 64) (by decide +kernel) fl_M_167.r (by decide) rfl q64 ?_
      refine r_iconst (pc := 67) (z := 0) (by decide +kernel) ⟨by decide, by decide⟩ ?_
      refine r_iconst (pc := 68) (z := 0) (by decide +kernel) ⟨by decide, by decide⟩ ?_
      obtain ⟨_, q69c, ht56⟩ := bnd ht56
      obtain ⟨x69, q69, ht56⟩ := bnd ht56
      refine r_callV (pc := 69) (i := 155) (d2 := d - 1) (As := [(0, 16), (0, g64), (0, 0), (0, 0)]) (st := [(0, 1), (0, t5.1)]) (st1 := [(0, 0), (0, 0), (0, g64), (0, 16), (2, a0), (0, 1), (0, t5.1)]) (by decide +kernel) yk_M_step (by decide) rfl ⟨ml_M_155, vk_M_step⟩ np_M_step rfl (by omega) q69c (c_M_step (d := d - 1) (by omega) q69) (Nat.le_of_ble_eq_true rfl) (Nat.le_of_ble_eq_true rfl) (Nat.le_of_ble_eq_true rfl) rfl ?_
      show Rn _ d _ _ 0 0 _ 72 [(5, (0, x39.1)), (4, (0, t5.1)), (0, (2, a0)), (1, (0, a1)), (2, (0, a2)), (3, (0, a3))] [(0, x69.1), (0, 1), (0, t5.1)] x69.2
      refine r_ishl (pc := 72) (by decide +kernel) ?_
      refine r_goto (pc := 73) (off := 4) (tgt := 77) (by decide +kernel) (by decide) ?_
      obtain rfl := Option.some.inj ht56
      refine r_lv [0] rfl ?_
      exact E56_0
  refine r_icmp_ne (pc := 5) (off := 7) (tgt := 12) (by decide +kernel) (by decide) (fun c5 => ?_) (fun c5 => ?_)
  · have ht5 := ite_f c5 ht5
    refine r_aload_n (pc := 12) 0 (n := 0) (by decide +kernel) rfl rfl ?_
    refine r_iload_n (pc := 13) 1 (n := 1) (by decide +kernel) rfl rfl ?_
    refine r_iload_n (pc := 14) 2 (n := 2) (by decide +kernel) rfl rfl ?_
    refine r_bipush (pc := 15) (z := 8) (by decide +kernel) ⟨by decide, by decide⟩ ?_
    refine r_idiv (pc := 17) (by decide +kernel) (by decide) ?_
    refine r_iload_n (pc := 18) 3 (n := 3) (by decide +kernel) rfl rfl ?_
    refine r_bipush (pc := 19) (z := 8) (by decide +kernel) ⟨by decide, by decide⟩ ?_
    refine r_idiv (pc := 21) (by decide +kernel) (by decide) ?_
    obtain ⟨_, q22c, ht5⟩ := bnd ht5
    obtain ⟨x22, q22, ht5⟩ := bnd ht5
    refine r_callV (pc := 22) (i := 163) (d2 := d - 1) (As := [(0, a1), (0, idv a2 8), (0, idv a3 8)]) (st := []) (st1 := [(0, idv a3 8), (0, idv a2 8), (0, a1), (2, a0)]) (by decide +kernel) yk_M_bySets (by decide) rfl ⟨ml_M_163, vk_M_bySets⟩ np_M_bySets rfl (by omega) q22c (c_M_bySets (d := d - 1) (by omega) q22) (Nat.le_of_ble_eq_true rfl) (Nat.le_of_ble_eq_true rfl) (Nat.le_of_ble_eq_true rfl) rfl ?_
    show Rn _ d _ _ 0 0 _ 25 [(0, (2, a0)), (1, (0, a1)), (2, (0, a2)), (3, (0, a3))] [(0, x22.1)] x22.2
    obtain rfl := Option.some.inj ht5
    exact E5_0
  · have ht5 := ite_t c5 ht5
    refine r_iconst (pc := 8) (z := 0) (by decide +kernel) ⟨by decide, by decide⟩ ?_
    refine r_goto (pc := 9) (off := 16) (tgt := 25) (by decide +kernel) (by decide) ?_
    obtain rfl := Option.some.inj ht5
    exact E5_0

/-! TreeTonguesModel.next(III)I -/
noncomputable def D_M_next (a0 a1 a2 a3 : Int) (M : Mem) : Option (Int × Mem) := (gf M a0 9 54 20).bind fun g1 => if (g1 < 0 ∨ 4 < g1) then ((ck M a0 9 54).bind fun _ => (D_M_graftedStep a0 a1 a2 a3 M).bind fun x117 => some (x117.1, x117.2)) else if g1 = 0 then ((ck M a0 9 54).bind fun _ => (D_M_byRules a0 a1 a2 a3 M).bind fun x44 => some (x44.1, x44.2)) else if g1 = 1 then ((ck M a0 9 54).bind fun _ => (D_M_step a0 16 a1 (idv a2 8) (idv a3 8) M).bind fun x62 => (ck x62.2 a0 9 54).bind fun _ => (D_M_step a0 17 a1 (irm a2 8) (irm a3 8) x62.2).bind fun x78 => some (wr ((wr (8 * x62.1)) + x78.1), x78.2)) else if g1 = 2 then ((ck M a0 9 54).bind fun _ => (D_M_mapped a0 a1 M).bind fun x88 => (ck x88.2 a0 9 54).bind fun _ => (D_M_step a0 16 x88.1 a2 a3 x88.2).bind fun x93 => some (x93.1, x93.2)) else if g1 = 3 then ((ck M a0 9 54).bind fun _ => (D_M_renamedStep a0 a1 a2 a3 M).bind fun x101 => some (x101.1, x101.2)) else ((ck M a0 9 54).bind fun _ => (D_M_withinStep a0 a1 a2 a3 M).bind fun x109 => some (x109.1, x109.2))
theorem c_M_next {d : Nat} (hd : 4 ≤ d) {a0 a1 a2 a3 : Int} {M : Mem} {x : Int × Mem} (h : D_M_next a0 a1 a2 a3 M = some x) : Ct d Y_M_next [(2, a0), (0, a1), (0, a2), (0, a3)] M (some (0, x.1), x.2) 0 0 := by
  refine ct_of yk_M_next (Nat.le_of_ble_eq_true rfl) ?_
  rw [D_M_next] at h
  show Rn Y_M_next d 0 0 0 0 (some (0, x.1), x.2) 0 [(0, (2, a0)), (1, (0, a1)), (2, (0, a2)), (3, (0, a3))] [] M
  refine r_aload_n (pc := 0) 0 (n := 0) (by decide +kernel) rfl rfl ?_
  obtain ⟨g1, q1, h⟩ := bnd h
  refine r_get (pc := 1) (by decide +kernel) fl_M_170.r (by decide) rfl q1 ?_
  refine r_table (pc := 4) (dflt := 109) (lo := 0) (hi := 4) (offs := #[36, 44, 79, 93, 101]) (len := 36) (z := g1) (tg := fun j => [40, 48, 83, 97, 105].getD j 0) (dt := 113) (by decide +kernel) (by decide) (fun j hj => tb_of (N := 5) 4 #[36, 44, 79, 93, 101] (fun j => [40, 48, 83, 97, 105].getD j 0) (by decide +kernel) j (by omega)) (fun c4 => ?_) (fun j hz hj => ?_)
  · have h := ite_t c4 h
    refine r_aload_n (pc := 113) 0 (n := 0) (by decide +kernel) rfl rfl ?_
    refine r_iload_n (pc := 114) 1 (n := 1) (by decide +kernel) rfl rfl ?_
    refine r_iload_n (pc := 115) 2 (n := 2) (by decide +kernel) rfl rfl ?_
    refine r_iload_n (pc := 116) 3 (n := 3) (by decide +kernel) rfl rfl ?_
    obtain ⟨_, q117c, h⟩ := bnd h
    obtain ⟨x117, q117, h⟩ := bnd h
    refine r_callV (pc := 117) (i := 182) (d2 := d - 1) (As := [(0, a1), (0, a2), (0, a3)]) (st := []) (st1 := [(0, a3), (0, a2), (0, a1), (2, a0)]) (by decide +kernel) yk_M_graftedStep (by decide) rfl ⟨ml_M_182, vk_M_graftedStep⟩ np_M_graftedStep rfl (by omega) q117c (c_M_graftedStep (d := d - 1) (by omega) q117) (Nat.le_of_ble_eq_true rfl) (Nat.le_of_ble_eq_true rfl) (Nat.le_of_ble_eq_true rfl) rfl ?_
    show Rn _ d _ _ 0 0 _ 120 [(0, (2, a0)), (1, (0, a1)), (2, (0, a2)), (3, (0, a3))] [(0, x117.1)] x117.2
    obtain rfl := Option.some.inj h
    exact r_ret (pc := 120) (r := some (0, x117.1)) (by decide +kernel) rfl trivial (Nat.le_of_ble_eq_true rfl) (Nat.le_of_ble_eq_true rfl)
  · have h := ite_f (show ¬ (g1 < 0 ∨ 4 < g1) by omega) h
    by_cases e0 : g1 = 0
    · have h := ite_t e0 h
      obtain rfl : j = 0 := by omega
      show Rn _ d _ _ 0 0 _ 40 [(0, (2, a0)), (1, (0, a1)), (2, (0, a2)), (3, (0, a3))] [] M
      refine r_aload_n (pc := 40) 0 (n := 0) (by decide +kernel) rfl rfl ?_
      refine r_iload_n (pc := 41) 1 (n := 1) (by decide +kernel) rfl rfl ?_
      refine r_iload_n (pc := 42) 2 (n := 2) (by decide +kernel) rfl rfl ?_
      refine r_iload_n (pc := 43) 3 (n := 3) (by decide +kernel) rfl rfl ?_
      obtain ⟨_, q44c, h⟩ := bnd h
      obtain ⟨x44, q44, h⟩ := bnd h
      refine r_callV (pc := 44) (i := 173) (d2 := d - 1) (As := [(0, a1), (0, a2), (0, a3)]) (st := []) (st1 := [(0, a3), (0, a2), (0, a1), (2, a0)]) (by decide +kernel) yk_M_byRules (by decide) rfl ⟨ml_M_173, vk_M_byRules⟩ np_M_byRules rfl (by omega) q44c (c_M_byRules (d := d - 1) (by omega) q44) (Nat.le_of_ble_eq_true rfl) (Nat.le_of_ble_eq_true rfl) (Nat.le_of_ble_eq_true rfl) rfl ?_
      show Rn _ d _ _ 0 0 _ 47 [(0, (2, a0)), (1, (0, a1)), (2, (0, a2)), (3, (0, a3))] [(0, x44.1)] x44.2
      obtain rfl := Option.some.inj h
      exact r_ret (pc := 47) (r := some (0, x44.1)) (by decide +kernel) rfl trivial (Nat.le_of_ble_eq_true rfl) (Nat.le_of_ble_eq_true rfl)
    · have h := ite_f e0 h
      by_cases e1 : g1 = 1
      · have h := ite_t e1 h
        obtain rfl : j = 1 := by omega
        show Rn _ d _ _ 0 0 _ 48 [(0, (2, a0)), (1, (0, a1)), (2, (0, a2)), (3, (0, a3))] [] M
        refine r_bipush (pc := 48) (z := 8) (by decide +kernel) ⟨by decide, by decide⟩ ?_
        refine r_aload_n (pc := 50) 0 (n := 0) (by decide +kernel) rfl rfl ?_
        refine r_bipush (pc := 51) (z := 16) (by decide +kernel) ⟨by decide, by decide⟩ ?_
        refine r_iload_n (pc := 53) 1 (n := 1) (by decide +kernel) rfl rfl ?_
        refine r_iload_n (pc := 54) 2 (n := 2) (by decide +kernel) rfl rfl ?_
        refine r_bipush (pc := 55) (z := 8) (by decide +kernel) ⟨by decide, by decide⟩ ?_
        refine r_idiv (pc := 57) (by decide +kernel) (by decide) ?_
        refine r_iload_n (pc := 58) 3 (n := 3) (by decide +kernel) rfl rfl ?_
        refine r_bipush (pc := 59) (z := 8) (by decide +kernel) ⟨by decide, by decide⟩ ?_
        refine r_idiv (pc := 61) (by decide +kernel) (by decide) ?_
        obtain ⟨_, q62c, h⟩ := bnd h
        obtain ⟨x62, q62, h⟩ := bnd h
        refine r_callV (pc := 62) (i := 155) (d2 := d - 1) (As := [(0, 16), (0, a1), (0, idv a2 8), (0, idv a3 8)]) (st := [(0, 8)]) (st1 := [(0, idv a3 8), (0, idv a2 8), (0, a1), (0, 16), (2, a0), (0, 8)]) (by decide +kernel) yk_M_step (by decide) rfl ⟨ml_M_155, vk_M_step⟩ np_M_step rfl (by omega) q62c (c_M_step (d := d - 1) (by omega) q62) (Nat.le_of_ble_eq_true rfl) (Nat.le_of_ble_eq_true rfl) (Nat.le_of_ble_eq_true rfl) rfl ?_
        show Rn _ d _ _ 0 0 _ 65 [(0, (2, a0)), (1, (0, a1)), (2, (0, a2)), (3, (0, a3))] [(0, x62.1), (0, 8)] x62.2
        refine r_imul (pc := 65) (by decide +kernel) ?_
        refine r_aload_n (pc := 66) 0 (n := 0) (by decide +kernel) rfl rfl ?_
        refine r_bipush (pc := 67) (z := 17) (by decide +kernel) ⟨by decide, by decide⟩ ?_
        refine r_iload_n (pc := 69) 1 (n := 1) (by decide +kernel) rfl rfl ?_
        refine r_iload_n (pc := 70) 2 (n := 2) (by decide +kernel) rfl rfl ?_
        refine r_bipush (pc := 71) (z := 8) (by decide +kernel) ⟨by decide, by decide⟩ ?_
        refine r_irem (pc := 73) (by decide +kernel) (by decide) ?_
        refine r_iload_n (pc := 74) 3 (n := 3) (by decide +kernel) rfl rfl ?_
        refine r_bipush (pc := 75) (z := 8) (by decide +kernel) ⟨by decide, by decide⟩ ?_
        refine r_irem (pc := 77) (by decide +kernel) (by decide) ?_
        obtain ⟨_, q78c, h⟩ := bnd h
        obtain ⟨x78, q78, h⟩ := bnd h
        refine r_callV (pc := 78) (i := 155) (d2 := d - 1) (As := [(0, 17), (0, a1), (0, irm a2 8), (0, irm a3 8)]) (st := [(0, wr (8 * x62.1))]) (st1 := [(0, irm a3 8), (0, irm a2 8), (0, a1), (0, 17), (2, a0), (0, wr (8 * x62.1))]) (by decide +kernel) yk_M_step (by decide) rfl ⟨ml_M_155, vk_M_step⟩ np_M_step rfl (by omega) q78c (c_M_step (d := d - 1) (by omega) q78) (Nat.le_of_ble_eq_true rfl) (Nat.le_of_ble_eq_true rfl) (Nat.le_of_ble_eq_true rfl) rfl ?_
        show Rn _ d _ _ 0 0 _ 81 [(0, (2, a0)), (1, (0, a1)), (2, (0, a2)), (3, (0, a3))] [(0, x78.1), (0, wr (8 * x62.1))] x78.2
        refine r_iadd (pc := 81) (by decide +kernel) ?_
        obtain rfl := Option.some.inj h
        exact r_ret (pc := 82) (r := some (0, wr ((wr (8 * x62.1)) + x78.1))) (by decide +kernel) rfl trivial (Nat.le_of_ble_eq_true rfl) (Nat.le_of_ble_eq_true rfl)
      · have h := ite_f e1 h
        by_cases e2 : g1 = 2
        · have h := ite_t e2 h
          obtain rfl : j = 2 := by omega
          show Rn _ d _ _ 0 0 _ 83 [(0, (2, a0)), (1, (0, a1)), (2, (0, a2)), (3, (0, a3))] [] M
          refine r_aload_n (pc := 83) 0 (n := 0) (by decide +kernel) rfl rfl ?_
          refine r_bipush (pc := 84) (z := 16) (by decide +kernel) ⟨by decide, by decide⟩ ?_
          refine r_aload_n (pc := 86) 0 (n := 0) (by decide +kernel) rfl rfl ?_
          refine r_iload_n (pc := 87) 1 (n := 1) (by decide +kernel) rfl rfl ?_
          obtain ⟨_, q88c, h⟩ := bnd h
          obtain ⟨x88, q88, h⟩ := bnd h
          refine r_callV (pc := 88) (i := 159) (d2 := d - 1) (As := [(0, a1)]) (st := [(0, 16), (2, a0)]) (st1 := [(0, a1), (2, a0), (0, 16), (2, a0)]) (by decide +kernel) yk_M_mapped (by decide) rfl ⟨ml_M_159, vk_M_mapped⟩ np_M_mapped rfl (by omega) q88c (c_M_mapped (d := d - 1) (by omega) q88) (Nat.le_of_ble_eq_true rfl) (Nat.le_of_ble_eq_true rfl) (Nat.le_of_ble_eq_true rfl) rfl ?_
          show Rn _ d _ _ 0 0 _ 91 [(0, (2, a0)), (1, (0, a1)), (2, (0, a2)), (3, (0, a3))] [(0, x88.1), (0, 16), (2, a0)] x88.2
          refine r_iload_n (pc := 91) 2 (n := 2) (by decide +kernel) rfl rfl ?_
          refine r_iload_n (pc := 92) 3 (n := 3) (by decide +kernel) rfl rfl ?_
          obtain ⟨_, q93c, h⟩ := bnd h
          obtain ⟨x93, q93, h⟩ := bnd h
          refine r_callV (pc := 93) (i := 155) (d2 := d - 1) (As := [(0, 16), (0, x88.1), (0, a2), (0, a3)]) (st := []) (st1 := [(0, a3), (0, a2), (0, x88.1), (0, 16), (2, a0)]) (by decide +kernel) yk_M_step (by decide) rfl ⟨ml_M_155, vk_M_step⟩ np_M_step rfl (by omega) q93c (c_M_step (d := d - 1) (by omega) q93) (Nat.le_of_ble_eq_true rfl) (Nat.le_of_ble_eq_true rfl) (Nat.le_of_ble_eq_true rfl) rfl ?_
          show Rn _ d _ _ 0 0 _ 96 [(0, (2, a0)), (1, (0, a1)), (2, (0, a2)), (3, (0, a3))] [(0, x93.1)] x93.2
          obtain rfl := Option.some.inj h
          exact r_ret (pc := 96) (r := some (0, x93.1)) (by decide +kernel) rfl trivial (Nat.le_of_ble_eq_true rfl) (Nat.le_of_ble_eq_true rfl)
        · have h := ite_f e2 h
          by_cases e3 : g1 = 3
          · have h := ite_t e3 h
            obtain rfl : j = 3 := by omega
            show Rn _ d _ _ 0 0 _ 97 [(0, (2, a0)), (1, (0, a1)), (2, (0, a2)), (3, (0, a3))] [] M
            refine r_aload_n (pc := 97) 0 (n := 0) (by decide +kernel) rfl rfl ?_
            refine r_iload_n (pc := 98) 1 (n := 1) (by decide +kernel) rfl rfl ?_
            refine r_iload_n (pc := 99) 2 (n := 2) (by decide +kernel) rfl rfl ?_
            refine r_iload_n (pc := 100) 3 (n := 3) (by decide +kernel) rfl rfl ?_
            obtain ⟨_, q101c, h⟩ := bnd h
            obtain ⟨x101, q101, h⟩ := bnd h
            refine r_callV (pc := 101) (i := 176) (d2 := d - 1) (As := [(0, a1), (0, a2), (0, a3)]) (st := []) (st1 := [(0, a3), (0, a2), (0, a1), (2, a0)]) (by decide +kernel) yk_M_renamedStep (by decide) rfl ⟨ml_M_176, vk_M_renamedStep⟩ np_M_renamedStep rfl (by omega) q101c (c_M_renamedStep (d := d - 1) (by omega) q101) (Nat.le_of_ble_eq_true rfl) (Nat.le_of_ble_eq_true rfl) (Nat.le_of_ble_eq_true rfl) rfl ?_
            show Rn _ d _ _ 0 0 _ 104 [(0, (2, a0)), (1, (0, a1)), (2, (0, a2)), (3, (0, a3))] [(0, x101.1)] x101.2
            obtain rfl := Option.some.inj h
            exact r_ret (pc := 104) (r := some (0, x101.1)) (by decide +kernel) rfl trivial (Nat.le_of_ble_eq_true rfl) (Nat.le_of_ble_eq_true rfl)
          · have h := ite_f e3 h
            obtain rfl : j = 4 := by omega
            show Rn _ d _ _ 0 0 _ 105 [(0, (2, a0)), (1, (0, a1)), (2, (0, a2)), (3, (0, a3))] [] M
            refine r_aload_n (pc := 105) 0 (n := 0) (by decide +kernel) rfl rfl ?_
            refine r_iload_n (pc := 106) 1 (n := 1) (by decide +kernel) rfl rfl ?_
            refine r_iload_n (pc := 107) 2 (n := 2) (by decide +kernel) rfl rfl ?_
            refine r_iload_n (pc := 108) 3 (n := 3) (by decide +kernel) rfl rfl ?_
            obtain ⟨_, q109c, h⟩ := bnd h
            obtain ⟨x109, q109, h⟩ := bnd h
            refine r_callV (pc := 109) (i := 179) (d2 := d - 1) (As := [(0, a1), (0, a2), (0, a3)]) (st := []) (st1 := [(0, a3), (0, a2), (0, a1), (2, a0)]) (by decide +kernel) yk_M_withinStep (by decide) rfl ⟨ml_M_179, vk_M_withinStep⟩ np_M_withinStep rfl (by omega) q109c (c_M_withinStep (d := d - 1) (by omega) q109) (Nat.le_of_ble_eq_true rfl) (Nat.le_of_ble_eq_true rfl) (Nat.le_of_ble_eq_true rfl) rfl ?_
            show Rn _ d _ _ 0 0 _ 112 [(0, (2, a0)), (1, (0, a1)), (2, (0, a2)), (3, (0, a3))] [(0, x109.1)] x109.2
            obtain rfl := Option.some.inj h
            exact r_ret (pc := 112) (r := some (0, x109.1)) (by decide +kernel) rfl trivial (Nat.le_of_ble_eq_true rfl) (Nat.le_of_ble_eq_true rfl)
