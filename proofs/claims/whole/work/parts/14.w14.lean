/-! TreeTongues$Step.load(LTreeTongues$Net;IZI)V -/
noncomputable def L_Step_load_85 (k : Mem → Option (Mem)) (v0 : Int) (v1 : Int) (v2 : Int) (v3 : Int) (v4 : Int) (v5 : Int) (v7 : Int) (v8 : Int) (v9 : Int) : Nat → Int → Mem → Option (Mem)
  | 0 => fun _ _ => none
  | n + 1 => fun v10 M => if v8 ≤ v10 then (k  M) else ((rd M 10 v7 v10).bind fun e103 => (wt M 10 v7 (wr (v8 + v10)) (ior e103 v9)).bind fun m107 => L_Step_load_85 k v0 v1 v2 v3 v4 v5 v7 v8 v9 n (wr (v10 + 1)) m107)
noncomputable def L_Step_load_3 (k : Mem → Option (Mem)) (v0 : Int) (v1 : Int) (v2 : Int) (v3 : Int) (v4 : Int) : Nat → Int → Mem → Option (Mem)
  | 0 => fun _ _ => none
  | n + 1 => fun v5 M => (gf M v1 2 6 2).bind fun g6 => if g6 ≤ v5 then (k  M) else (if 12 ≤ v5 then (k  M) else ((if 6 ≤ v5 then (some 0) else (some 1)).bind fun (t23 : Int) => (if t23 = 0 then ((gf M v0 6 2 1).bind fun g46 => some g46) else ((gf M v0 6 2 0).bind fun g39 => some g39)).bind fun (t35 : Int) => (if t23 = 0 then (some (wr (v5 - 6))) else (some v5)).bind fun (t54 : Int) => lt (ishl 1 t54) fun u8_68 => (ck M v1 2 6).bind fun _ => (D_Net_image v1 v2 v3 v5 v4 M).bind fun x77 => L_Step_load_85 (fun  m85 => L_Step_load_3 k v0 v1 v2 v3 v4 n (wr (v5 + 1)) m85) v0 v1 v2 v3 v4 v5 t35 u8_68 x77.1 FU 0 x77.2))
noncomputable def D_Step_load (a0 a1 a2 a3 a4 : Int) (M : Mem) : Option (Mem) := L_Step_load_3 (fun  m3 => some m3) a0 a1 a2 a3 a4 FU 0 M
theorem sL_Step_load_85 {d mc ms : Nat} (hd : 2 ≤ d) {r : Mem} {k : Mem → Option (Mem)} {v0 : Int} {v1 : Int} {v2 : Int} {v3 : Int} {v4 : Int} {v5 : Int} {v7 : Int} {v8 : Int} {v9 : Int} (hk : ∀ (M : Mem), k M = some r → Rn Y_Step_load d mc ms 0 0 (none, r) 114 [(0, (2, v0)), (1, (2, v1)), (2, (0, v2)), (3, (0, v3)), (4, (0, v4)), (5, (0, v5))] [] M) : ∀ (n : Nat) (v10 : Int) (M : Mem), L_Step_load_85 k v0 v1 v2 v3 v4 v5 v7 v8 v9 n v10 M = some r → Rn Y_Step_load d mc ms 0 0 (none, r) 85 [(0, (2, v0)), (1, (2, v1)), (2, (0, v2)), (3, (0, v3)), (4, (0, v4)), (5, (0, v5)), (7, (2, v7)), (8, (0, v8)), (9, (0, v9)), (10, (0, v10))] [] M := by
  intro n
  induction n with
  | zero => intro _ _ h; cases h
  | succ n ih =>
    intro v10 M h
    rw [L_Step_load_85] at h
    refine r_iload (pc := 85) 9 (by decide +kernel) rfl ?_
    refine r_iload (pc := 87) 7 (by decide +kernel) rfl ?_
    refine r_icmp_ge (pc := 89) (off := 25) (tgt := 114) (by decide +kernel) (by decide) (fun c89 => ?_) (fun c89 => ?_)
    · have h := ite_t c89 h
      refine r_lv [0, 1, 2, 3, 4, 5] rfl ?_
      exact hk  M h
    · have h := ite_f c89 h
      refine r_aload (pc := 92) 6 (by decide +kernel) rfl ?_
      refine r_iload (pc := 94) 7 (by decide +kernel) rfl ?_
      refine r_iload (pc := 96) 9 (by decide +kernel) rfl ?_
      refine r_iadd (pc := 98) (by decide +kernel) ?_
      refine r_aload (pc := 99) 6 (by decide +kernel) rfl ?_
      refine r_iload (pc := 101) 9 (by decide +kernel) rfl ?_
      obtain ⟨e103, q103, h⟩ := bnd h
      refine r_iald (pc := 103) (by decide +kernel) q103 ?_
      refine r_iload (pc := 104) 8 (by decide +kernel) rfl ?_
      refine r_ior (pc := 106) (by decide +kernel) ?_
      obtain ⟨m107, q107, h⟩ := bnd h
      refine r_iast (pc := 107) (by decide +kernel) q107 ?_
      refine r_iinc (pc := 108) 9 (n := 1) (lv' := [(10, (0, wr (v10 + 1))), (0, (2, v0)), (1, (2, v1)), (2, (0, v2)), (3, (0, v3)), (4, (0, v4)), (5, (0, v5)), (7, (2, v7)), (8, (0, v8)), (9, (0, v9))]) (by decide +kernel) rfl (Nat.le_of_ble_eq_true rfl) rfl ?_
      refine r_goto (pc := 111) (off := (-26)) (tgt := 85) (by decide +kernel) (by decide) ?_
      refine r_lv [1, 2, 3, 4, 5, 6, 7, 8, 9, 0] rfl ?_
      exact ih (wr (v10 + 1)) m107 h
theorem sL_Step_load_3 {d mc ms : Nat} (hd : 2 ≤ d) {r : Mem} {k : Mem → Option (Mem)} {v0 : Int} {v1 : Int} {v2 : Int} {v3 : Int} {v4 : Int} (hk : ∀ (M : Mem), k M = some r → Rn Y_Step_load d mc ms 0 0 (none, r) 120 [] [] M) : ∀ (n : Nat) (v5 : Int) (M : Mem), L_Step_load_3 k v0 v1 v2 v3 v4 n v5 M = some r → Rn Y_Step_load d mc ms 0 0 (none, r) 3 [(0, (2, v0)), (1, (2, v1)), (2, (0, v2)), (3, (0, v3)), (4, (0, v4)), (5, (0, v5))] [] M := by
  intro n
  induction n with
  | zero => intro _ _ h; cases h
  | succ n ih =>
    intro v5 M h
    rw [L_Step_load_3] at h
    refine r_iload (pc := 3) 5 (by decide +kernel) rfl ?_
    refine r_aload_n (pc := 5) 1 (n := 1) (by decide +kernel) rfl rfl ?_
    obtain ⟨g6, q6, h⟩ := bnd h
    refine r_get (pc := 6) (by decide +kernel) fl_Step_18.r (by decide) rfl q6 ?_
    refine r_icmp_ge (pc := 9) (off := 111) (tgt := 120) (by decide +kernel) (by decide) (fun c9 => ?_) (fun c9 => ?_)
    · have h := ite_t c9 h
      refine r_lv [] rfl ?_
      exact hk  M h
    · have h := ite_f c9 h
      refine r_iload (pc := 12) 5 (by decide +kernel) rfl ?_
      refine r_bipush (pc := 14) (z := 12) (by decide +kernel) ⟨by decide, by decide⟩ ?_
      refine r_icmp_ge (pc := 16) (off := 104) (tgt := 120) (by decide +kernel) (by decide) (fun c16 => ?_) (fun c16 => ?_)
      · have h := ite_t c16 h
        refine r_lv [] rfl ?_
        exact hk  M h
      · have h := ite_f c16 h
        refine r_iload (pc := 19) 5 (by decide +kernel) rfl ?_
        refine r_bipush (pc := 21) (z := 6) (by decide +kernel) ⟨by decide, by decide⟩ ?_
        obtain ⟨t23, ht23, h⟩ := bnd h
        have E23_0 : Rn Y_Step_load d mc ms 0 0 (none, r) 31 [(0, (2, v0)), (1, (2, v1)), (2, (0, v2)), (3, (0, v3)), (4, (0, v4)), (5, (0, v5))] [(0, t23)] M := by
          refine r_istore (pc := 31) (lv' := [(6, (0, t23)), (0, (2, v0)), (1, (2, v1)), (2, (0, v2)), (3, (0, v3)), (4, (0, v4)), (5, (0, v5))]) (by decide +kernel) (Nat.le_of_ble_eq_true rfl) rfl ?_
          refine r_iload (pc := 33) 0 (by decide +kernel) rfl ?_
          obtain ⟨t35, ht35, h⟩ := bnd h
          have E35_0 : Rn Y_Step_load d mc ms 0 0 (none, r) 49 [(0, (2, v0)), (1, (2, v1)), (2, (0, v2)), (3, (0, v3)), (4, (0, v4)), (5, (0, v5)), (6, (0, t23))] [(2, t35)] M := by
            refine r_astore (pc := 49) (lv' := [(7, (2, t35)), (0, (2, v0)), (1, (2, v1)), (2, (0, v2)), (3, (0, v3)), (4, (0, v4)), (5, (0, v5)), (6, (0, t23))]) (by decide +kernel) (Nat.le_of_ble_eq_true rfl) rfl ?_
            refine r_iconst (pc := 51) (z := 1) (by decide +kernel) ⟨by decide, by decide⟩ ?_
            refine r_iload (pc := 52) 7 (by decide +kernel) rfl ?_
            obtain ⟨t54, ht54, h⟩ := bnd h
            have E54_0 : Rn Y_Step_load d mc ms 0 0 (none, r) 67 [(0, (2, v0)), (1, (2, v1)), (2, (0, v2)), (3, (0, v3)), (4, (0, v4)), (5, (0, v5)), (7, (2, t35))] [(0, t54), (0, 1)] M := by
              refine r_ishl (pc := 67) (by decide +kernel) ?_
              obtain ⟨u8_68, q68, h⟩ := lt_o h
              refine r_eq q68 ?_
              refine r_istore (pc := 68) (lv' := [(8, (0, u8_68)), (0, (2, v0)), (1, (2, v1)), (2, (0, v2)), (3, (0, v3)), (4, (0, v4)), (5, (0, v5)), (7, (2, t35))]) (by decide +kernel) (Nat.le_of_ble_eq_true rfl) rfl ?_
              refine r_aload_n (pc := 70) 2 (n := 1) (by decide +kernel) rfl rfl ?_
              refine r_iload_n (pc := 71) 3 (n := 2) (by decide +kernel) rfl rfl ?_
              refine r_iload_n (pc := 72) 4 (n := 3) (by decide +kernel) rfl rfl ?_
              refine r_iload (pc := 73) 6 (by decide +kernel) rfl ?_
              refine r_iload (pc := 75) 5 (by decide +kernel) rfl ?_
              obtain ⟨_, q77c, h⟩ := bnd h
              obtain ⟨x77, q77, h⟩ := bnd h
              refine r_callV (pc := 77) (i := 24) (d2 := d - 1) (As := [(0, v2), (0, v3), (0, v5), (0, v4)]) (st := []) (st1 := [(0, v4), (0, v5), (0, v3), (0, v2), (2, v1)]) (by decide +kernel) yk_Net_image (by decide) rfl ⟨ml_Step_24, vk_Net_image⟩ np_Net_image rfl (by omega) q77c (c_Net_image (d := d - 1) (by omega) q77) (Nat.le_of_ble_eq_true rfl) (Nat.le_of_ble_eq_true rfl) (Nat.le_of_ble_eq_true rfl) rfl ?_
              show Rn _ d _ _ 0 0 _ 80 [(8, (0, u8_68)), (0, (2, v0)), (1, (2, v1)), (2, (0, v2)), (3, (0, v3)), (4, (0, v4)), (5, (0, v5)), (7, (2, t35))] [(0, x77.1)] x77.2
              refine r_istore (pc := 80) (lv' := [(9, (0, x77.1)), (8, (0, u8_68)), (0, (2, v0)), (1, (2, v1)), (2, (0, v2)), (3, (0, v3)), (4, (0, v4)), (5, (0, v5)), (7, (2, t35))]) (by decide +kernel) (Nat.le_of_ble_eq_true rfl) rfl ?_
              refine r_iconst (pc := 82) (z := 0) (by decide +kernel) ⟨by decide, by decide⟩ ?_
              refine r_istore (pc := 83) (lv' := [(10, (0, 0)), (9, (0, x77.1)), (8, (0, u8_68)), (0, (2, v0)), (1, (2, v1)), (2, (0, v2)), (3, (0, v3)), (4, (0, v4)), (5, (0, v5)), (7, (2, t35))]) (by decide +kernel) (Nat.le_of_ble_eq_true rfl) rfl ?_
              refine r_lv [3, 4, 5, 6, 7, 8, 9, 2, 1, 0] rfl ?_
              refine sL_Step_load_85 (by omega) ?_ _ _  _ h
              intro m85 h
              refine r_iinc (pc := 114) 5 (n := 1) (lv' := [(5, (0, wr (v5 + 1))), (0, (2, v0)), (1, (2, v1)), (2, (0, v2)), (3, (0, v3)), (4, (0, v4))]) (by decide +kernel) rfl (Nat.le_of_ble_eq_true rfl) rfl ?_
              refine r_goto (pc := 117) (off := (-114)) (tgt := 3) (by decide +kernel) (by decide) ?_
              refine r_lv [1, 2, 3, 4, 5, 0] rfl ?_
              exact ih (wr (v5 + 1)) m85 h
            refine r_if_eq (pc := 54) (off := 8) (tgt := 62) (by decide +kernel) (by decide) (fun c54 => ?_) (fun c54 => ?_)
            · have ht54 := ite_t c54 ht54
              refine r_iload (pc := 62) 6 (by decide +kernel) rfl ?_
              refine r_bipush (pc := 64) (z := 6) (by decide +kernel) ⟨by decide, by decide⟩ ?_
              refine r_isub (pc := 66) (by decide +kernel) ?_
              obtain rfl := Option.some.inj ht54
              refine r_lv [1, 2, 3, 4, 5, 6, 0] rfl ?_
              exact E54_0
            · have ht54 := ite_f c54 ht54
              refine r_iload (pc := 57) 6 (by decide +kernel) rfl ?_
              refine r_goto (pc := 59) (off := 8) (tgt := 67) (by decide +kernel) (by decide) ?_
              obtain rfl := Option.some.inj ht54
              refine r_lv [1, 2, 3, 4, 5, 6, 0] rfl ?_
              exact E54_0
          refine r_if_eq (pc := 35) (off := 10) (tgt := 45) (by decide +kernel) (by decide) (fun c35 => ?_) (fun c35 => ?_)
          · have ht35 := ite_t c35 ht35
            refine r_aload_n (pc := 45) 1 (n := 0) (by decide +kernel) rfl rfl ?_
            obtain ⟨g46, q46, ht35⟩ := bnd ht35
            refine r_get (pc := 46) (by decide +kernel) fl_Step_15.r (by decide) rfl q46 ?_
            obtain rfl := Option.some.inj ht35
            refine r_lv [1, 2, 3, 4, 5, 6, 0] rfl ?_
            exact E35_0
          · have ht35 := ite_f c35 ht35
            refine r_aload_n (pc := 38) 1 (n := 0) (by decide +kernel) rfl rfl ?_
            obtain ⟨g39, q39, ht35⟩ := bnd ht35
            refine r_get (pc := 39) (by decide +kernel) fl_Step_9.r (by decide) rfl q39 ?_
            refine r_goto (pc := 42) (off := 7) (tgt := 49) (by decide +kernel) (by decide) ?_
            obtain rfl := Option.some.inj ht35
            refine r_lv [1, 2, 3, 4, 5, 6, 0] rfl ?_
            exact E35_0
        refine r_icmp_ge (pc := 23) (off := 7) (tgt := 30) (by decide +kernel) (by decide) (fun c23 => ?_) (fun c23 => ?_)
        · have ht23 := ite_t c23 ht23
          refine r_iconst (pc := 30) (z := 0) (by decide +kernel) ⟨by decide, by decide⟩ ?_
          obtain rfl := Option.some.inj ht23
          exact E23_0
        · have ht23 := ite_f c23 ht23
          refine r_iconst (pc := 26) (z := 1) (by decide +kernel) ⟨by decide, by decide⟩ ?_
          refine r_goto (pc := 27) (off := 4) (tgt := 31) (by decide +kernel) (by decide) ?_
          obtain rfl := Option.some.inj ht23
          exact E23_0
theorem c_Step_load {d : Nat} (hd : 2 ≤ d) {a0 a1 a2 a3 a4 : Int} {M : Mem} {x : Mem} (h : D_Step_load a0 a1 a2 a3 a4 M = some x) : Ct d Y_Step_load [(2, a0), (2, a1), (0, a2), (0, a3), (0, a4)] M (none, x) 0 0 := by
  refine ct_of yk_Step_load (Nat.le_of_ble_eq_true rfl) ?_
  rw [D_Step_load] at h
  show Rn Y_Step_load d 0 0 0 0 (none, x) 0 [(0, (2, a0)), (1, (2, a1)), (2, (0, a2)), (3, (0, a3)), (4, (0, a4))] [] M
  refine r_iconst (pc := 0) (z := 0) (by decide +kernel) ⟨by decide, by decide⟩ ?_
  refine r_istore (pc := 1) (lv' := [(5, (0, 0)), (0, (2, a0)), (1, (2, a1)), (2, (0, a2)), (3, (0, a3)), (4, (0, a4))]) (by decide +kernel) (Nat.le_of_ble_eq_true rfl) rfl ?_
  refine r_lv [1, 2, 3, 4, 5, 0] rfl ?_
  refine sL_Step_load_3 (by omega) ?_ _ _  _ h
  intro m3 h
  obtain rfl := Option.some.inj h
  exact r_ret (pc := 120) (r := none) (by decide +kernel) rfl trivial (Nat.le_of_ble_eq_true rfl) (Nat.le_of_ble_eq_true rfl)

/-! TreeTongues$Reducer.addProbe(IIIII)V -/
noncomputable def D_Reducer_addProbe (a0 a1 a2 a3 a4 a5 : Int) (M : Mem) : Option (Mem) := (gf M a0 3 17 14).bind fun g1 => if 8 ≤ g1 then (some M) else (if a4 = a5 then (some M) else ((D_Reducer_lowestBit (ixor a4 a5) M).bind fun x22 => (gf x22.2 a0 3 17 7).bind fun g28 => (gf x22.2 a0 3 17 4).bind fun g32 => (rd x22.2 10 g32 a2).bind fun e36 => (rd x22.2 10 g28 e36).bind fun e37 => (gf x22.2 a0 3 17 12).bind fun g41 => (gf x22.2 a0 3 17 14).bind fun g45 => (rd x22.2 13 g41 g45).bind fun e48 => (gf x22.2 a0 3 17 1).bind fun g54 => (gf x22.2 a0 3 17 0).bind fun g60 => (ck x22.2 g60 5 3).bind fun _ => (D_Signs_rankOf g60 a1 x22.2).bind fun x64 => (if x64.1 = 2 then ((gf x64.2 a0 3 17 2).bind fun g72 => (rd x64.2 10 g72 a3).bind fun e76 => some e76) else (some 1)).bind fun (t68 : Int) => (ck x64.2 e48 6 2).bind fun _ => (D_Step_load e48 g54 a1 1 t68 x64.2).bind fun x81 => (ck x81 e48 6 2).bind fun _ => (D_Step_from e48 e37 x81).bind fun x89 => (ck x89.2 a0 3 17).bind fun _ => (D_Reducer_marksOf a0 x89.1 x89.2).bind fun x92 => lt (ixor x92.1 a4) fun u9_98 => (if (iand (ishr u9_98 x22.1) 1) = 0 then ((gf x92.2 a0 3 17 1).bind fun g113 => (ck x92.2 e48 6 2).bind fun _ => (D_Step_load e48 g113 a1 0 e37 x92.2).bind fun x120 => some x120) else (some x92.2)).bind fun (t107 : Mem) => (gf t107 a0 3 17 13).bind fun g124 => (gf t107 a0 3 17 14).bind fun g128 => (wt t107 10 g124 g128 x22.1).bind fun m133 => (gf m133 a0 3 17 14).bind fun g136 => (pf m133 a0 3 17 14 (wr (g136 + 1))).bind fun m141 => some m141))
theorem c_Reducer_addProbe {d : Nat} (hd : 3 ≤ d) {a0 a1 a2 a3 a4 a5 : Int} {M : Mem} {x : Mem} (h : D_Reducer_addProbe a0 a1 a2 a3 a4 a5 M = some x) : Ct d Y_Reducer_addProbe [(2, a0), (0, a1), (0, a2), (0, a3), (0, a4), (0, a5)] M (none, x) 0 0 := by
  refine ct_of yk_Reducer_addProbe (Nat.le_of_ble_eq_true rfl) ?_
  rw [D_Reducer_addProbe] at h
  show Rn Y_Reducer_addProbe d 0 0 0 0 (none, x) 0 [(0, (2, a0)), (1, (0, a1)), (2, (0, a2)), (3, (0, a3)), (4, (0, a4)), (5, (0, a5))] [] M
  refine r_aload_n (pc := 0) 0 (n := 0) (by decide +kernel) rfl rfl ?_
  obtain ⟨g1, q1, h⟩ := bnd h
  refine r_get (pc := 1) (by decide +kernel) fl_Reducer_53.r (by decide) rfl q1 ?_
  refine r_bipush (pc := 4) (z := 8) (by decide +kernel) ⟨by decide, by decide⟩ ?_
  refine r_icmp_ge (pc := 6) (off := 10) (tgt := 16) (by decide +kernel) (by decide) (fun c6 => ?_) (fun c6 => ?_)
  · have h := ite_t c6 h
    obtain rfl := Option.some.inj h
    exact r_ret (pc := 16) (r := none) (by decide +kernel) rfl trivial (Nat.le_of_ble_eq_true rfl) (Nat.le_of_ble_eq_true rfl)
  · have h := ite_f c6 h
    refine r_iload (pc := 9) 4 (by decide +kernel) rfl ?_
    refine r_iload (pc := 11) 5 (by decide +kernel) rfl ?_
    refine r_icmp_ne (pc := 13) (off := 4) (tgt := 17) (by decide +kernel) (by decide) (fun c13 => ?_) (fun c13 => ?_)
    · have h := ite_f c13 h
      refine r_iload (pc := 17) 4 (by decide +kernel) rfl ?_
      refine r_iload (pc := 19) 5 (by decide +kernel) rfl ?_
      refine r_ixor (pc := 21) (by decide +kernel) ?_
      obtain ⟨x22, q22, h⟩ := bnd h
      refine r_callS (pc := 22) (i := 154) (d2 := d - 1) (As := [(0, ixor a4 a5)]) (st := []) (st1 := [(0, ixor a4 a5)]) (by decide +kernel) yk_Reducer_lowestBit ⟨ml_Reducer_154, sk_Reducer_lowestBit⟩ np_Reducer_lowestBit rfl (by omega) (c_Reducer_lowestBit (d := d - 1) (by omega) q22) (Nat.le_of_ble_eq_true rfl) (Nat.le_of_ble_eq_true rfl) (Nat.le_of_ble_eq_true rfl) rfl ?_
      show Rn _ d _ _ 0 0 _ 25 [(0, (2, a0)), (1, (0, a1)), (2, (0, a2)), (3, (0, a3)), (4, (0, a4)), (5, (0, a5))] [(0, x22.1)] x22.2
      refine r_istore (pc := 25) (lv' := [(6, (0, x22.1)), (0, (2, a0)), (1, (0, a1)), (2, (0, a2)), (3, (0, a3)), (4, (0, a4)), (5, (0, a5))]) (by decide +kernel) (Nat.le_of_ble_eq_true rfl) rfl ?_
      refine r_aload_n (pc := 27) 1 (n := 0) (by decide +kernel) rfl rfl ?_
      obtain ⟨g28, q28, h⟩ := bnd h
      refine r_get (pc := 28) (by decide +kernel) fl_Reducer_28.r (by decide) rfl q28 ?_
      refine r_aload_n (pc := 31) 1 (n := 0) (by decide +kernel) rfl rfl ?_
      obtain ⟨g32, q32, h⟩ := bnd h
      refine r_get (pc := 32) (by decide +kernel) fl_Reducer_18.r (by decide) rfl q32 ?_
      refine r_iload_n (pc := 35) 3 (n := 2) (by decide +kernel) rfl rfl ?_
      obtain ⟨e36, q36, h⟩ := bnd h
      refine r_iald (pc := 36) (by decide +kernel) q36 ?_
      obtain ⟨e37, q37, h⟩ := bnd h
      refine r_iald (pc := 37) (by decide +kernel) q37 ?_
      refine r_istore (pc := 38) (lv' := [(7, (0, e37)), (6, (0, x22.1)), (0, (2, a0)), (1, (0, a1)), (2, (0, a2)), (3, (0, a3)), (4, (0, a4)), (5, (0, a5))]) (by decide +kernel) (Nat.le_of_ble_eq_true rfl) rfl ?_
      refine r_aload_n (pc := 40) 2 (n := 0) (by decide +kernel) rfl rfl ?_
      obtain ⟨g41, q41, h⟩ := bnd h
      refine r_get (pc := 41) (by decide +kernel) fl_Reducer_46.r (by decide) rfl q41 ?_
      refine r_aload_n (pc := 44) 2 (n := 0) (by decide +kernel) rfl rfl ?_
      obtain ⟨g45, q45, h⟩ := bnd h
      refine r_get (pc := 45) (by decide +kernel) fl_Reducer_53.r (by decide) rfl q45 ?_
      obtain ⟨e48, q48, h⟩ := bnd h
      refine r_aald (pc := 48) (by decide) (by decide +kernel) q48 ?_
      refine r_astore (pc := 49) (lv' := [(8, (2, e48)), (7, (0, e37)), (6, (0, x22.1)), (0, (2, a0)), (1, (0, a1)), (2, (0, a2)), (3, (0, a3)), (4, (0, a4)), (5, (0, a5))]) (by decide +kernel) (Nat.le_of_ble_eq_true rfl) rfl ?_
      refine r_aload (pc := 51) 0 (by decide +kernel) rfl ?_
      refine r_aload_n (pc := 53) 3 (n := 0) (by decide +kernel) rfl rfl ?_
      obtain ⟨g54, q54, h⟩ := bnd h
      refine r_get (pc := 54) (by decide +kernel) fl_Reducer_68.r (by decide) rfl q54 ?_
      refine r_iload_n (pc := 57) 4 (n := 1) (by decide +kernel) rfl rfl ?_
      refine r_iconst (pc := 58) (z := 1) (by decide +kernel) ⟨by decide, by decide⟩ ?_
      refine r_aload_n (pc := 59) 3 (n := 0) (by decide +kernel) rfl rfl ?_
      obtain ⟨g60, q60, h⟩ := bnd h
      refine r_get (pc := 60) (by decide +kernel) fl_Reducer_64.r (by decide) rfl q60 ?_
      refine r_iload_n (pc := 63) 4 (n := 1) (by decide +kernel) rfl rfl ?_
      obtain ⟨_, q64c, h⟩ := bnd h
      obtain ⟨x64, q64, h⟩ := bnd h
      refine r_callV (pc := 64) (i := 126) (d2 := d - 1) (As := [(0, a1)]) (st := [(0, 1), (0, a1), (2, g54), (2, e48)]) (st1 := [(0, a1), (2, g60), (0, 1), (0, a1), (2, g54), (2, e48)]) (by decide +kernel) yk_Signs_rankOf (by decide) rfl ⟨ml_Reducer_126, vk_Signs_rankOf⟩ np_Signs_rankOf rfl (by omega) q64c (c_Signs_rankOf (d := d - 1) (by omega) q64) (Nat.le_of_ble_eq_true rfl) (Nat.le_of_ble_eq_true rfl) (Nat.le_of_ble_eq_true rfl) rfl ?_
      show Rn _ d _ _ 0 0 _ 67 [(8, (2, e48)), (7, (0, e37)), (6, (0, x22.1)), (0, (2, a0)), (1, (0, a1)), (2, (0, a2)), (3, (0, a3)), (4, (0, a4)), (5, (0, a5))] [(0, x64.1), (0, 1), (0, a1), (2, g54), (2, e48)] x64.2
      refine r_iconst (pc := 67) (z := 2) (by decide +kernel) ⟨by decide, by decide⟩ ?_
      obtain ⟨t68, ht68, h⟩ := bnd h
      have E68_0 : Rn Y_Reducer_addProbe d 0 0 0 0 (none, x) 81 [(0, (2, a0)), (1, (0, a1)), (4, (0, a4)), (6, (0, x22.1)), (7, (0, e37)), (8, (2, e48))] [(0, t68), (0, 1), (0, a1), (2, g54), (2, e48)] x64.2 := by
        obtain ⟨_, q81c, h⟩ := bnd h
        obtain ⟨x81, q81, h⟩ := bnd h
        refine r_callV (pc := 81) (i := 146) (d2 := d - 1) (As := [(2, g54), (0, a1), (0, 1), (0, t68)]) (st := []) (st1 := [(0, t68), (0, 1), (0, a1), (2, g54), (2, e48)]) (by decide +kernel) yk_Step_load (by decide) rfl ⟨ml_Reducer_146, vk_Step_load⟩ np_Step_load rfl (by omega) q81c (c_Step_load (d := d - 1) (by omega) q81) (Nat.le_of_ble_eq_true rfl) (Nat.le_of_ble_eq_true rfl) (Nat.le_of_ble_eq_true rfl) rfl ?_
        show Rn _ d _ _ 0 0 _ 84 [(0, (2, a0)), (1, (0, a1)), (4, (0, a4)), (6, (0, x22.1)), (7, (0, e37)), (8, (2, e48))] [] x81
        refine r_aload_n (pc := 84) 0 (n := 0) (by decide +kernel) rfl rfl ?_
        refine r_aload (pc := 85) 5 (by decide +kernel) rfl ?_
        refine r_iload (pc := 87) 4 (by decide +kernel) rfl ?_
        obtain ⟨_, q89c, h⟩ := bnd h
        obtain ⟨x89, q89, h⟩ := bnd h
        refine r_callV (pc := 89) (i := 112) (d2 := d - 1) (As := [(0, e37)]) (st := [(2, a0)]) (st1 := [(0, e37), (2, e48), (2, a0)]) (by decide +kernel) yk_Step_from (by decide) rfl ⟨ml_Reducer_112, vk_Step_from⟩ np_Step_from rfl (by omega) q89c (c_Step_from (d := d - 1) (by omega) q89) (Nat.le_of_ble_eq_true rfl) (Nat.le_of_ble_eq_true rfl) (Nat.le_of_ble_eq_true rfl) rfl ?_
        show Rn _ d _ _ 0 0 _ 92 [(0, (2, a0)), (1, (0, a1)), (4, (0, a4)), (6, (0, x22.1)), (7, (0, e37)), (8, (2, e48))] [(0, x89.1), (2, a0)] x89.2
        obtain ⟨_, q92c, h⟩ := bnd h
        obtain ⟨x92, q92, h⟩ := bnd h
        refine r_callV (pc := 92) (i := 104) (d2 := d - 1) (As := [(0, x89.1)]) (st := []) (st1 := [(0, x89.1), (2, a0)]) (by decide +kernel) yk_Reducer_marksOf (by decide) rfl ⟨ml_Reducer_104, vk_Reducer_marksOf⟩ np_Reducer_marksOf rfl (by omega) q92c (c_Reducer_marksOf (d := d - 1) (by omega) q92) (Nat.le_of_ble_eq_true rfl) (Nat.le_of_ble_eq_true rfl) (Nat.le_of_ble_eq_true rfl) rfl ?_
        show Rn _ d _ _ 0 0 _ 95 [(0, (2, a0)), (1, (0, a1)), (4, (0, a4)), (6, (0, x22.1)), (7, (0, e37)), (8, (2, e48))] [(0, x92.1)] x92.2
        refine r_iload (pc := 95) 2 (by decide +kernel) rfl ?_
        refine r_ixor (pc := 97) (by decide +kernel) ?_
        obtain ⟨u9_98, q98, h⟩ := lt_o h
        refine r_eq q98 ?_
        refine r_istore (pc := 98) (lv' := [(9, (0, u9_98)), (0, (2, a0)), (1, (0, a1)), (4, (0, a4)), (6, (0, x22.1)), (7, (0, e37)), (8, (2, e48))]) (by decide +kernel) (Nat.le_of_ble_eq_true rfl) rfl ?_
        refine r_iload (pc := 100) 0 (by decide +kernel) rfl ?_
        refine r_iload (pc := 102) 4 (by decide +kernel) rfl ?_
        refine r_ishr (pc := 104) (by decide +kernel) ?_
        refine r_iconst (pc := 105) (z := 1) (by decide +kernel) ⟨by decide, by decide⟩ ?_
        refine r_iand (pc := 106) (by decide +kernel) ?_
        obtain ⟨t107, ht107, h⟩ := bnd h
        have E107_0 : Rn Y_Reducer_addProbe d 0 0 0 0 (none, x) 123 [(0, (2, a0)), (6, (0, x22.1))] [] t107 := by
          refine r_aload_n (pc := 123) 0 (n := 0) (by decide +kernel) rfl rfl ?_
          obtain ⟨g124, q124, h⟩ := bnd h
          refine r_get (pc := 124) (by decide +kernel) fl_Reducer_50.r (by decide) rfl q124 ?_
          refine r_aload_n (pc := 127) 0 (n := 0) (by decide +kernel) rfl rfl ?_
          obtain ⟨g128, q128, h⟩ := bnd h
          refine r_get (pc := 128) (by decide +kernel) fl_Reducer_53.r (by decide) rfl q128 ?_
          refine r_iload (pc := 131) 1 (by decide +kernel) rfl ?_
          obtain ⟨m133, q133, h⟩ := bnd h
          refine r_iast (pc := 133) (by decide +kernel) q133 ?_
          refine r_aload_n (pc := 134) 0 (n := 0) (by decide +kernel) rfl rfl ?_
          refine r_dup (pc := 135) (by decide +kernel) rfl ?_
          obtain ⟨g136, q136, h⟩ := bnd h
          refine r_get (pc := 136) (by decide +kernel) fl_Reducer_53.r (by decide) rfl q136 ?_
          refine r_iconst (pc := 139) (z := 1) (by decide +kernel) ⟨by decide, by decide⟩ ?_
          refine r_iadd (pc := 140) (by decide +kernel) ?_
          obtain ⟨m141, q141, h⟩ := bnd h
          refine r_put (pc := 141) (by decide +kernel) fl_Reducer_53 (by decide) (Or.inr nf_3_14) rfl (fun h3 => by cases h3) q141 ?_
          obtain rfl := Option.some.inj h
          exact r_ret (pc := 144) (r := none) (by decide +kernel) rfl trivial (Nat.le_of_ble_eq_true rfl) (Nat.le_of_ble_eq_true rfl)
        refine r_if_ne (pc := 107) (off := 16) (tgt := 123) (by decide +kernel) (by decide) (fun c107 => ?_) (fun c107 => ?_)
        · have ht107 := ite_f c107 ht107
          obtain rfl := Option.some.inj ht107
          refine r_lv [1, 4] rfl ?_
          exact E107_0
        · have ht107 := ite_t c107 ht107
          refine r_aload (pc := 110) 6 (by decide +kernel) rfl ?_
          refine r_aload_n (pc := 112) 1 (n := 0) (by decide +kernel) rfl rfl ?_
          obtain ⟨g113, q113, ht107⟩ := bnd ht107
          refine r_get (pc := 113) (by decide +kernel) fl_Reducer_68.r (by decide) rfl q113 ?_
          refine r_iload_n (pc := 116) 2 (n := 1) (by decide +kernel) rfl rfl ?_
          refine r_iconst (pc := 117) (z := 0) (by decide +kernel) ⟨by decide, by decide⟩ ?_
          refine r_iload (pc := 118) 5 (by decide +kernel) rfl ?_
          obtain ⟨_, q120c, ht107⟩ := bnd ht107
          obtain ⟨x120, q120, ht107⟩ := bnd ht107
          refine r_callV (pc := 120) (i := 146) (d2 := d - 1) (As := [(2, g113), (0, a1), (0, 0), (0, e37)]) (st := []) (st1 := [(0, e37), (0, 0), (0, a1), (2, g113), (2, e48)]) (by decide +kernel) yk_Step_load (by decide) rfl ⟨ml_Reducer_146, vk_Step_load⟩ np_Step_load rfl (by omega) q120c (c_Step_load (d := d - 1) (by omega) q120) (Nat.le_of_ble_eq_true rfl) (Nat.le_of_ble_eq_true rfl) (Nat.le_of_ble_eq_true rfl) rfl ?_
          show Rn _ d _ _ 0 0 _ 123 [(9, (0, u9_98)), (0, (2, a0)), (1, (0, a1)), (4, (0, a4)), (6, (0, x22.1)), (7, (0, e37)), (8, (2, e48))] [] x120
          obtain rfl := Option.some.inj ht107
          refine r_lv [1, 4] rfl ?_
          exact E107_0
      refine r_icmp_ne (pc := 68) (off := 12) (tgt := 80) (by decide +kernel) (by decide) (fun c68 => ?_) (fun c68 => ?_)
      · have ht68 := ite_f c68 ht68
        refine r_iconst (pc := 80) (z := 1) (by decide +kernel) ⟨by decide, by decide⟩ ?_
        obtain rfl := Option.some.inj ht68
        refine r_lv [3, 4, 7, 2, 1, 0] rfl ?_
        exact E68_0
      · have ht68 := ite_t c68 ht68
        refine r_aload_n (pc := 71) 3 (n := 0) (by decide +kernel) rfl rfl ?_
        obtain ⟨g72, q72, ht68⟩ := bnd ht68
        refine r_get (pc := 72) (by decide +kernel) fl_Reducer_9.r (by decide) rfl q72 ?_
        refine r_iload_n (pc := 75) 6 (n := 3) (by decide +kernel) rfl rfl ?_
        obtain ⟨e76, q76, ht68⟩ := bnd ht68
        refine r_iald (pc := 76) (by decide +kernel) q76 ?_
        refine r_goto (pc := 77) (off := 4) (tgt := 81) (by decide +kernel) (by decide) ?_
        obtain rfl := Option.some.inj ht68
        refine r_lv [3, 4, 7, 2, 1, 0] rfl ?_
        exact E68_0
    · have h := ite_t c13 h
      obtain rfl := Option.some.inj h
      exact r_ret (pc := 16) (r := none) (by decide +kernel) rfl trivial (Nat.le_of_ble_eq_true rfl) (Nat.le_of_ble_eq_true rfl)

/-! TreeTongues$Reducer.agrees(IIII)Z -/
noncomputable def D_Reducer_agrees (a0 a1 a2 a3 a4 : Int) (M : Mem) : Option (Int × Mem) := (ck M a0 3 17).bind fun _ => (D_Reducer_reach a0 a4 M).bind fun x3 => if x3.1 = (-1) then (some (0, x3.2)) else ((gf x3.2 a0 3 17 0).bind fun g17 => (gf x3.2 a0 3 17 4).bind fun g22 => (rd x3.2 10 g22 a2).bind fun e26 => (gf x3.2 a0 3 17 4).bind fun g28 => (rd x3.2 10 g28 a3).bind fun e32 => (ck x3.2 g17 5 3).bind fun _ => (D_Signs_cell g17 a1 e26 e32 6 x3.2).bind fun x35 => (gf x35.2 a0 3 17 9).bind fun g41 => (rd x35.2 10 g41 x35.1).bind fun e46 => (if e46 = (-1) then ((gf x35.2 a0 3 17 9).bind fun g52 => (gf x35.2 a0 3 17 4).bind fun g58 => (rd x35.2 10 g58 x3.1).bind fun e63 => (wt x35.2 10 g52 x35.1 e63).bind fun m64 => some m64) else (some x35.2)).bind fun (t48 : Mem) => (gf t48 a0 3 17 9).bind fun g66 => (rd t48 10 g66 x35.1).bind fun e71 => (gf t48 a0 3 17 4).bind fun g73 => (rd t48 10 g73 x3.1).bind fun e78 => if e71 = e78 then (some (1, t48)) else ((gf t48 a0 3 17 3).bind fun g89 => (rd t48 10 g89 x3.1).bind fun e94 => (gf t48 a0 3 17 8).bind fun g96 => (gf t48 a0 3 17 9).bind fun g100 => (rd t48 10 g100 x35.1).bind fun e105 => (rd t48 10 g96 e105).bind fun e106 => (ck t48 a0 3 17).bind fun _ => (D_Reducer_addProbe a0 a1 a2 a3 e94 e106 t48).bind fun x107 => some (0, x107)))
theorem c_Reducer_agrees {d : Nat} (hd : 4 ≤ d) {a0 a1 a2 a3 a4 : Int} {M : Mem} {x : Int × Mem} (h : D_Reducer_agrees a0 a1 a2 a3 a4 M = some x) : Ct d Y_Reducer_agrees [(2, a0), (0, a1), (0, a2), (0, a3), (0, a4)] M (some (0, x.1), x.2) 0 0 := by
  refine ct_of yk_Reducer_agrees (Nat.le_of_ble_eq_true rfl) ?_
  rw [D_Reducer_agrees] at h
  show Rn Y_Reducer_agrees d 0 0 0 0 (some (0, x.1), x.2) 0 [(0, (2, a0)), (1, (0, a1)), (2, (0, a2)), (3, (0, a3)), (4, (0, a4))] [] M
  refine r_aload_n (pc := 0) 0 (n := 0) (by decide +kernel) rfl rfl ?_
  refine r_iload (pc := 1) 4 (by decide +kernel) rfl ?_
  obtain ⟨_, q3c, h⟩ := bnd h
  obtain ⟨x3, q3, h⟩ := bnd h
  refine r_callV (pc := 3) (i := 132) (d2 := d - 1) (As := [(0, a4)]) (st := []) (st1 := [(0, a4), (2, a0)]) (by decide +kernel) yk_Reducer_reach (by decide) rfl ⟨ml_Reducer_132, vk_Reducer_reach⟩ np_Reducer_reach rfl (by omega) q3c (c_Reducer_reach (d := d - 1) (by omega) q3) (Nat.le_of_ble_eq_true rfl) (Nat.le_of_ble_eq_true rfl) (Nat.le_of_ble_eq_true rfl) rfl ?_
  show Rn _ d _ _ 0 0 _ 6 [(0, (2, a0)), (1, (0, a1)), (2, (0, a2)), (3, (0, a3)), (4, (0, a4))] [(0, x3.1)] x3.2
  refine r_istore (pc := 6) (lv' := [(5, (0, x3.1)), (0, (2, a0)), (1, (0, a1)), (2, (0, a2)), (3, (0, a3)), (4, (0, a4))]) (by decide +kernel) (Nat.le_of_ble_eq_true rfl) rfl ?_
  refine r_iload (pc := 8) 0 (by decide +kernel) rfl ?_
  refine r_iconst (pc := 10) (z := (-1)) (by decide +kernel) ⟨by decide, by decide⟩ ?_
  refine r_icmp_ne (pc := 11) (off := 5) (tgt := 16) (by decide +kernel) (by decide) (fun c11 => ?_) (fun c11 => ?_)
  · have h := ite_f c11 h
    refine r_aload_n (pc := 16) 1 (n := 0) (by decide +kernel) rfl rfl ?_
    obtain ⟨g17, q17, h⟩ := bnd h
    refine r_get (pc := 17) (by decide +kernel) fl_Reducer_64.r (by decide) rfl q17 ?_
    refine r_iload_n (pc := 20) 2 (n := 1) (by decide +kernel) rfl rfl ?_
    refine r_aload_n (pc := 21) 1 (n := 0) (by decide +kernel) rfl rfl ?_
    obtain ⟨g22, q22, h⟩ := bnd h
    refine r_get (pc := 22) (by decide +kernel) fl_Reducer_18.r (by decide) rfl q22 ?_
    refine r_iload_n (pc := 25) 3 (n := 2) (by decide +kernel) rfl rfl ?_
    obtain ⟨e26, q26, h⟩ := bnd h
    refine r_iald (pc := 26) (by decide +kernel) q26 ?_
    refine r_aload_n (pc := 27) 1 (n := 0) (by decide +kernel) rfl rfl ?_
    obtain ⟨g28, q28, h⟩ := bnd h
    refine r_get (pc := 28) (by decide +kernel) fl_Reducer_18.r (by decide) rfl q28 ?_
    refine r_iload_n (pc := 31) 4 (n := 3) (by decide +kernel) rfl rfl ?_
    obtain ⟨e32, q32, h⟩ := bnd h
    refine r_iald (pc := 32) (by decide +kernel) q32 ?_
    refine r_bipush (pc := 33) (z := 6) (by decide +kernel) ⟨by decide, by decide⟩ ?_
    obtain ⟨_, q35c, h⟩ := bnd h
    obtain ⟨x35, q35, h⟩ := bnd h
    refine r_callV (pc := 35) (i := 135) (d2 := d - 1) (As := [(0, a1), (0, e26), (0, e32), (0, 6)]) (st := []) (st1 := [(0, 6), (0, e32), (0, e26), (0, a1), (2, g17)]) (by decide +kernel) yk_Signs_cell (by decide) rfl ⟨ml_Reducer_135, vk_Signs_cell⟩ np_Signs_cell rfl (by omega) q35c (c_Signs_cell (d := d - 1) (by omega) q35) (Nat.le_of_ble_eq_true rfl) (Nat.le_of_ble_eq_true rfl) (Nat.le_of_ble_eq_true rfl) rfl ?_
    show Rn _ d _ _ 0 0 _ 38 [(5, (0, x3.1)), (0, (2, a0)), (1, (0, a1)), (2, (0, a2)), (3, (0, a3)), (4, (0, a4))] [(0, x35.1)] x35.2
    refine r_istore (pc := 38) (lv' := [(6, (0, x35.1)), (5, (0, x3.1)), (0, (2, a0)), (1, (0, a1)), (2, (0, a2)), (3, (0, a3)), (4, (0, a4))]) (by decide +kernel) (Nat.le_of_ble_eq_true rfl) rfl ?_
    refine r_aload_n (pc := 40) 2 (n := 0) (by decide +kernel) rfl rfl ?_
    obtain ⟨g41, q41, h⟩ := bnd h
    refine r_get (pc := 41) (by decide +kernel) fl_Reducer_34.r (by decide) rfl q41 ?_
    refine r_iload (pc := 44) 0 (by decide +kernel) rfl ?_
    obtain ⟨e46, q46, h⟩ := bnd h
    refine r_iald (pc := 46) (by decide +kernel) q46 ?_
    refine r_iconst (pc := 47) (z := (-1)) (by decide +kernel) ⟨by decide, by decide⟩ ?_
    obtain ⟨t48, ht48, h⟩ := bnd h
    have E48_0 : Rn Y_Reducer_agrees d 0 0 0 0 (some (0, x.1), x.2) 65 [(0, (2, a0)), (1, (0, a1)), (2, (0, a2)), (3, (0, a3)), (5, (0, x3.1)), (6, (0, x35.1))] [] t48 := by
      refine r_aload_n (pc := 65) 0 (n := 0) (by decide +kernel) rfl rfl ?_
      obtain ⟨g66, q66, h⟩ := bnd h
      refine r_get (pc := 66) (by decide +kernel) fl_Reducer_34.r (by decide) rfl q66 ?_
      refine r_iload (pc := 69) 5 (by decide +kernel) rfl ?_
      obtain ⟨e71, q71, h⟩ := bnd h
      refine r_iald (pc := 71) (by decide +kernel) q71 ?_
      refine r_aload_n (pc := 72) 0 (n := 0) (by decide +kernel) rfl rfl ?_
      obtain ⟨g73, q73, h⟩ := bnd h
      refine r_get (pc := 73) (by decide +kernel) fl_Reducer_18.r (by decide) rfl q73 ?_
      refine r_iload (pc := 76) 4 (by decide +kernel) rfl ?_
      obtain ⟨e78, q78, h⟩ := bnd h
      refine r_iald (pc := 78) (by decide +kernel) q78 ?_
      refine r_icmp_ne (pc := 79) (off := 5) (tgt := 84) (by decide +kernel) (by decide) (fun c79 => ?_) (fun c79 => ?_)
      · have h := ite_f c79 h
        refine r_aload_n (pc := 84) 0 (n := 0) (by decide +kernel) rfl rfl ?_
        refine r_iload_n (pc := 85) 1 (n := 1) (by decide +kernel) rfl rfl ?_
        refine r_iload_n (pc := 86) 2 (n := 2) (by decide +kernel) rfl rfl ?_
        refine r_iload_n (pc := 87) 3 (n := 3) (by decide +kernel) rfl rfl ?_
        refine r_aload_n (pc := 88) 0 (n := 0) (by decide +kernel) rfl rfl ?_
        obtain ⟨g89, q89, h⟩ := bnd h
        refine r_get (pc := 89) (by decide +kernel) fl_Reducer_15.r (by decide) rfl q89 ?_
        refine r_iload (pc := 92) 4 (by decide +kernel) rfl ?_
        obtain ⟨e94, q94, h⟩ := bnd h
        refine r_iald (pc := 94) (by decide +kernel) q94 ?_
        refine r_aload_n (pc := 95) 0 (n := 0) (by decide +kernel) rfl rfl ?_
        obtain ⟨g96, q96, h⟩ := bnd h
        refine r_get (pc := 96) (by decide +kernel) fl_Reducer_31.r (by decide) rfl q96 ?_
        refine r_aload_n (pc := 99) 0 (n := 0) (by decide +kernel) rfl rfl ?_
        obtain ⟨g100, q100, h⟩ := bnd h
        refine r_get (pc := 100) (by decide +kernel) fl_Reducer_34.r (by decide) rfl q100 ?_
        refine r_iload (pc := 103) 5 (by decide +kernel) rfl ?_
        obtain ⟨e105, q105, h⟩ := bnd h
        refine r_iald (pc := 105) (by decide +kernel) q105 ?_
        obtain ⟨e106, q106, h⟩ := bnd h
        refine r_iald (pc := 106) (by decide +kernel) q106 ?_
        obtain ⟨_, q107c, h⟩ := bnd h
        obtain ⟨x107, q107, h⟩ := bnd h
        refine r_callV (pc := 107) (i := 150) (d2 := d - 1) (As := [(0, a1), (0, a2), (0, a3), (0, e94), (0, e106)]) (st := []) (st1 := [(0, e106), (0, e94), (0, a3), (0, a2), (0, a1), (2, a0)]) (by decide +kernel) yk_Reducer_addProbe (by decide) rfl ⟨ml_Reducer_150, vk_Reducer_addProbe⟩ np_Reducer_addProbe rfl (by omega) q107c (c_Reducer_addProbe (d := d - 1) (by omega) q107) (Nat.le_of_ble_eq_true rfl) (Nat.le_of_ble_eq_true rfl) (Nat.le_of_ble_eq_true rfl) rfl ?_
        show Rn _ d _ _ 0 0 _ 110 [(0, (2, a0)), (1, (0, a1)), (2, (0, a2)), (3, (0, a3)), (5, (0, x3.1)), (6, (0, x35.1))] [] x107
        refine r_iconst (pc := 110) (z := 0) (by decide +kernel) ⟨by decide, by decide⟩ ?_
        obtain rfl := Option.some.inj h
        exact r_ret (pc := 111) (r := some (0, 0)) (by decide +kernel) rfl (Or.inl rfl) (Nat.le_of_ble_eq_true rfl) (Nat.le_of_ble_eq_true rfl)
      · have h := ite_t c79 h
        refine r_iconst (pc := 82) (z := 1) (by decide +kernel) ⟨by decide, by decide⟩ ?_
        obtain rfl := Option.some.inj h
        exact r_ret (pc := 83) (r := some (0, 1)) (by decide +kernel) rfl (Or.inr rfl) (Nat.le_of_ble_eq_true rfl) (Nat.le_of_ble_eq_true rfl)
    refine r_icmp_ne (pc := 48) (off := 17) (tgt := 65) (by decide +kernel) (by decide) (fun c48 => ?_) (fun c48 => ?_)
    · have ht48 := ite_f c48 ht48
      obtain rfl := Option.some.inj ht48
      refine r_lv [2, 3, 4, 5, 1, 0] rfl ?_
      exact E48_0
    · have ht48 := ite_t c48 ht48
      refine r_aload_n (pc := 51) 2 (n := 0) (by decide +kernel) rfl rfl ?_
      obtain ⟨g52, q52, ht48⟩ := bnd ht48
      refine r_get (pc := 52) (by decide +kernel) fl_Reducer_34.r (by decide) rfl q52 ?_
      refine r_iload (pc := 55) 0 (by decide +kernel) rfl ?_
      refine r_aload_n (pc := 57) 2 (n := 0) (by decide +kernel) rfl rfl ?_
      obtain ⟨g58, q58, ht48⟩ := bnd ht48
      refine r_get (pc := 58) (by decide +kernel) fl_Reducer_18.r (by decide) rfl q58 ?_
      refine r_iload (pc := 61) 1 (by decide +kernel) rfl ?_
      obtain ⟨e63, q63, ht48⟩ := bnd ht48
      refine r_iald (pc := 63) (by decide +kernel) q63 ?_
      obtain ⟨m64, q64, ht48⟩ := bnd ht48
      refine r_iast (pc := 64) (by decide +kernel) q64 ?_
      obtain rfl := Option.some.inj ht48
      refine r_lv [2, 3, 4, 5, 1, 0] rfl ?_
      exact E48_0
  · have h := ite_t c11 h
    refine r_iconst (pc := 14) (z := 0) (by decide +kernel) ⟨by decide, by decide⟩ ?_
    obtain rfl := Option.some.inj h
    exact r_ret (pc := 15) (r := some (0, 0)) (by decide +kernel) rfl (Or.inl rfl) (Nat.le_of_ble_eq_true rfl) (Nat.le_of_ble_eq_true rfl)

/-! TreeTongues$Reducer.reachAll()Z -/
noncomputable def L_Reducer_reachAll_116 (k : Mem → Option (Int × Mem)) (v0 : Int) (v1 : Int) (v2 : Int) (v3 : Int) : Nat → Int → Mem → Option (Int × Mem)
  | 0 => fun _ _ => none
  | n + 1 => fun v4 M => (if v3 = 2 then (if v1 < v4 then (some 0) else (some 1)) else (some 0)).bind fun (t118 : Int) => if t118 = 0 then (k  M) else ((gf M v0 3 17 15).bind fun g133 => (gf M v0 3 17 2).bind fun g137 => (rd M 10 g137 v4).bind fun e142 => (ck M g133 6 2).bind fun _ => (D_Step_from g133 e142 M).bind fun x143 => (ck x143.2 v0 3 17).bind fun _ => (D_Reducer_agrees v0 v2 v4 v1 x143.1 x143.2).bind fun x146 => if x146.1 = 0 then (some (0, x146.2)) else ((gf x146.2 v0 3 17 16).bind fun g158 => (gf x146.2 v0 3 17 2).bind fun g162 => (rd x146.2 10 g162 v4).bind fun e167 => (ck x146.2 g158 6 2).bind fun _ => (D_Step_from g158 e167 x146.2).bind fun x168 => (ck x168.2 v0 3 17).bind fun _ => (D_Reducer_agrees v0 v2 v1 v4 x168.1 x168.2).bind fun x171 => if x171.1 = 0 then (some (0, x171.2)) else (L_Reducer_reachAll_116 k v0 v1 v2 v3 n (wr (v4 + 1)) x171.2)))
noncomputable def L_Reducer_reachAll_19 (k : Mem → Option (Int × Mem)) (v0 : Int) (v1 : Int) : Nat → Int → Mem → Option (Int × Mem)
  | 0 => fun _ _ => none
  | n + 1 => fun v2 M => (gf M v0 3 17 0).bind fun g21 => (gf M g21 5 3 1).bind fun g24 => if g24 ≤ v2 then (k  M) else ((gf M v0 3 17 0).bind fun g31 => (ck M g31 5 3).bind fun _ => (D_Signs_rankOf g31 v2 M).bind fun x35 => (if x35.1 = 1 then ((gf x35.2 v0 3 17 1).bind fun g49 => (gf x35.2 v0 3 17 2).bind fun g54 => (rd x35.2 10 g54 v1).bind fun e58 => (ck x35.2 g49 2 6).bind fun _ => (D_Net_imageAlone g49 v2 e58 x35.2).bind fun x59 => (ck x59.2 v0 3 17).bind fun _ => (D_Reducer_agrees v0 v2 v1 v1 x59.1 x59.2).bind fun x62 => if x62.1 = 0 then (some (1, x62.2)) else (some (0, x62.2))) else (some (0, x35.2))).bind fun (t41 : Int × Mem) => if t41.1 = 0 then ((if x35.1 = 2 then ((gf t41.2 v0 3 17 15).bind fun g76 => (gf t41.2 v0 3 17 1).bind fun g80 => (gf t41.2 v0 3 17 2).bind fun g86 => (rd t41.2 10 g86 v1).bind fun e90 => (ck t41.2 g76 6 2).bind fun _ => (D_Step_load g76 g80 v2 1 e90 t41.2).bind fun x91 => (gf x91 v0 3 17 16).bind fun g95 => (gf x91 v0 3 17 1).bind fun g99 => (gf x91 v0 3 17 2).bind fun g105 => (rd x91 10 g105 v1).bind fun e109 => (ck x91 g95 6 2).bind fun _ => (D_Step_load g95 g99 v2 0 e109 x91).bind fun x110 => some x110) else (some t41.2)).bind fun (t72 : Mem) => L_Reducer_reachAll_116 (fun  m116 => L_Reducer_reachAll_19 k v0 v1 n (wr (v2 + 1)) m116) v0 v1 v2 x35.1 FU 0 t72) else (some (0, t41.2)))
noncomputable def L_Reducer_reachAll_2 (k : Mem → Option (Int × Mem)) (v0 : Int) : Nat → Int → Mem → Option (Int × Mem)
  | 0 => fun _ _ => none
  | n + 1 => fun v1 M => (gf M v0 3 17 6).bind fun g4 => if g4 ≤ v1 then (k  M) else (if 384 ≤ v1 then (k  M) else (L_Reducer_reachAll_19 (fun  m19 => L_Reducer_reachAll_2 k v0 n (wr (v1 + 1)) m19) v0 v1 FU 0 M))
noncomputable def D_Reducer_reachAll (a0 : Int) (M : Mem) : Option (Int × Mem) := L_Reducer_reachAll_2 (fun  m2 => some (1, m2)) a0 FU 0 M
theorem sL_Reducer_reachAll_116 {d mc ms : Nat} (hd : 5 ≤ d) {r : Int × Mem} {k : Mem → Option (Int × Mem)} {v0 : Int} {v1 : Int} {v2 : Int} {v3 : Int} (hk : ∀ (M : Mem), k M = some r → Rn Y_Reducer_reachAll d mc ms 0 0 (some (0, r.1), r.2) 185 [(0, (2, v0)), (1, (0, v1)), (2, (0, v2))] [] M) : ∀ (n : Nat) (v4 : Int) (M : Mem), L_Reducer_reachAll_116 k v0 v1 v2 v3 n v4 M = some r → Rn Y_Reducer_reachAll d mc ms 0 0 (some (0, r.1), r.2) 116 [(0, (2, v0)), (1, (0, v1)), (2, (0, v2)), (3, (0, v3)), (4, (0, v4))] [] M := by
  intro n
  induction n with
  | zero => intro _ _ h; cases h
  | succ n ih =>
    intro v4 M h
    rw [L_Reducer_reachAll_116] at h
    refine r_iload_n (pc := 116) 3 (n := 3) (by decide +kernel) rfl rfl ?_
    refine r_iconst (pc := 117) (z := 2) (by decide +kernel) ⟨by decide, by decide⟩ ?_
    obtain ⟨t118, ht118, h⟩ := bnd h
    have E118_0 : t118 = 0 → Rn Y_Reducer_reachAll d mc ms 0 0 (some (0, r.1), r.2) 185 [(0, (2, v0)), (1, (0, v1)), (2, (0, v2))] [] M := by
      intro y0
      have h := ite_t y0 h
      exact hk  M h
    have E118_1 : ¬ t118 = 0 → Rn Y_Reducer_reachAll d mc ms 0 0 (some (0, r.1), r.2) 127 [(0, (2, v0)), (1, (0, v1)), (2, (0, v2)), (3, (0, v3)), (4, (0, v4))] [] M := by
      intro n0
      have h := ite_f n0 h
      refine r_aload_n (pc := 127) 0 (n := 0) (by decide +kernel) rfl rfl ?_
      refine r_iload_n (pc := 128) 2 (n := 2) (by decide +kernel) rfl rfl ?_
      refine r_iload (pc := 129) 4 (by decide +kernel) rfl ?_
      refine r_iload_n (pc := 131) 1 (n := 1) (by decide +kernel) rfl rfl ?_
      refine r_aload_n (pc := 132) 0 (n := 0) (by decide +kernel) rfl rfl ?_
      obtain ⟨g133, q133, h⟩ := bnd h
      refine r_get (pc := 133) (by decide +kernel) fl_Reducer_57.r (by decide) rfl q133 ?_
      refine r_aload_n (pc := 136) 0 (n := 0) (by decide +kernel) rfl rfl ?_
      obtain ⟨g137, q137, h⟩ := bnd h
      refine r_get (pc := 137) (by decide +kernel) fl_Reducer_9.r (by decide) rfl q137 ?_
      refine r_iload (pc := 140) 4 (by decide +kernel) rfl ?_
      obtain ⟨e142, q142, h⟩ := bnd h
      refine r_iald (pc := 142) (by decide +kernel) q142 ?_
      obtain ⟨_, q143c, h⟩ := bnd h
      obtain ⟨x143, q143, h⟩ := bnd h
      refine r_callV (pc := 143) (i := 112) (d2 := d - 1) (As := [(0, e142)]) (st := [(0, v1), (0, v4), (0, v2), (2, v0)]) (st1 := [(0, e142), (2, g133), (0, v1), (0, v4), (0, v2), (2, v0)]) (by decide +kernel) yk_Step_from (by decide) rfl ⟨ml_Reducer_112, vk_Step_from⟩ np_Step_from rfl (by omega) q143c (c_Step_from (d := d - 1) (by omega) q143) (Nat.le_of_ble_eq_true rfl) (Nat.le_of_ble_eq_true rfl) (Nat.le_of_ble_eq_true rfl) rfl ?_
      show Rn _ d _ _ 0 0 _ 146 [(0, (2, v0)), (1, (0, v1)), (2, (0, v2)), (3, (0, v3)), (4, (0, v4))] [(0, x143.1), (0, v1), (0, v4), (0, v2), (2, v0)] x143.2
      obtain ⟨_, q146c, h⟩ := bnd h
      obtain ⟨x146, q146, h⟩ := bnd h
      refine r_callV (pc := 146) (i := 142) (d2 := d - 1) (As := [(0, v2), (0, v4), (0, v1), (0, x143.1)]) (st := []) (st1 := [(0, x143.1), (0, v1), (0, v4), (0, v2), (2, v0)]) (by decide +kernel) yk_Reducer_agrees (by decide) rfl ⟨ml_Reducer_142, vk_Reducer_agrees⟩ np_Reducer_agrees rfl (by omega) q146c (c_Reducer_agrees (d := d - 1) (by omega) q146) (Nat.le_of_ble_eq_true rfl) (Nat.le_of_ble_eq_true rfl) (Nat.le_of_ble_eq_true rfl) rfl ?_
      show Rn _ d _ _ 0 0 _ 149 [(0, (2, v0)), (1, (0, v1)), (2, (0, v2)), (3, (0, v3)), (4, (0, v4))] [(0, x146.1)] x146.2
      refine r_if_eq (pc := 149) (off := 28) (tgt := 177) (by decide +kernel) (by decide) (fun c149 => ?_) (fun c149 => ?_)
      · have h := ite_t c149 h
        refine r_iconst (pc := 177) (z := 0) (by decide +kernel) ⟨by decide, by decide⟩ ?_
        obtain rfl := Option.some.inj h
        exact r_ret (pc := 178) (r := some (0, 0)) (by decide +kernel) rfl (Or.inl rfl) (Nat.le_of_ble_eq_true rfl) (Nat.le_of_ble_eq_true rfl)
      · have h := ite_f c149 h
        refine r_aload_n (pc := 152) 0 (n := 0) (by decide +kernel) rfl rfl ?_
        refine r_iload_n (pc := 153) 2 (n := 2) (by decide +kernel) rfl rfl ?_
        refine r_iload_n (pc := 154) 1 (n := 1) (by decide +kernel) rfl rfl ?_
        refine r_iload (pc := 155) 4 (by decide +kernel) rfl ?_
        refine r_aload_n (pc := 157) 0 (n := 0) (by decide +kernel) rfl rfl ?_
        obtain ⟨g158, q158, h⟩ := bnd h
        refine r_get (pc := 158) (by decide +kernel) fl_Reducer_61.r (by decide) rfl q158 ?_
        refine r_aload_n (pc := 161) 0 (n := 0) (by decide +kernel) rfl rfl ?_
        obtain ⟨g162, q162, h⟩ := bnd h
        refine r_get (pc := 162) (by decide +kernel) fl_Reducer_9.r (by decide) rfl q162 ?_
        refine r_iload (pc := 165) 4 (by decide +kernel) rfl ?_
        obtain ⟨e167, q167, h⟩ := bnd h
        refine r_iald (pc := 167) (by decide +kernel) q167 ?_
        obtain ⟨_, q168c, h⟩ := bnd h
        obtain ⟨x168, q168, h⟩ := bnd h
        refine r_callV (pc := 168) (i := 112) (d2 := d - 1) (As := [(0, e167)]) (st := [(0, v4), (0, v1), (0, v2), (2, v0)]) (st1 := [(0, e167), (2, g158), (0, v4), (0, v1), (0, v2), (2, v0)]) (by decide +kernel) yk_Step_from (by decide) rfl ⟨ml_Reducer_112, vk_Step_from⟩ np_Step_from rfl (by omega) q168c (c_Step_from (d := d - 1) (by omega) q168) (Nat.le_of_ble_eq_true rfl) (Nat.le_of_ble_eq_true rfl) (Nat.le_of_ble_eq_true rfl) rfl ?_
        show Rn _ d _ _ 0 0 _ 171 [(0, (2, v0)), (1, (0, v1)), (2, (0, v2)), (3, (0, v3)), (4, (0, v4))] [(0, x168.1), (0, v4), (0, v1), (0, v2), (2, v0)] x168.2
        obtain ⟨_, q171c, h⟩ := bnd h
        obtain ⟨x171, q171, h⟩ := bnd h
        refine r_callV (pc := 171) (i := 142) (d2 := d - 1) (As := [(0, v2), (0, v1), (0, v4), (0, x168.1)]) (st := []) (st1 := [(0, x168.1), (0, v4), (0, v1), (0, v2), (2, v0)]) (by decide +kernel) yk_Reducer_agrees (by decide) rfl ⟨ml_Reducer_142, vk_Reducer_agrees⟩ np_Reducer_agrees rfl (by omega) q171c (c_Reducer_agrees (d := d - 1) (by omega) q171) (Nat.le_of_ble_eq_true rfl) (Nat.le_of_ble_eq_true rfl) (Nat.le_of_ble_eq_true rfl) rfl ?_
        show Rn _ d _ _ 0 0 _ 174 [(0, (2, v0)), (1, (0, v1)), (2, (0, v2)), (3, (0, v3)), (4, (0, v4))] [(0, x171.1)] x171.2
        refine r_if_ne (pc := 174) (off := 5) (tgt := 179) (by decide +kernel) (by decide) (fun c174 => ?_) (fun c174 => ?_)
        · have h := ite_f c174 h
          refine r_iinc (pc := 179) 4 (n := 1) (lv' := [(4, (0, wr (v4 + 1))), (0, (2, v0)), (1, (0, v1)), (2, (0, v2)), (3, (0, v3))]) (by decide +kernel) rfl (Nat.le_of_ble_eq_true rfl) rfl ?_
          refine r_goto (pc := 182) (off := (-66)) (tgt := 116) (by decide +kernel) (by decide) ?_
          refine r_lv [1, 2, 3, 4, 0] rfl ?_
          exact ih (wr (v4 + 1)) x171.2 h
        · have h := ite_t c174 h
          refine r_iconst (pc := 177) (z := 0) (by decide +kernel) ⟨by decide, by decide⟩ ?_
          obtain rfl := Option.some.inj h
          exact r_ret (pc := 178) (r := some (0, 0)) (by decide +kernel) rfl (Or.inl rfl) (Nat.le_of_ble_eq_true rfl) (Nat.le_of_ble_eq_true rfl)
    refine r_icmp_ne (pc := 118) (off := 67) (tgt := 185) (by decide +kernel) (by decide) (fun c118 => ?_) (fun c118 => ?_)
    · have ht118 := ite_f c118 ht118
      obtain rfl := Option.some.inj ht118
      refine r_lv [0, 1, 2] rfl ?_
      exact E118_0 rfl
    · have ht118 := ite_t c118 ht118
      refine r_iload (pc := 121) 4 (by decide +kernel) rfl ?_
      refine r_iload_n (pc := 123) 1 (n := 1) (by decide +kernel) rfl rfl ?_
      refine r_icmp_gt (pc := 124) (off := 61) (tgt := 185) (by decide +kernel) (by decide) (fun c124 => ?_) (fun c124 => ?_)
      · have ht118 := ite_t c124 ht118
        obtain rfl := Option.some.inj ht118
        refine r_lv [0, 1, 2] rfl ?_
        exact E118_0 rfl
      · have ht118 := ite_f c124 ht118
        obtain rfl := Option.some.inj ht118
        exact E118_1 (show ¬ (1 : Int) = 0 by decide)
theorem sL_Reducer_reachAll_19 {d mc ms : Nat} (hd : 5 ≤ d) {r : Int × Mem} {k : Mem → Option (Int × Mem)} {v0 : Int} {v1 : Int} (hk : ∀ (M : Mem), k M = some r → Rn Y_Reducer_reachAll d mc ms 0 0 (some (0, r.1), r.2) 191 [(0, (2, v0)), (1, (0, v1))] [] M) : ∀ (n : Nat) (v2 : Int) (M : Mem), L_Reducer_reachAll_19 k v0 v1 n v2 M = some r → Rn Y_Reducer_reachAll d mc ms 0 0 (some (0, r.1), r.2) 19 [(0, (2, v0)), (1, (0, v1)), (2, (0, v2))] [] M := by
  intro n
  induction n with
  | zero => intro _ _ h; cases h
  | succ n ih =>
    intro v2 M h
    rw [L_Reducer_reachAll_19] at h
    refine r_iload_n (pc := 19) 2 (n := 2) (by decide +kernel) rfl rfl ?_
    refine r_aload_n (pc := 20) 0 (n := 0) (by decide +kernel) rfl rfl ?_
    obtain ⟨g21, q21, h⟩ := bnd h
    refine r_get (pc := 21) (by decide +kernel) fl_Reducer_64.r (by decide) rfl q21 ?_
    obtain ⟨g24, q24, h⟩ := bnd h
    refine r_get (pc := 24) (by decide +kernel) fl_Reducer_121.r (by decide) rfl q24 ?_
    refine r_icmp_ge (pc := 27) (off := 164) (tgt := 191) (by decide +kernel) (by decide) (fun c27 => ?_) (fun c27 => ?_)
    · have h := ite_t c27 h
      refine r_lv [0, 1] rfl ?_
      exact hk  M h
    · have h := ite_f c27 h
      refine r_aload_n (pc := 30) 0 (n := 0) (by decide +kernel) rfl rfl ?_
      obtain ⟨g31, q31, h⟩ := bnd h
      refine r_get (pc := 31) (by decide +kernel) fl_Reducer_64.r (by decide) rfl q31 ?_
      refine r_iload_n (pc := 34) 2 (n := 2) (by decide +kernel) rfl rfl ?_
      obtain ⟨_, q35c, h⟩ := bnd h
      obtain ⟨x35, q35, h⟩ := bnd h
      refine r_callV (pc := 35) (i := 126) (d2 := d - 1) (As := [(0, v2)]) (st := []) (st1 := [(0, v2), (2, g31)]) (by decide +kernel) yk_Signs_rankOf (by decide) rfl ⟨ml_Reducer_126, vk_Signs_rankOf⟩ np_Signs_rankOf rfl (by omega) q35c (c_Signs_rankOf (d := d - 1) (by omega) q35) (Nat.le_of_ble_eq_true rfl) (Nat.le_of_ble_eq_true rfl) (Nat.le_of_ble_eq_true rfl) rfl ?_
      show Rn _ d _ _ 0 0 _ 38 [(0, (2, v0)), (1, (0, v1)), (2, (0, v2))] [(0, x35.1)] x35.2
      refine r_istore_n (pc := 38) (n := 3) (lv' := [(3, (0, x35.1)), (0, (2, v0)), (1, (0, v1)), (2, (0, v2))]) (by decide +kernel) rfl (Nat.le_of_ble_eq_true rfl) rfl ?_
      refine r_iload_n (pc := 39) 0 (n := 3) (by decide +kernel) rfl rfl ?_
      refine r_iconst (pc := 40) (z := 1) (by decide +kernel) ⟨by decide, by decide⟩ ?_
      obtain ⟨t41, ht41, h⟩ := bnd h
      have E41_0 : t41.1 = 0 → Rn Y_Reducer_reachAll d mc ms 0 0 (some (0, r.1), r.2) 70 [(0, (2, v0)), (1, (0, v1)), (2, (0, v2)), (3, (0, x35.1))] [] t41.2 := by
        intro y0
        have h := ite_t y0 h
        refine r_iload_n (pc := 70) 3 (n := 3) (by decide +kernel) rfl rfl ?_
        refine r_iconst (pc := 71) (z := 2) (by decide +kernel) ⟨by decide, by decide⟩ ?_
        obtain ⟨t72, ht72, h⟩ := bnd h
        have E72_0 : Rn Y_Reducer_reachAll d mc ms 0 0 (some (0, r.1), r.2) 113 [(0, (2, v0)), (1, (0, v1)), (2, (0, v2)), (3, (0, x35.1))] [] t72 := by
          refine r_iconst (pc := 113) (z := 0) (by decide +kernel) ⟨by decide, by decide⟩ ?_
          refine r_istore (pc := 114) (lv' := [(4, (0, 0)), (0, (2, v0)), (1, (0, v1)), (2, (0, v2)), (3, (0, x35.1))]) (by decide +kernel) (Nat.le_of_ble_eq_true rfl) rfl ?_
          refine r_lv [1, 2, 3, 4, 0] rfl ?_
          refine sL_Reducer_reachAll_116 (by omega) ?_ _ _  _ h
          intro m116 h
          refine r_iinc (pc := 185) 2 (n := 1) (lv' := [(2, (0, wr (v2 + 1))), (0, (2, v0)), (1, (0, v1))]) (by decide +kernel) rfl (Nat.le_of_ble_eq_true rfl) rfl ?_
          refine r_goto (pc := 188) (off := (-169)) (tgt := 19) (by decide +kernel) (by decide) ?_
          refine r_lv [1, 2, 0] rfl ?_
          exact ih (wr (v2 + 1)) m116 h
        refine r_icmp_ne (pc := 72) (off := 41) (tgt := 113) (by decide +kernel) (by decide) (fun c72 => ?_) (fun c72 => ?_)
        · have ht72 := ite_f c72 ht72
          obtain rfl := Option.some.inj ht72
          exact E72_0
        · have ht72 := ite_t c72 ht72
          refine r_aload_n (pc := 75) 0 (n := 0) (by decide +kernel) rfl rfl ?_
          obtain ⟨g76, q76, ht72⟩ := bnd ht72
          refine r_get (pc := 76) (by decide +kernel) fl_Reducer_57.r (by decide) rfl q76 ?_
          refine r_aload_n (pc := 79) 0 (n := 0) (by decide +kernel) rfl rfl ?_
          obtain ⟨g80, q80, ht72⟩ := bnd ht72
          refine r_get (pc := 80) (by decide +kernel) fl_Reducer_68.r (by decide) rfl q80 ?_
          refine r_iload_n (pc := 83) 2 (n := 2) (by decide +kernel) rfl rfl ?_
          refine r_iconst (pc := 84) (z := 1) (by decide +kernel) ⟨by decide, by decide⟩ ?_
          refine r_aload_n (pc := 85) 0 (n := 0) (by decide +kernel) rfl rfl ?_
          obtain ⟨g86, q86, ht72⟩ := bnd ht72
          refine r_get (pc := 86) (by decide +kernel) fl_Reducer_9.r (by decide) rfl q86 ?_
          refine r_iload_n (pc := 89) 1 (n := 1) (by decide +kernel) rfl rfl ?_
          obtain ⟨e90, q90, ht72⟩ := bnd ht72
          refine r_iald (pc := 90) (by decide +kernel) q90 ?_
          obtain ⟨_, q91c, ht72⟩ := bnd ht72
          obtain ⟨x91, q91, ht72⟩ := bnd ht72
          refine r_callV (pc := 91) (i := 146) (d2 := d - 1) (As := [(2, g80), (0, v2), (0, 1), (0, e90)]) (st := []) (st1 := [(0, e90), (0, 1), (0, v2), (2, g80), (2, g76)]) (by decide +kernel) yk_Step_load (by decide) rfl ⟨ml_Reducer_146, vk_Step_load⟩ np_Step_load rfl (by omega) q91c (c_Step_load (d := d - 1) (by omega) q91) (Nat.le_of_ble_eq_true rfl) (Nat.le_of_ble_eq_true rfl) (Nat.le_of_ble_eq_true rfl) rfl ?_
          show Rn _ d _ _ 0 0 _ 94 [(0, (2, v0)), (1, (0, v1)), (2, (0, v2)), (3, (0, x35.1))] [] x91
          refine r_aload_n (pc := 94) 0 (n := 0) (by decide +kernel) rfl rfl ?_
          obtain ⟨g95, q95, ht72⟩ := bnd ht72
          refine r_get (pc := 95) (by decide +kernel) fl_Reducer_61.r (by decide) rfl q95 ?_
          refine r_aload_n (pc := 98) 0 (n := 0) (by decide +kernel) rfl rfl ?_
          obtain ⟨g99, q99, ht72⟩ := bnd ht72
          refine r_get (pc := 99) (by decide +kernel) fl_Reducer_68.r (by decide) rfl q99 ?_
          refine r_iload_n (pc := 102) 2 (n := 2) (by decide +kernel) rfl rfl ?_
          refine r_iconst (pc := 103) (z := 0) (by decide +kernel) ⟨by decide, by decide⟩ ?_
          refine r_aload_n (pc := 104) 0 (n := 0) (by decide +kernel) rfl rfl ?_
          obtain ⟨g105, q105, ht72⟩ := bnd ht72
          refine r_get (pc := 105) (by decide +kernel) fl_Reducer_9.r (by decide) rfl q105 ?_
          refine r_iload_n (pc := 108) 1 (n := 1) (by decide +kernel) rfl rfl ?_
          obtain ⟨e109, q109, ht72⟩ := bnd ht72
          refine r_iald (pc := 109) (by decide +kernel) q109 ?_
          obtain ⟨_, q110c, ht72⟩ := bnd ht72
          obtain ⟨x110, q110, ht72⟩ := bnd ht72
          refine r_callV (pc := 110) (i := 146) (d2 := d - 1) (As := [(2, g99), (0, v2), (0, 0), (0, e109)]) (st := []) (st1 := [(0, e109), (0, 0), (0, v2), (2, g99), (2, g95)]) (by decide +kernel) yk_Step_load (by decide) rfl ⟨ml_Reducer_146, vk_Step_load⟩ np_Step_load rfl (by omega) q110c (c_Step_load (d := d - 1) (by omega) q110) (Nat.le_of_ble_eq_true rfl) (Nat.le_of_ble_eq_true rfl) (Nat.le_of_ble_eq_true rfl) rfl ?_
          show Rn _ d _ _ 0 0 _ 113 [(0, (2, v0)), (1, (0, v1)), (2, (0, v2)), (3, (0, x35.1))] [] x110
          obtain rfl := Option.some.inj ht72
          exact E72_0
      have E41_1 : ¬ t41.1 = 0 → Rn Y_Reducer_reachAll d mc ms 0 0 (some (0, r.1), r.2) 68 [] [] t41.2 := by
        intro n0
        have h := ite_f n0 h
        refine r_iconst (pc := 68) (z := 0) (by decide +kernel) ⟨by decide, by decide⟩ ?_
        obtain rfl := Option.some.inj h
        exact r_ret (pc := 69) (r := some (0, 0)) (by decide +kernel) rfl (Or.inl rfl) (Nat.le_of_ble_eq_true rfl) (Nat.le_of_ble_eq_true rfl)
      refine r_icmp_ne (pc := 41) (off := 29) (tgt := 70) (by decide +kernel) (by decide) (fun c41 => ?_) (fun c41 => ?_)
      · have ht41 := ite_f c41 ht41
        obtain rfl := Option.some.inj ht41
        refine r_lv [1, 2, 3, 0] rfl ?_
        exact E41_0 rfl
      · have ht41 := ite_t c41 ht41
        refine r_aload_n (pc := 44) 1 (n := 0) (by decide +kernel) rfl rfl ?_
        refine r_iload_n (pc := 45) 3 (n := 2) (by decide +kernel) rfl rfl ?_
        refine r_iload_n (pc := 46) 2 (n := 1) (by decide +kernel) rfl rfl ?_
        refine r_iload_n (pc := 47) 2 (n := 1) (by decide +kernel) rfl rfl ?_
        refine r_aload_n (pc := 48) 1 (n := 0) (by decide +kernel) rfl rfl ?_
        obtain ⟨g49, q49, ht41⟩ := bnd ht41
        refine r_get (pc := 49) (by decide +kernel) fl_Reducer_68.r (by decide) rfl q49 ?_
        refine r_iload_n (pc := 52) 3 (n := 2) (by decide +kernel) rfl rfl ?_
        refine r_aload_n (pc := 53) 1 (n := 0) (by decide +kernel) rfl rfl ?_
        obtain ⟨g54, q54, ht41⟩ := bnd ht41
        refine r_get (pc := 54) (by decide +kernel) fl_Reducer_9.r (by decide) rfl q54 ?_
        refine r_iload_n (pc := 57) 2 (n := 1) (by decide +kernel) rfl rfl ?_
        obtain ⟨e58, q58, ht41⟩ := bnd ht41
        refine r_iald (pc := 58) (by decide +kernel) q58 ?_
        obtain ⟨_, q59c, ht41⟩ := bnd ht41
        obtain ⟨x59, q59, ht41⟩ := bnd ht41
        refine r_callV (pc := 59) (i := 139) (d2 := d - 1) (As := [(0, v2), (0, e58)]) (st := [(0, v1), (0, v1), (0, v2), (2, v0)]) (st1 := [(0, e58), (0, v2), (2, g49), (0, v1), (0, v1), (0, v2), (2, v0)]) (by decide +kernel) yk_Net_imageAlone (by decide) rfl ⟨ml_Reducer_139, vk_Net_imageAlone⟩ np_Net_imageAlone rfl (by omega) q59c (c_Net_imageAlone (d := d - 1) (by omega) q59) (Nat.le_of_ble_eq_true rfl) (Nat.le_of_ble_eq_true rfl) (Nat.le_of_ble_eq_true rfl) rfl ?_
        show Rn _ d _ _ 0 0 _ 62 [(3, (0, x35.1)), (0, (2, v0)), (1, (0, v1)), (2, (0, v2))] [(0, x59.1), (0, v1), (0, v1), (0, v2), (2, v0)] x59.2
        obtain ⟨_, q62c, ht41⟩ := bnd ht41
        obtain ⟨x62, q62, ht41⟩ := bnd ht41
        refine r_callV (pc := 62) (i := 142) (d2 := d - 1) (As := [(0, v2), (0, v1), (0, v1), (0, x59.1)]) (st := []) (st1 := [(0, x59.1), (0, v1), (0, v1), (0, v2), (2, v0)]) (by decide +kernel) yk_Reducer_agrees (by decide) rfl ⟨ml_Reducer_142, vk_Reducer_agrees⟩ np_Reducer_agrees rfl (by omega) q62c (c_Reducer_agrees (d := d - 1) (by omega) q62) (Nat.le_of_ble_eq_true rfl) (Nat.le_of_ble_eq_true rfl) (Nat.le_of_ble_eq_true rfl) rfl ?_
        show Rn _ d _ _ 0 0 _ 65 [(3, (0, x35.1)), (0, (2, v0)), (1, (0, v1)), (2, (0, v2))] [(0, x62.1)] x62.2
        refine r_if_ne (pc := 65) (off := 5) (tgt := 70) (by decide +kernel) (by decide) (fun c65 => ?_) (fun c65 => ?_)
        · have ht41 := ite_f c65 ht41
          obtain rfl := Option.some.inj ht41
          refine r_lv [1, 2, 3, 0] rfl ?_
          exact E41_0 rfl
        · have ht41 := ite_t c65 ht41
          obtain rfl := Option.some.inj ht41
          refine r_lv [] rfl ?_
          exact E41_1 (show ¬ (1 : Int) = 0 by decide)
theorem sL_Reducer_reachAll_2 {d mc ms : Nat} (hd : 5 ≤ d) {r : Int × Mem} {k : Mem → Option (Int × Mem)} {v0 : Int} (hk : ∀ (M : Mem), k M = some r → Rn Y_Reducer_reachAll d mc ms 0 0 (some (0, r.1), r.2) 197 [] [] M) : ∀ (n : Nat) (v1 : Int) (M : Mem), L_Reducer_reachAll_2 k v0 n v1 M = some r → Rn Y_Reducer_reachAll d mc ms 0 0 (some (0, r.1), r.2) 2 [(0, (2, v0)), (1, (0, v1))] [] M := by
  intro n
  induction n with
  | zero => intro _ _ h; cases h
  | succ n ih =>
    intro v1 M h
    rw [L_Reducer_reachAll_2] at h
    refine r_iload_n (pc := 2) 1 (n := 1) (by decide +kernel) rfl rfl ?_
    refine r_aload_n (pc := 3) 0 (n := 0) (by decide +kernel) rfl rfl ?_
    obtain ⟨g4, q4, h⟩ := bnd h
    refine r_get (pc := 4) (by decide +kernel) fl_Reducer_24.r (by decide) rfl q4 ?_
    refine r_icmp_ge (pc := 7) (off := 190) (tgt := 197) (by decide +kernel) (by decide) (fun c7 => ?_) (fun c7 => ?_)
    · have h := ite_t c7 h
      refine r_lv [] rfl ?_
      exact hk  M h
    · have h := ite_f c7 h
      refine r_iload_n (pc := 10) 1 (n := 1) (by decide +kernel) rfl rfl ?_
      refine r_sipush (pc := 11) (z := 384) (by decide +kernel) ⟨by decide, by decide⟩ ?_
      refine r_icmp_ge (pc := 14) (off := 183) (tgt := 197) (by decide +kernel) (by decide) (fun c14 => ?_) (fun c14 => ?_)
      · have h := ite_t c14 h
        refine r_lv [] rfl ?_
        exact hk  M h
      · have h := ite_f c14 h
        refine r_iconst (pc := 17) (z := 0) (by decide +kernel) ⟨by decide, by decide⟩ ?_
        refine r_istore_n (pc := 18) (n := 2) (lv' := [(2, (0, 0)), (0, (2, v0)), (1, (0, v1))]) (by decide +kernel) rfl (Nat.le_of_ble_eq_true rfl) rfl ?_
        refine r_lv [1, 2, 0] rfl ?_
        refine sL_Reducer_reachAll_19 (by omega) ?_ _ _  _ h
        intro m19 h
        refine r_iinc (pc := 191) 1 (n := 1) (lv' := [(1, (0, wr (v1 + 1))), (0, (2, v0))]) (by decide +kernel) rfl (Nat.le_of_ble_eq_true rfl) rfl ?_
        refine r_goto (pc := 194) (off := (-192)) (tgt := 2) (by decide +kernel) (by decide) ?_
        refine r_lv [1, 0] rfl ?_
        exact ih (wr (v1 + 1)) m19 h
theorem c_Reducer_reachAll {d : Nat} (hd : 5 ≤ d) {a0 : Int} {M : Mem} {x : Int × Mem} (h : D_Reducer_reachAll a0 M = some x) : Ct d Y_Reducer_reachAll [(2, a0)] M (some (0, x.1), x.2) 0 0 := by
  refine ct_of yk_Reducer_reachAll (Nat.le_of_ble_eq_true rfl) ?_
  rw [D_Reducer_reachAll] at h
  show Rn Y_Reducer_reachAll d 0 0 0 0 (some (0, x.1), x.2) 0 [(0, (2, a0))] [] M
  refine r_iconst (pc := 0) (z := 0) (by decide +kernel) ⟨by decide, by decide⟩ ?_
  refine r_istore_n (pc := 1) (n := 1) (lv' := [(1, (0, 0)), (0, (2, a0))]) (by decide +kernel) rfl (Nat.le_of_ble_eq_true rfl) rfl ?_
  refine r_lv [1, 0] rfl ?_
  refine sL_Reducer_reachAll_2 (by omega) ?_ _ _  _ h
  intro m2 h
  refine r_iconst (pc := 197) (z := 1) (by decide +kernel) ⟨by decide, by decide⟩ ?_
  obtain rfl := Option.some.inj h
  exact r_ret (pc := 198) (r := some (0, 1)) (by decide +kernel) rfl (Or.inr rfl) (Nat.le_of_ble_eq_true rfl) (Nat.le_of_ble_eq_true rfl)

/-! TreeTongues$Reducer.finalKinds()I -/
noncomputable def L_Reducer_finalKinds_4 (k : Int → Mem → Option (Int × Mem)) (v0 : Int) : Nat → Int → Int → Mem → Option (Int × Mem)
  | 0 => fun _ _ _ => none
  | n + 1 => fun v1 v2 M => (gf M v0 3 17 10).bind fun g6 => if g6 ≤ v2 then (k v1 M) else ((gf M v0 3 17 8).bind fun g14 => (rd M 10 g14 v2).bind fun e18 => lt (ior v1 (ishl (iand e18 1) v2)) fun u1_24 => L_Reducer_finalKinds_4 k v0 n u1_24 (wr (v2 + 1)) M)
noncomputable def D_Reducer_finalKinds (a0 : Int) (M : Mem) : Option (Int × Mem) := L_Reducer_finalKinds_4 (fun w1_4 m4 => some (w1_4, m4)) a0 FU 0 0 M
theorem sL_Reducer_finalKinds_4 {d mc ms : Nat} (hd : 1 ≤ d) {r : Int × Mem} {k : Int → Mem → Option (Int × Mem)} {v0 : Int} (hk : ∀ (v1 : Int) (M : Mem), k v1 M = some r → Rn Y_Reducer_finalKinds d mc ms 0 0 (some (0, r.1), r.2) 31 [(1, (0, v1))] [] M) : ∀ (n : Nat) (v1 : Int) (v2 : Int) (M : Mem), L_Reducer_finalKinds_4 k v0 n v1 v2 M = some r → Rn Y_Reducer_finalKinds d mc ms 0 0 (some (0, r.1), r.2) 4 [(0, (2, v0)), (1, (0, v1)), (2, (0, v2))] [] M := by
  intro n
  induction n with
  | zero => intro _ _ _ h; cases h
  | succ n ih =>
    intro v1 v2 M h
    rw [L_Reducer_finalKinds_4] at h
    refine r_iload_n (pc := 4) 2 (n := 2) (by decide +kernel) rfl rfl ?_
    refine r_aload_n (pc := 5) 0 (n := 0) (by decide +kernel) rfl rfl ?_
    obtain ⟨g6, q6, h⟩ := bnd h
    refine r_get (pc := 6) (by decide +kernel) fl_Reducer_37.r (by decide) rfl q6 ?_
    refine r_icmp_ge (pc := 9) (off := 22) (tgt := 31) (by decide +kernel) (by decide) (fun c9 => ?_) (fun c9 => ?_)
    · have h := ite_t c9 h
      refine r_lv [1] rfl ?_
      exact hk v1 M h
    · have h := ite_f c9 h
      refine r_iload_n (pc := 12) 1 (n := 1) (by decide +kernel) rfl rfl ?_
      refine r_aload_n (pc := 13) 0 (n := 0) (by decide +kernel) rfl rfl ?_
      obtain ⟨g14, q14, h⟩ := bnd h
      refine r_get (pc := 14) (by decide +kernel) fl_Reducer_31.r (by decide) rfl q14 ?_
      refine r_iload_n (pc := 17) 2 (n := 2) (by decide +kernel) rfl rfl ?_
      obtain ⟨e18, q18, h⟩ := bnd h
      refine r_iald (pc := 18) (by decide +kernel) q18 ?_
      refine r_iconst (pc := 19) (z := 1) (by decide +kernel) ⟨by decide, by decide⟩ ?_
      refine r_iand (pc := 20) (by decide +kernel) ?_
      refine r_iload_n (pc := 21) 2 (n := 2) (by decide +kernel) rfl rfl ?_
      refine r_ishl (pc := 22) (by decide +kernel) ?_
      refine r_ior (pc := 23) (by decide +kernel) ?_
      obtain ⟨u1_24, q24, h⟩ := lt_o h
      refine r_eq q24 ?_
      refine r_istore_n (pc := 24) (n := 1) (lv' := [(1, (0, u1_24)), (0, (2, v0)), (2, (0, v2))]) (by decide +kernel) rfl (Nat.le_of_ble_eq_true rfl) rfl ?_
      refine r_iinc (pc := 25) 2 (n := 1) (lv' := [(2, (0, wr (v2 + 1))), (1, (0, u1_24)), (0, (2, v0))]) (by decide +kernel) rfl (Nat.le_of_ble_eq_true rfl) rfl ?_
      refine r_goto (pc := 28) (off := (-24)) (tgt := 4) (by decide +kernel) (by decide) ?_
      refine r_lv [2, 1, 0] rfl ?_
      exact ih u1_24 (wr (v2 + 1)) M h
theorem c_Reducer_finalKinds {d : Nat} (hd : 1 ≤ d) {a0 : Int} {M : Mem} {x : Int × Mem} (h : D_Reducer_finalKinds a0 M = some x) : Ct d Y_Reducer_finalKinds [(2, a0)] M (some (0, x.1), x.2) 0 0 := by
  refine ct_of yk_Reducer_finalKinds (Nat.le_of_ble_eq_true rfl) ?_
  rw [D_Reducer_finalKinds] at h
  show Rn Y_Reducer_finalKinds d 0 0 0 0 (some (0, x.1), x.2) 0 [(0, (2, a0))] [] M
  refine r_iconst (pc := 0) (z := 0) (by decide +kernel) ⟨by decide, by decide⟩ ?_
  refine r_istore_n (pc := 1) (n := 1) (lv' := [(1, (0, 0)), (0, (2, a0))]) (by decide +kernel) rfl (Nat.le_of_ble_eq_true rfl) rfl ?_
  refine r_iconst (pc := 2) (z := 0) (by decide +kernel) ⟨by decide, by decide⟩ ?_
  refine r_istore_n (pc := 3) (n := 2) (lv' := [(2, (0, 0)), (1, (0, 0)), (0, (2, a0))]) (by decide +kernel) rfl (Nat.le_of_ble_eq_true rfl) rfl ?_
  refine r_lv [2, 1, 0] rfl ?_
  refine sL_Reducer_finalKinds_4 (by omega) ?_ _ _ _  _ h
  intro w1_4 m4 h
  refine r_iload_n (pc := 31) 0 (n := 1) (by decide +kernel) rfl rfl ?_
  obtain rfl := Option.some.inj h
  exact r_ret (pc := 32) (r := some (0, w1_4)) (by decide +kernel) rfl trivial (Nat.le_of_ble_eq_true rfl) (Nat.le_of_ble_eq_true rfl)

/-! TreeTongues$Machine.becomeLarge()V -/
noncomputable def D_Machine_becomeLarge (a0 : Int) (M : Mem) : Option (Mem) := (pf M a0 1 14 10 0).bind fun m2 => (pf m2 a0 1 14 11 0).bind fun m7 => (pf m7 a0 1 14 12 1).bind fun m12 => (pf m12 a0 1 14 13 0).bind fun m17 => some m17
theorem c_Machine_becomeLarge {d : Nat} (hd : 1 ≤ d) {a0 : Int} {M : Mem} {x : Mem} (h : D_Machine_becomeLarge a0 M = some x) : Ct d Y_Machine_becomeLarge [(2, a0)] M (none, x) 0 0 := by
  refine ct_of yk_Machine_becomeLarge (Nat.le_of_ble_eq_true rfl) ?_
  rw [D_Machine_becomeLarge] at h
  show Rn Y_Machine_becomeLarge d 0 0 0 0 (none, x) 0 [(0, (2, a0))] [] M
  refine r_aload_n (pc := 0) 0 (n := 0) (by decide +kernel) rfl rfl ?_
  refine r_iconst (pc := 1) (z := 0) (by decide +kernel) ⟨by decide, by decide⟩ ?_
  obtain ⟨m2, q2, h⟩ := bnd h
  refine r_put (pc := 2) (by decide +kernel) fl_Machine_40 (by decide) (Or.inr nf_1_10) rfl (fun h3 => by cases h3) q2 ?_
  refine r_aload_n (pc := 5) 0 (n := 0) (by decide +kernel) rfl rfl ?_
  refine r_iconst (pc := 6) (z := 0) (by decide +kernel) ⟨by decide, by decide⟩ ?_
  obtain ⟨m7, q7, h⟩ := bnd h
  refine r_put (pc := 7) (by decide +kernel) fl_Machine_44 (by decide) (Or.inr nf_1_11) rfl (fun h3 => by cases h3) q7 ?_
  refine r_aload_n (pc := 10) 0 (n := 0) (by decide +kernel) rfl rfl ?_
  refine r_iconst (pc := 11) (z := 1) (by decide +kernel) ⟨by decide, by decide⟩ ?_
  obtain ⟨m12, q12, h⟩ := bnd h
  refine r_put (pc := 12) (by decide +kernel) fl_Machine_47 (by decide) (Or.inr nf_1_12) rfl (fun _ => Or.inr rfl) q12 ?_
  refine r_aload_n (pc := 15) 0 (n := 0) (by decide +kernel) rfl rfl ?_
  refine r_iconst (pc := 16) (z := 0) (by decide +kernel) ⟨by decide, by decide⟩ ?_
  obtain ⟨m17, q17, h⟩ := bnd h
  refine r_put (pc := 17) (by decide +kernel) fl_Machine_51 (by decide) (Or.inr nf_1_13) rfl (fun _ => Or.inl rfl) q17 ?_
  obtain rfl := Option.some.inj h
  exact r_ret (pc := 20) (r := none) (by decide +kernel) rfl trivial (Nat.le_of_ble_eq_true rfl) (Nat.le_of_ble_eq_true rfl)

/-! TreeTongues$Machine.kindWith([IIII)I -/
noncomputable def D_Machine_kindWith (a0 a1 a2 a3 a4 : Int) (M : Mem) : Option (Int × Mem) := (gf M a0 1 14 0).bind fun g1 => (gf M a0 1 14 8).bind fun g6 => (rd M 10 g6 a3).bind fun e10 => (gf M a0 1 14 8).bind fun g12 => (rd M 10 g12 a4).bind fun e17 => (ck M g1 5 3).bind fun _ => (D_Signs_cell g1 a2 e10 e17 6 M).bind fun x20 => (rd x20.2 10 a1 x20.1).bind fun e29 => some (if 0 < e29 then e29 else 0, x20.2)
theorem c_Machine_kindWith {d : Nat} (hd : 3 ≤ d) {a0 a1 a2 a3 a4 : Int} {M : Mem} {x : Int × Mem} (h : D_Machine_kindWith a0 a1 a2 a3 a4 M = some x) : Ct d Y_Machine_kindWith [(2, a0), (2, a1), (0, a2), (0, a3), (0, a4)] M (some (0, x.1), x.2) 0 0 := by
  refine ct_of yk_Machine_kindWith (Nat.le_of_ble_eq_true rfl) ?_
  rw [D_Machine_kindWith] at h
  show Rn Y_Machine_kindWith d 0 0 0 0 (some (0, x.1), x.2) 0 [(0, (2, a0)), (1, (2, a1)), (2, (0, a2)), (3, (0, a3)), (4, (0, a4))] [] M
  refine r_aload_n (pc := 0) 0 (n := 0) (by decide +kernel) rfl rfl ?_
  obtain ⟨g1, q1, h⟩ := bnd h
  refine r_get (pc := 1) (by decide +kernel) fl_Machine_54.r (by decide) rfl q1 ?_
  refine r_iload_n (pc := 4) 2 (n := 2) (by decide +kernel) rfl rfl ?_
  refine r_aload_n (pc := 5) 0 (n := 0) (by decide +kernel) rfl rfl ?_
  obtain ⟨g6, q6, h⟩ := bnd h
  refine r_get (pc := 6) (by decide +kernel) fl_Machine_34.r (by decide) rfl q6 ?_
  refine r_iload_n (pc := 9) 3 (n := 3) (by decide +kernel) rfl rfl ?_
  obtain ⟨e10, q10, h⟩ := bnd h
  refine r_iald (pc := 10) (by decide +kernel) q10 ?_
  refine r_aload_n (pc := 11) 0 (n := 0) (by decide +kernel) rfl rfl ?_
  obtain ⟨g12, q12, h⟩ := bnd h
  refine r_get (pc := 12) (by decide +kernel) fl_Machine_34.r (by decide) rfl q12 ?_
  refine r_iload (pc := 15) 4 (by decide +kernel) rfl ?_
  obtain ⟨e17, q17, h⟩ := bnd h
  refine r_iald (pc := 17) (by decide +kernel) q17 ?_
  refine r_bipush (pc := 18) (z := 6) (by decide +kernel) ⟨by decide, by decide⟩ ?_
  obtain ⟨_, q20c, h⟩ := bnd h
  obtain ⟨x20, q20, h⟩ := bnd h
  refine r_callV (pc := 20) (i := 58) (d2 := d - 1) (As := [(0, a2), (0, e10), (0, e17), (0, 6)]) (st := []) (st1 := [(0, 6), (0, e17), (0, e10), (0, a2), (2, g1)]) (by decide +kernel) yk_Signs_cell (by decide) rfl ⟨ml_Machine_58, vk_Signs_cell⟩ np_Signs_cell rfl (by omega) q20c (c_Signs_cell (d := d - 1) (by omega) q20) (Nat.le_of_ble_eq_true rfl) (Nat.le_of_ble_eq_true rfl) (Nat.le_of_ble_eq_true rfl) rfl ?_
  show Rn _ d _ _ 0 0 _ 23 [(0, (2, a0)), (1, (2, a1)), (2, (0, a2)), (3, (0, a3)), (4, (0, a4))] [(0, x20.1)] x20.2
  refine r_istore (pc := 23) (lv' := [(5, (0, x20.1)), (0, (2, a0)), (1, (2, a1)), (2, (0, a2)), (3, (0, a3)), (4, (0, a4))]) (by decide +kernel) (Nat.le_of_ble_eq_true rfl) rfl ?_
  refine r_iconst (pc := 25) (z := 0) (by decide +kernel) ⟨by decide, by decide⟩ ?_
  refine r_aload_n (pc := 26) 2 (n := 1) (by decide +kernel) rfl rfl ?_
  refine r_iload (pc := 27) 0 (by decide +kernel) rfl ?_
  obtain ⟨e29, q29, h⟩ := bnd h
  refine r_iald (pc := 29) (by decide +kernel) q29 ?_
  refine r_mmax (pc := 30) (i := 95) (by decide +kernel) (mg 601 (by decide +kernel) (by decide +kernel)) mw_max (by omega) (Nat.le_of_ble_eq_true rfl) (Nat.le_of_ble_eq_true rfl) (Nat.le_of_ble_eq_true rfl) ?_
  obtain rfl := Option.some.inj h
  exact r_ret (pc := 33) (r := some (0, if 0 < e29 then e29 else 0)) (by decide +kernel) rfl trivial (Nat.le_of_ble_eq_true rfl) (Nat.le_of_ble_eq_true rfl)

/-! TreeTongues$Machine.sizeWith(III)I -/
noncomputable def D_Machine_sizeWith (a0 a1 a2 a3 : Int) (M : Mem) : Option (Int × Mem) := (gf M a0 1 14 0).bind fun g1 => (ck M g1 5 3).bind fun _ => (D_Signs_rankOf g1 a1 M).bind fun x5 => (if x5.1 ≤ 0 then (some 0) else ((gf x5.2 a0 1 14 5).bind fun g17 => (rd x5.2 10 g17 a2).bind fun e21 => some e21)).bind fun (t13 : Int) => (if x5.1 ≤ 1 then (some 0) else ((gf x5.2 a0 1 14 5).bind fun g34 => (rd x5.2 10 g34 a3).bind fun e38 => some e38)).bind fun (t30 : Int) => some (wr ((wr (1 + t13)) + t30), x5.2)
theorem c_Machine_sizeWith {d : Nat} (hd : 2 ≤ d) {a0 a1 a2 a3 : Int} {M : Mem} {x : Int × Mem} (h : D_Machine_sizeWith a0 a1 a2 a3 M = some x) : Ct d Y_Machine_sizeWith [(2, a0), (0, a1), (0, a2), (0, a3)] M (some (0, x.1), x.2) 0 0 := by
  refine ct_of yk_Machine_sizeWith (Nat.le_of_ble_eq_true rfl) ?_
  rw [D_Machine_sizeWith] at h
  show Rn Y_Machine_sizeWith d 0 0 0 0 (some (0, x.1), x.2) 0 [(0, (2, a0)), (1, (0, a1)), (2, (0, a2)), (3, (0, a3))] [] M
  refine r_aload_n (pc := 0) 0 (n := 0) (by decide +kernel) rfl rfl ?_
  obtain ⟨g1, q1, h⟩ := bnd h
  refine r_get (pc := 1) (by decide +kernel) fl_Machine_54.r (by decide) rfl q1 ?_
  refine r_iload_n (pc := 4) 1 (n := 1) (by decide +kernel) rfl rfl ?_
  obtain ⟨_, q5c, h⟩ := bnd h
  obtain ⟨x5, q5, h⟩ := bnd h
  refine r_callV (pc := 5) (i := 101) (d2 := d - 1) (As := [(0, a1)]) (st := []) (st1 := [(0, a1), (2, g1)]) (by decide +kernel) yk_Signs_rankOf (by decide) rfl ⟨ml_Machine_101, vk_Signs_rankOf⟩ np_Signs_rankOf rfl (by omega) q5c (c_Signs_rankOf (d := d - 1) (by omega) q5) (Nat.le_of_ble_eq_true rfl) (Nat.le_of_ble_eq_true rfl) (Nat.le_of_ble_eq_true rfl) rfl ?_
  show Rn _ d _ _ 0 0 _ 8 [(0, (2, a0)), (1, (0, a1)), (2, (0, a2)), (3, (0, a3))] [(0, x5.1)] x5.2
  refine r_istore (pc := 8) (lv' := [(4, (0, x5.1)), (0, (2, a0)), (1, (0, a1)), (2, (0, a2)), (3, (0, a3))]) (by decide +kernel) (Nat.le_of_ble_eq_true rfl) rfl ?_
  refine r_iconst (pc := 10) (z := 1) (by decide +kernel) ⟨by decide, by decide⟩ ?_
  refine r_iload (pc := 11) 0 (by decide +kernel) rfl ?_
  obtain ⟨t13, ht13, h⟩ := bnd h
  have E13_0 : Rn Y_Machine_sizeWith d 0 0 0 0 (some (0, x.1), x.2) 26 [(0, (2, a0)), (3, (0, a3)), (4, (0, x5.1))] [(0, t13), (0, 1)] x5.2 := by
    refine r_iadd (pc := 26) (by decide +kernel) ?_
    refine r_iload (pc := 27) 2 (by decide +kernel) rfl ?_
    refine r_iconst (pc := 29) (z := 1) (by decide +kernel) ⟨by decide, by decide⟩ ?_
    obtain ⟨t30, ht30, h⟩ := bnd h
    have E30_0 : Rn Y_Machine_sizeWith d 0 0 0 0 (some (0, x.1), x.2) 43 [] [(0, t30), (0, wr (1 + t13))] x5.2 := by
      refine r_iadd (pc := 43) (by decide +kernel) ?_
      obtain rfl := Option.some.inj h
      exact r_ret (pc := 44) (r := some (0, wr ((wr (1 + t13)) + t30))) (by decide +kernel) rfl trivial (Nat.le_of_ble_eq_true rfl) (Nat.le_of_ble_eq_true rfl)
    refine r_icmp_le (pc := 30) (off := 12) (tgt := 42) (by decide +kernel) (by decide) (fun c30 => ?_) (fun c30 => ?_)
    · have ht30 := ite_t c30 ht30
      refine r_iconst (pc := 42) (z := 0) (by decide +kernel) ⟨by decide, by decide⟩ ?_
      obtain rfl := Option.some.inj ht30
      refine r_lv [] rfl ?_
      exact E30_0
    · have ht30 := ite_f c30 ht30
      refine r_aload_n (pc := 33) 0 (n := 0) (by decide +kernel) rfl rfl ?_
      obtain ⟨g34, q34, ht30⟩ := bnd ht30
      refine r_get (pc := 34) (by decide +kernel) fl_Machine_24.r (by decide) rfl q34 ?_
      refine r_iload_n (pc := 37) 1 (n := 3) (by decide +kernel) rfl rfl ?_
      obtain ⟨e38, q38, ht30⟩ := bnd ht30
      refine r_iald (pc := 38) (by decide +kernel) q38 ?_
      refine r_goto (pc := 39) (off := 4) (tgt := 43) (by decide +kernel) (by decide) ?_
      obtain rfl := Option.some.inj ht30
      refine r_lv [] rfl ?_
      exact E30_0
  refine r_if_le (pc := 13) (off := 12) (tgt := 25) (by decide +kernel) (by decide) (fun c13 => ?_) (fun c13 => ?_)
  · have ht13 := ite_t c13 ht13
    refine r_iconst (pc := 25) (z := 0) (by decide +kernel) ⟨by decide, by decide⟩ ?_
    obtain rfl := Option.some.inj ht13
    refine r_lv [1, 4, 0] rfl ?_
    exact E13_0
  · have ht13 := ite_f c13 ht13
    refine r_aload_n (pc := 16) 1 (n := 0) (by decide +kernel) rfl rfl ?_
    obtain ⟨g17, q17, ht13⟩ := bnd ht13
    refine r_get (pc := 17) (by decide +kernel) fl_Machine_24.r (by decide) rfl q17 ?_
    refine r_iload_n (pc := 20) 3 (n := 2) (by decide +kernel) rfl rfl ?_
    obtain ⟨e21, q21, ht13⟩ := bnd ht13
    refine r_iald (pc := 21) (by decide +kernel) q21 ?_
    refine r_goto (pc := 22) (off := 4) (tgt := 26) (by decide +kernel) (by decide) ?_
    obtain rfl := Option.some.inj ht13
    refine r_lv [1, 4, 0] rfl ?_
    exact E13_0

/-! TreeTongues$Machine.findFirst([II)I -/
noncomputable def L_Machine_findFirst_48 (k : Int → Mem → Option (Int × Mem)) (v0 : Int) (v1 : Int) (v2 : Int) (v4 : Int) (v5 : Int) : Nat → Int → Int → Mem → Option (Int × Mem)
  | 0 => fun _ _ _ => none
  | n + 1 => fun v3 v6 M => (gf M v0 1 14 0).bind fun g51 => (ck M g51 5 3).bind fun _ => (D_Signs_choices g51 v4 1 v2 M).bind fun x58 => if x58.1 ≤ v6 then (k v3 x58.2) else ((ck x58.2 v0 1 14).bind fun _ => (D_Machine_kindWith v0 v1 v4 v5 v6 x58.2).bind fun x72 => (ck x72.2 v0 1 14).bind fun _ => (D_Machine_sizeWith v0 v4 v5 v6 x72.2).bind fun x84 => (gf x84.2 v0 1 14 9).bind fun g90 => (rd x84.2 10 g90 x72.1).bind fun e95 => (if e95 = (-1) then ((gf x84.2 v0 1 14 5).bind fun g103 => (rd x84.2 10 g103 v2).bind fun e107 => if e107 ≤ x84.1 then (some (v3, x84.2)) else ((gf x84.2 v0 1 14 5).bind fun g115 => (wt x84.2 10 g115 v2 x84.1).bind fun m121 => (gf m121 v0 1 14 2).bind fun g123 => (wt m121 10 g123 v2 v4).bind fun m129 => (gf m129 v0 1 14 3).bind fun g131 => (wt m129 10 g131 v2 v5).bind fun m137 => (gf m137 v0 1 14 4).bind fun g139 => (wt m137 10 g139 v2 v6).bind fun m145 => some (x72.1, m145))) else (some (v3, x84.2))).bind fun (t97 : Int × Mem) => L_Machine_findFirst_48 k v0 v1 v2 v4 v5 n t97.1 (wr (v6 + 1)) t97.2)
noncomputable def L_Machine_findFirst_29 (k : Int → Mem → Option (Int × Mem)) (v0 : Int) (v1 : Int) (v2 : Int) (v4 : Int) : Nat → Int → Int → Mem → Option (Int × Mem)
  | 0 => fun _ _ _ => none
  | n + 1 => fun v3 v5 M => (gf M v0 1 14 0).bind fun g32 => (ck M g32 5 3).bind fun _ => (D_Signs_choices g32 v4 0 v2 M).bind fun x39 => if x39.1 ≤ v5 then (k v3 x39.2) else (L_Machine_findFirst_48 (fun w3_48 m48 => L_Machine_findFirst_29 k v0 v1 v2 v4 n w3_48 (wr (v5 + 1)) m48) v0 v1 v2 v4 v5 FU v3 0 x39.2)
noncomputable def L_Machine_findFirst_14 (k : Int → Mem → Option (Int × Mem)) (v0 : Int) (v1 : Int) (v2 : Int) : Nat → Int → Int → Mem → Option (Int × Mem)
  | 0 => fun _ _ _ => none
  | n + 1 => fun v3 v4 M => (gf M v0 1 14 0).bind fun g17 => (gf M g17 5 3 1).bind fun g20 => if g20 ≤ v4 then (k v3 M) else (L_Machine_findFirst_29 (fun w3_29 m29 => L_Machine_findFirst_14 k v0 v1 v2 n w3_29 (wr (v4 + 1)) m29) v0 v1 v2 v4 FU v3 0 M)
noncomputable def D_Machine_findFirst (a0 a1 a2 : Int) (M : Mem) : Option (Int × Mem) := (gf M a0 1 14 5).bind fun g3 => (wt M 10 g3 a2 1000).bind fun m10 => L_Machine_findFirst_14 (fun w3_14 m14 => some (w3_14, m14)) a0 a1 a2 FU 0 0 m10
theorem sL_Machine_findFirst_48 {d mc ms : Nat} (hd : 4 ≤ d) {r : Int × Mem} {k : Int → Mem → Option (Int × Mem)} {v0 : Int} {v1 : Int} {v2 : Int} {v4 : Int} {v5 : Int} (hk : ∀ (v3 : Int) (M : Mem), k v3 M = some r → Rn Y_Machine_findFirst d mc ms 0 0 (some (0, r.1), r.2) 152 [(0, (2, v0)), (1, (2, v1)), (2, (0, v2)), (3, (0, v3)), (4, (0, v4)), (5, (0, v5))] [] M) : ∀ (n : Nat) (v3 : Int) (v6 : Int) (M : Mem), L_Machine_findFirst_48 k v0 v1 v2 v4 v5 n v3 v6 M = some r → Rn Y_Machine_findFirst d mc ms 0 0 (some (0, r.1), r.2) 48 [(0, (2, v0)), (1, (2, v1)), (2, (0, v2)), (3, (0, v3)), (4, (0, v4)), (5, (0, v5)), (6, (0, v6))] [] M := by
  intro n
  induction n with
  | zero => intro _ _ _ h; cases h
  | succ n ih =>
    intro v3 v6 M h
    rw [L_Machine_findFirst_48] at h
    refine r_iload (pc := 48) 6 (by decide +kernel) rfl ?_
    refine r_aload_n (pc := 50) 0 (n := 0) (by decide +kernel) rfl rfl ?_
    obtain ⟨g51, q51, h⟩ := bnd h
    refine r_get (pc := 51) (by decide +kernel) fl_Machine_54.r (by decide) rfl q51 ?_
    refine r_iload (pc := 54) 4 (by decide +kernel) rfl ?_
    refine r_iconst (pc := 56) (z := 1) (by decide +kernel) ⟨by decide, by decide⟩ ?_
    refine r_iload_n (pc := 57) 2 (n := 2) (by decide +kernel) rfl rfl ?_
    obtain ⟨_, q58c, h⟩ := bnd h
    obtain ⟨x58, q58, h⟩ := bnd h
    refine r_callV (pc := 58) (i := 84) (d2 := d - 1) (As := [(0, v4), (0, 1), (0, v2)]) (st := [(0, v6)]) (st1 := [(0, v2), (0, 1), (0, v4), (2, g51), (0, v6)]) (by decide +kernel) yk_Signs_choices (by decide) rfl ⟨ml_Machine_84, vk_Signs_choices⟩ np_Signs_choices rfl (by omega) q58c (c_Signs_choices (d := d - 1) (by omega) q58) (Nat.le_of_ble_eq_true rfl) (Nat.le_of_ble_eq_true rfl) (Nat.le_of_ble_eq_true rfl) rfl ?_
    show Rn _ d _ _ 0 0 _ 61 [(0, (2, v0)), (1, (2, v1)), (2, (0, v2)), (3, (0, v3)), (4, (0, v4)), (5, (0, v5)), (6, (0, v6))] [(0, x58.1), (0, v6)] x58.2
    refine r_icmp_ge (pc := 61) (off := 91) (tgt := 152) (by decide +kernel) (by decide) (fun c61 => ?_) (fun c61 => ?_)
    · have h := ite_t c61 h
      refine r_lv [0, 1, 2, 3, 4, 5] rfl ?_
      exact hk v3 x58.2 h
    · have h := ite_f c61 h
      refine r_aload_n (pc := 64) 0 (n := 0) (by decide +kernel) rfl rfl ?_
      refine r_aload_n (pc := 65) 1 (n := 1) (by decide +kernel) rfl rfl ?_
      refine r_iload (pc := 66) 4 (by decide +kernel) rfl ?_
      refine r_iload (pc := 68) 5 (by decide +kernel) rfl ?_
      refine r_iload (pc := 70) 6 (by decide +kernel) rfl ?_
      obtain ⟨_, q72c, h⟩ := bnd h
      obtain ⟨x72, q72, h⟩ := bnd h
      refine r_callV (pc := 72) (i := 88) (d2 := d - 1) (As := [(2, v1), (0, v4), (0, v5), (0, v6)]) (st := []) (st1 := [(0, v6), (0, v5), (0, v4), (2, v1), (2, v0)]) (by decide +kernel) yk_Machine_kindWith (by decide) rfl ⟨ml_Machine_88, vk_Machine_kindWith⟩ np_Machine_kindWith rfl (by omega) q72c (c_Machine_kindWith (d := d - 1) (by omega) q72) (Nat.le_of_ble_eq_true rfl) (Nat.le_of_ble_eq_true rfl) (Nat.le_of_ble_eq_true rfl) rfl ?_
      show Rn _ d _ _ 0 0 _ 75 [(0, (2, v0)), (1, (2, v1)), (2, (0, v2)), (3, (0, v3)), (4, (0, v4)), (5, (0, v5)), (6, (0, v6))] [(0, x72.1)] x72.2
      refine r_istore (pc := 75) (lv' := [(7, (0, x72.1)), (0, (2, v0)), (1, (2, v1)), (2, (0, v2)), (3, (0, v3)), (4, (0, v4)), (5, (0, v5)), (6, (0, v6))]) (by decide +kernel) (Nat.le_of_ble_eq_true rfl) rfl ?_
      refine r_aload_n (pc := 77) 1 (n := 0) (by decide +kernel) rfl rfl ?_
      refine r_iload (pc := 78) 5 (by decide +kernel) rfl ?_
      refine r_iload (pc := 80) 6 (by decide +kernel) rfl ?_
      refine r_iload (pc := 82) 7 (by decide +kernel) rfl ?_
      obtain ⟨_, q84c, h⟩ := bnd h
      obtain ⟨x84, q84, h⟩ := bnd h
      refine r_callV (pc := 84) (i := 92) (d2 := d - 1) (As := [(0, v4), (0, v5), (0, v6)]) (st := []) (st1 := [(0, v6), (0, v5), (0, v4), (2, v0)]) (by decide +kernel) yk_Machine_sizeWith (by decide) rfl ⟨ml_Machine_92, vk_Machine_sizeWith⟩ np_Machine_sizeWith rfl (by omega) q84c (c_Machine_sizeWith (d := d - 1) (by omega) q84) (Nat.le_of_ble_eq_true rfl) (Nat.le_of_ble_eq_true rfl) (Nat.le_of_ble_eq_true rfl) rfl ?_
      show Rn _ d _ _ 0 0 _ 87 [(7, (0, x72.1)), (0, (2, v0)), (1, (2, v1)), (2, (0, v2)), (3, (0, v3)), (4, (0, v4)), (5, (0, v5)), (6, (0, v6))] [(0, x84.1)] x84.2
      refine r_istore (pc := 87) (lv' := [(8, (0, x84.1)), (7, (0, x72.1)), (0, (2, v0)), (1, (2, v1)), (2, (0, v2)), (3, (0, v3)), (4, (0, v4)), (5, (0, v5)), (6, (0, v6))]) (by decide +kernel) (Nat.le_of_ble_eq_true rfl) rfl ?_
      refine r_aload_n (pc := 89) 2 (n := 0) (by decide +kernel) rfl rfl ?_
      obtain ⟨g90, q90, h⟩ := bnd h
      refine r_get (pc := 90) (by decide +kernel) fl_Machine_37.r (by decide) rfl q90 ?_
      refine r_iload (pc := 93) 1 (by decide +kernel) rfl ?_
      obtain ⟨e95, q95, h⟩ := bnd h
      refine r_iald (pc := 95) (by decide +kernel) q95 ?_
      refine r_iconst (pc := 96) (z := (-1)) (by decide +kernel) ⟨by decide, by decide⟩ ?_
      obtain ⟨t97, ht97, h⟩ := bnd h
      have E97_0 : Rn Y_Machine_findFirst d mc ms 0 0 (some (0, r.1), r.2) 146 [(0, (2, v0)), (1, (2, v1)), (2, (0, v2)), (3, (0, t97.1)), (4, (0, v4)), (5, (0, v5)), (6, (0, v6))] [] t97.2 := by
        refine r_iinc (pc := 146) 6 (n := 1) (lv' := [(6, (0, wr (v6 + 1))), (0, (2, v0)), (1, (2, v1)), (2, (0, v2)), (3, (0, t97.1)), (4, (0, v4)), (5, (0, v5))]) (by decide +kernel) rfl (Nat.le_of_ble_eq_true rfl) rfl ?_
        refine r_goto (pc := 149) (off := (-101)) (tgt := 48) (by decide +kernel) (by decide) ?_
        refine r_lv [1, 2, 3, 4, 5, 6, 0] rfl ?_
        exact ih t97.1 (wr (v6 + 1)) t97.2 h
      refine r_icmp_ne (pc := 97) (off := 49) (tgt := 146) (by decide +kernel) (by decide) (fun c97 => ?_) (fun c97 => ?_)
      · have ht97 := ite_f c97 ht97
        obtain rfl := Option.some.inj ht97
        refine r_lv [2, 3, 4, 5, 6, 7, 8] rfl ?_
        exact E97_0
      · have ht97 := ite_t c97 ht97
        refine r_iload (pc := 100) 0 (by decide +kernel) rfl ?_
        refine r_aload_n (pc := 102) 2 (n := 0) (by decide +kernel) rfl rfl ?_
        obtain ⟨g103, q103, ht97⟩ := bnd ht97
        refine r_get (pc := 103) (by decide +kernel) fl_Machine_24.r (by decide) rfl q103 ?_
        refine r_iload_n (pc := 106) 4 (n := 2) (by decide +kernel) rfl rfl ?_
        obtain ⟨e107, q107, ht97⟩ := bnd ht97
        refine r_iald (pc := 107) (by decide +kernel) q107 ?_
        refine r_icmp_ge (pc := 108) (off := 38) (tgt := 146) (by decide +kernel) (by decide) (fun c108 => ?_) (fun c108 => ?_)
        · have ht97 := ite_t c108 ht97
          obtain rfl := Option.some.inj ht97
          refine r_lv [2, 3, 4, 5, 6, 7, 8] rfl ?_
          exact E97_0
        · have ht97 := ite_f c108 ht97
          refine r_iload (pc := 111) 1 (by decide +kernel) rfl ?_
          refine r_istore_n (pc := 113) (n := 3) (lv' := [(3, (0, x72.1)), (8, (0, x84.1)), (7, (0, x72.1)), (0, (2, v0)), (1, (2, v1)), (2, (0, v2)), (4, (0, v4)), (5, (0, v5)), (6, (0, v6))]) (by decide +kernel) rfl (Nat.le_of_ble_eq_true rfl) rfl ?_
          refine r_aload_n (pc := 114) 3 (n := 0) (by decide +kernel) rfl rfl ?_
          obtain ⟨g115, q115, ht97⟩ := bnd ht97
          refine r_get (pc := 115) (by decide +kernel) fl_Machine_24.r (by decide) rfl q115 ?_
          refine r_iload_n (pc := 118) 5 (n := 2) (by decide +kernel) rfl rfl ?_
          refine r_iload (pc := 119) 1 (by decide +kernel) rfl ?_
          obtain ⟨m121, q121, ht97⟩ := bnd ht97
          refine r_iast (pc := 121) (by decide +kernel) q121 ?_
          refine r_aload_n (pc := 122) 3 (n := 0) (by decide +kernel) rfl rfl ?_
          obtain ⟨g123, q123, ht97⟩ := bnd ht97
          refine r_get (pc := 123) (by decide +kernel) fl_Machine_15.r (by decide) rfl q123 ?_
          refine r_iload_n (pc := 126) 5 (n := 2) (by decide +kernel) rfl rfl ?_
          refine r_iload (pc := 127) 6 (by decide +kernel) rfl ?_
          obtain ⟨m129, q129, ht97⟩ := bnd ht97
          refine r_iast (pc := 129) (by decide +kernel) q129 ?_
          refine r_aload_n (pc := 130) 3 (n := 0) (by decide +kernel) rfl rfl ?_
          obtain ⟨g131, q131, ht97⟩ := bnd ht97
          refine r_get (pc := 131) (by decide +kernel) fl_Machine_18.r (by decide) rfl q131 ?_
          refine r_iload_n (pc := 134) 5 (n := 2) (by decide +kernel) rfl rfl ?_
          refine r_iload (pc := 135) 7 (by decide +kernel) rfl ?_
          obtain ⟨m137, q137, ht97⟩ := bnd ht97
          refine r_iast (pc := 137) (by decide +kernel) q137 ?_
          refine r_aload_n (pc := 138) 3 (n := 0) (by decide +kernel) rfl rfl ?_
          obtain ⟨g139, q139, ht97⟩ := bnd ht97
          refine r_get (pc := 139) (by decide +kernel) fl_Machine_21.r (by decide) rfl q139 ?_
          refine r_iload_n (pc := 142) 5 (n := 2) (by decide +kernel) rfl rfl ?_
          refine r_iload (pc := 143) 8 (by decide +kernel) rfl ?_
          obtain ⟨m145, q145, ht97⟩ := bnd ht97
          refine r_iast (pc := 145) (by decide +kernel) q145 ?_
          obtain rfl := Option.some.inj ht97
          refine r_lv [3, 4, 5, 0, 6, 7, 8] rfl ?_
          exact E97_0
theorem sL_Machine_findFirst_29 {d mc ms : Nat} (hd : 4 ≤ d) {r : Int × Mem} {k : Int → Mem → Option (Int × Mem)} {v0 : Int} {v1 : Int} {v2 : Int} {v4 : Int} (hk : ∀ (v3 : Int) (M : Mem), k v3 M = some r → Rn Y_Machine_findFirst d mc ms 0 0 (some (0, r.1), r.2) 158 [(0, (2, v0)), (1, (2, v1)), (2, (0, v2)), (3, (0, v3)), (4, (0, v4))] [] M) : ∀ (n : Nat) (v3 : Int) (v5 : Int) (M : Mem), L_Machine_findFirst_29 k v0 v1 v2 v4 n v3 v5 M = some r → Rn Y_Machine_findFirst d mc ms 0 0 (some (0, r.1), r.2) 29 [(0, (2, v0)), (1, (2, v1)), (2, (0, v2)), (3, (0, v3)), (4, (0, v4)), (5, (0, v5))] [] M := by
  intro n
  induction n with
  | zero => intro _ _ _ h; cases h
  | succ n ih =>
    intro v3 v5 M h
    rw [L_Machine_findFirst_29] at h
    refine r_iload (pc := 29) 5 (by decide +kernel) rfl ?_
    refine r_aload_n (pc := 31) 0 (n := 0) (by decide +kernel) rfl rfl ?_
    obtain ⟨g32, q32, h⟩ := bnd h
    refine r_get (pc := 32) (by decide +kernel) fl_Machine_54.r (by decide) rfl q32 ?_
    refine r_iload (pc := 35) 4 (by decide +kernel) rfl ?_
    refine r_iconst (pc := 37) (z := 0) (by decide +kernel) ⟨by decide, by decide⟩ ?_
    refine r_iload_n (pc := 38) 2 (n := 2) (by decide +kernel) rfl rfl ?_
    obtain ⟨_, q39c, h⟩ := bnd h
    obtain ⟨x39, q39, h⟩ := bnd h
    refine r_callV (pc := 39) (i := 84) (d2 := d - 1) (As := [(0, v4), (0, 0), (0, v2)]) (st := [(0, v5)]) (st1 := [(0, v2), (0, 0), (0, v4), (2, g32), (0, v5)]) (by decide +kernel) yk_Signs_choices (by decide) rfl ⟨ml_Machine_84, vk_Signs_choices⟩ np_Signs_choices rfl (by omega) q39c (c_Signs_choices (d := d - 1) (by omega) q39) (Nat.le_of_ble_eq_true rfl) (Nat.le_of_ble_eq_true rfl) (Nat.le_of_ble_eq_true rfl) rfl ?_
    show Rn _ d _ _ 0 0 _ 42 [(0, (2, v0)), (1, (2, v1)), (2, (0, v2)), (3, (0, v3)), (4, (0, v4)), (5, (0, v5))] [(0, x39.1), (0, v5)] x39.2
    refine r_icmp_ge (pc := 42) (off := 116) (tgt := 158) (by decide +kernel) (by decide) (fun c42 => ?_) (fun c42 => ?_)
    · have h := ite_t c42 h
      refine r_lv [0, 1, 2, 3, 4] rfl ?_
      exact hk v3 x39.2 h
    · have h := ite_f c42 h
      refine r_iconst (pc := 45) (z := 0) (by decide +kernel) ⟨by decide, by decide⟩ ?_
      refine r_istore (pc := 46) (lv' := [(6, (0, 0)), (0, (2, v0)), (1, (2, v1)), (2, (0, v2)), (3, (0, v3)), (4, (0, v4)), (5, (0, v5))]) (by decide +kernel) (Nat.le_of_ble_eq_true rfl) rfl ?_
      refine r_lv [1, 2, 3, 4, 5, 6, 0] rfl ?_
      refine sL_Machine_findFirst_48 (by omega) ?_ _ _ _  _ h
      intro w3_48 m48 h
      refine r_iinc (pc := 152) 5 (n := 1) (lv' := [(5, (0, wr (v5 + 1))), (0, (2, v0)), (1, (2, v1)), (2, (0, v2)), (3, (0, w3_48)), (4, (0, v4))]) (by decide +kernel) rfl (Nat.le_of_ble_eq_true rfl) rfl ?_
      refine r_goto (pc := 155) (off := (-126)) (tgt := 29) (by decide +kernel) (by decide) ?_
      refine r_lv [1, 2, 3, 4, 5, 0] rfl ?_
      exact ih w3_48 (wr (v5 + 1)) m48 h
theorem sL_Machine_findFirst_14 {d mc ms : Nat} (hd : 4 ≤ d) {r : Int × Mem} {k : Int → Mem → Option (Int × Mem)} {v0 : Int} {v1 : Int} {v2 : Int} (hk : ∀ (v3 : Int) (M : Mem), k v3 M = some r → Rn Y_Machine_findFirst d mc ms 0 0 (some (0, r.1), r.2) 164 [(3, (0, v3))] [] M) : ∀ (n : Nat) (v3 : Int) (v4 : Int) (M : Mem), L_Machine_findFirst_14 k v0 v1 v2 n v3 v4 M = some r → Rn Y_Machine_findFirst d mc ms 0 0 (some (0, r.1), r.2) 14 [(0, (2, v0)), (1, (2, v1)), (2, (0, v2)), (3, (0, v3)), (4, (0, v4))] [] M := by
  intro n
  induction n with
  | zero => intro _ _ _ h; cases h
  | succ n ih =>
    intro v3 v4 M h
    rw [L_Machine_findFirst_14] at h
    refine r_iload (pc := 14) 4 (by decide +kernel) rfl ?_
    refine r_aload_n (pc := 16) 0 (n := 0) (by decide +kernel) rfl rfl ?_
    obtain ⟨g17, q17, h⟩ := bnd h
    refine r_get (pc := 17) (by decide +kernel) fl_Machine_54.r (by decide) rfl q17 ?_
    obtain ⟨g20, q20, h⟩ := bnd h
    refine r_get (pc := 20) (by decide +kernel) fl_Machine_81.r (by decide) rfl q20 ?_
    refine r_icmp_ge (pc := 23) (off := 141) (tgt := 164) (by decide +kernel) (by decide) (fun c23 => ?_) (fun c23 => ?_)
    · have h := ite_t c23 h
      refine r_lv [3] rfl ?_
      exact hk v3 M h
    · have h := ite_f c23 h
      refine r_iconst (pc := 26) (z := 0) (by decide +kernel) ⟨by decide, by decide⟩ ?_
      refine r_istore (pc := 27) (lv' := [(5, (0, 0)), (0, (2, v0)), (1, (2, v1)), (2, (0, v2)), (3, (0, v3)), (4, (0, v4))]) (by decide +kernel) (Nat.le_of_ble_eq_true rfl) rfl ?_
      refine r_lv [1, 2, 3, 4, 5, 0] rfl ?_
      refine sL_Machine_findFirst_29 (by omega) ?_ _ _ _  _ h
      intro w3_29 m29 h
      refine r_iinc (pc := 158) 4 (n := 1) (lv' := [(4, (0, wr (v4 + 1))), (0, (2, v0)), (1, (2, v1)), (2, (0, v2)), (3, (0, w3_29))]) (by decide +kernel) rfl (Nat.le_of_ble_eq_true rfl) rfl ?_
      refine r_goto (pc := 161) (off := (-147)) (tgt := 14) (by decide +kernel) (by decide) ?_
      refine r_lv [1, 2, 3, 4, 0] rfl ?_
      exact ih w3_29 (wr (v4 + 1)) m29 h
theorem c_Machine_findFirst {d : Nat} (hd : 4 ≤ d) {a0 a1 a2 : Int} {M : Mem} {x : Int × Mem} (h : D_Machine_findFirst a0 a1 a2 M = some x) : Ct d Y_Machine_findFirst [(2, a0), (2, a1), (0, a2)] M (some (0, x.1), x.2) 0 0 := by
  refine ct_of yk_Machine_findFirst (Nat.le_of_ble_eq_true rfl) ?_
  rw [D_Machine_findFirst] at h
  show Rn Y_Machine_findFirst d 0 0 0 0 (some (0, x.1), x.2) 0 [(0, (2, a0)), (1, (2, a1)), (2, (0, a2))] [] M
  refine r_iconst (pc := 0) (z := 0) (by decide +kernel) ⟨by decide, by decide⟩ ?_
  refine r_istore_n (pc := 1) (n := 3) (lv' := [(3, (0, 0)), (0, (2, a0)), (1, (2, a1)), (2, (0, a2))]) (by decide +kernel) rfl (Nat.le_of_ble_eq_true rfl) rfl ?_
  refine r_aload_n (pc := 2) 1 (n := 0) (by decide +kernel) rfl rfl ?_
  obtain ⟨g3, q3, h⟩ := bnd h
  refine r_get (pc := 3) (by decide +kernel) fl_Machine_24.r (by decide) rfl q3 ?_
  refine r_iload_n (pc := 6) 3 (n := 2) (by decide +kernel) rfl rfl ?_
  refine r_sipush (pc := 7) (z := 1000) (by decide +kernel) ⟨by decide, by decide⟩ ?_
  obtain ⟨m10, q10, h⟩ := bnd h
  refine r_iast (pc := 10) (by decide +kernel) q10 ?_
  refine r_iconst (pc := 11) (z := 0) (by decide +kernel) ⟨by decide, by decide⟩ ?_
  refine r_istore (pc := 12) (lv' := [(4, (0, 0)), (3, (0, 0)), (0, (2, a0)), (1, (2, a1)), (2, (0, a2))]) (by decide +kernel) (Nat.le_of_ble_eq_true rfl) rfl ?_
  refine r_lv [2, 3, 4, 1, 0] rfl ?_
  refine sL_Machine_findFirst_14 (by omega) ?_ _ _ _  _ h
  intro w3_14 m14 h
  refine r_iload_n (pc := 164) 0 (n := 3) (by decide +kernel) rfl rfl ?_
  obtain rfl := Option.some.inj h
  exact r_ret (pc := 165) (r := some (0, w3_14)) (by decide +kernel) rfl trivial (Nat.le_of_ble_eq_true rfl) (Nat.le_of_ble_eq_true rfl)
