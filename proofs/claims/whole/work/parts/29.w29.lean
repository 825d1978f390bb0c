/-! TreeTonguesModel.tree(IJ)I -/
noncomputable def L_M_tree_45 (k : Mem → Option (Int × Mem)) (v0 : Int) : Nat → Int → Int → Mem → Option (Int × Mem)
  | 0 => fun _ _ _ => none
  | n + 1 => fun v4 v6 M => if 40 < v6 then (k  M) else ((ck M v0 9 54).bind fun _ => (D_M_countIn v0 v6 M).bind fun x55 => if 0 ≤ (lc v4 x55.1) then (lt (wl (v4 - x55.1)) fun u4_82 => L_M_tree_45 k v0 n u4_82 (wr (v6 + 1)) x55.2) else ((ck x55.2 v0 9 54).bind fun _ => (D_M_layTree v0 v6 v4 x55.2).bind fun x73 => some (x73.1, x73.2)))
noncomputable def D_M_tree (a0 a1 a2 : Int) (M : Mem) : Option (Int × Mem) := (ck M a0 9 54).bind fun _ => (D_M_isTongue a0 a1 M).bind fun x2 => if x2.1 = 0 then (some ((-2), x2.2)) else ((D_M_in a2 0 999999999999999999 x2.2).bind fun x13 => if x13.1 = 0 then (some ((-2), x13.2)) else ((ck x13.2 a0 9 54).bind fun _ => (D_M_load a0 a1 16 x13.2).bind fun x26 => if 0 ≤ x26.1 then ((ck x26.2 a0 9 54).bind fun _ => (D_M_countAll a0 x26.2).bind fun x36 => L_M_tree_45 (fun  m45 => some ((-1), m45)) a0 FU a2 1 x36) else (some ((-5), x26.2))))
theorem sL_M_tree_45 {d mc ms : Nat} (hd : 9 ≤ d) {r : Int × Mem} {k : Mem → Option (Int × Mem)} {v0 : Int} (hk : ∀ (M : Mem), k M = some r → Rn Y_M_tree d mc ms 0 0 (some (0, r.1), r.2) 90 [] [] M) : ∀ (n : Nat) (v4 : Int) (v6 : Int) (M : Mem), L_M_tree_45 k v0 n v4 v6 M = some r → Rn Y_M_tree d mc ms 0 0 (some (0, r.1), r.2) 45 [(0, (2, v0)), (4, (1, v4)), (6, (0, v6))] [] M := by
  intro n
  induction n with
  | zero => intro _ _ _ h; cases h
  | succ n ih =>
    intro v4 v6 M h
    rw [L_M_tree_45] at h
    refine r_iload (pc := 45) 2 (by decide +kernel) rfl ?_
    refine r_bipush (pc := 47) (z := 40) (by decide +kernel) ⟨by decide, by decide⟩ ?_
    refine r_icmp_gt (pc := 49) (off := 41) (tgt := 90) (by decide +kernel) (by decide) (fun c49 => ?_) (fun c49 => ?_)
    · have h := ite_t c49 h
      refine r_lv [] rfl ?_
      exact hk  M h
    · have h := ite_f c49 h
      refine r_aload_n (pc := 52) 0 (n := 0) (by decide +kernel) rfl rfl ?_
      refine r_iload (pc := 53) 2 (by decide +kernel) rfl ?_
      obtain ⟨_, q55c, h⟩ := bnd h
      obtain ⟨x55, q55, h⟩ := bnd h
      refine r_callV (pc := 55) (i := 307) (d2 := d - 1) (As := [(0, v6)]) (st := []) (st1 := [(0, v6), (2, v0)]) (by decide +kernel) yk_M_countIn (by decide) rfl ⟨ml_M_307, vk_M_countIn⟩ np_M_countIn rfl (by omega) q55c (c_M_countIn (d := d - 1) (by omega) q55) (Nat.le_of_ble_eq_true rfl) (Nat.le_of_ble_eq_true rfl) (Nat.le_of_ble_eq_true rfl) rfl ?_
      show Rn _ d _ _ 0 0 _ 58 [(0, (2, v0)), (4, (1, v4)), (6, (0, v6))] [(1, x55.1)] x55.2
      refine r_lstore (pc := 58) (lv' := [(7, (1, x55.1)), (0, (2, v0)), (4, (1, v4)), (6, (0, v6))]) (by decide +kernel) (Nat.le_of_ble_eq_true rfl) rfl ?_
      refine r_lload (pc := 60) 2 (by decide +kernel) rfl ?_
      refine r_lload (pc := 62) 0 (by decide +kernel) rfl ?_
      refine r_lcmp (pc := 64) (by decide +kernel) ?_
      refine r_if_ge (pc := 65) (off := 12) (tgt := 77) (by decide +kernel) (by decide) (fun c65 => ?_) (fun c65 => ?_)
      · have h := ite_t c65 h
        refine r_lload (pc := 77) 2 (by decide +kernel) rfl ?_
        refine r_lload (pc := 79) 0 (by decide +kernel) rfl ?_
        refine r_lsub (pc := 81) (by decide +kernel) ?_
        obtain ⟨u4_82, q82, h⟩ := lt_o h
        refine r_eq q82 ?_
        refine r_lstore (pc := 82) (lv' := [(4, (1, u4_82)), (7, (1, x55.1)), (0, (2, v0)), (6, (0, v6))]) (by decide +kernel) (Nat.le_of_ble_eq_true rfl) rfl ?_
        refine r_iinc (pc := 84) 3 (n := 1) (lv' := [(6, (0, wr (v6 + 1))), (4, (1, u4_82)), (7, (1, x55.1)), (0, (2, v0))]) (by decide +kernel) rfl (Nat.le_of_ble_eq_true rfl) rfl ?_
        refine r_goto (pc := 87) (off := (-42)) (tgt := 45) (by decide +kernel) (by decide) ?_
        refine r_lv [3, 1, 0] rfl ?_
        exact ih u4_82 (wr (v6 + 1)) x55.2 h
      · have h := ite_f c65 h
        refine r_aload_n (pc := 68) 1 (n := 0) (by decide +kernel) rfl rfl ?_
        refine r_iload (pc := 69) 3 (by decide +kernel) rfl ?_
        refine r_lload (pc := 71) 2 (by decide +kernel) rfl ?_
        obtain ⟨_, q73c, h⟩ := bnd h
        obtain ⟨x73, q73, h⟩ := bnd h
        refine r_callV (pc := 73) (i := 337) (d2 := d - 1) (As := [(0, v6), (1, v4)]) (st := []) (st1 := [(1, v4), (0, v6), (2, v0)]) (by decide +kernel) yk_M_layTree (by decide) rfl ⟨ml_M_337, vk_M_layTree⟩ np_M_layTree rfl (by omega) q73c (c_M_layTree (d := d - 1) (by omega) q73) (Nat.le_of_ble_eq_true rfl) (Nat.le_of_ble_eq_true rfl) (Nat.le_of_ble_eq_true rfl) rfl ?_
        show Rn _ d _ _ 0 0 _ 76 [(7, (1, x55.1)), (0, (2, v0)), (4, (1, v4)), (6, (0, v6))] [(0, x73.1)] x73.2
        obtain rfl := Option.some.inj h
        exact r_ret (pc := 76) (r := some (0, x73.1)) (by decide +kernel) rfl trivial (Nat.le_of_ble_eq_true rfl) (Nat.le_of_ble_eq_true rfl)
theorem c_M_tree {d : Nat} (hd : 9 ≤ d) {a0 a1 a2 : Int} {M : Mem} {x : Int × Mem} (h : D_M_tree a0 a1 a2 M = some x) : Ct d Y_M_tree [(2, a0), (0, a1), (1, a2)] M (some (0, x.1), x.2) 0 0 := by
  refine ct_of yk_M_tree (Nat.le_of_ble_eq_true rfl) ?_
  rw [D_M_tree] at h
  show Rn Y_M_tree d 0 0 0 0 (some (0, x.1), x.2) 0 [(0, (2, a0)), (1, (0, a1)), (2, (1, a2))] [] M
  refine r_aload_n (pc := 0) 0 (n := 0) (by decide +kernel) rfl rfl ?_
  refine r_iload_n (pc := 1) 1 (n := 1) (by decide +kernel) rfl rfl ?_
  obtain ⟨_, q2c, h⟩ := bnd h
  obtain ⟨x2, q2, h⟩ := bnd h
  refine r_callV (pc := 2) (i := 146) (d2 := d - 1) (As := [(0, a1)]) (st := []) (st1 := [(0, a1), (2, a0)]) (by decide +kernel) yk_M_isTongue (by decide) rfl ⟨ml_M_146, vk_M_isTongue⟩ np_M_isTongue rfl (by omega) q2c (c_M_isTongue (d := d - 1) (by omega) q2) (Nat.le_of_ble_eq_true rfl) (Nat.le_of_ble_eq_true rfl) (Nat.le_of_ble_eq_true rfl) rfl ?_
  show Rn _ d _ _ 0 0 _ 5 [(0, (2, a0)), (1, (0, a1)), (2, (1, a2))] [(0, x2.1)] x2.2
  refine r_if_eq (pc := 5) (off := 14) (tgt := 19) (by decide +kernel) (by decide) (fun c5 => ?_) (fun c5 => ?_)
  · have h := ite_t c5 h
    refine r_bipush (pc := 19) (z := (-2)) (by decide +kernel) ⟨by decide, by decide⟩ ?_
    obtain rfl := Option.some.inj h
    exact r_ret (pc := 21) (r := some (0, (-2))) (by decide +kernel) rfl trivial (Nat.le_of_ble_eq_true rfl) (Nat.le_of_ble_eq_true rfl)
  · have h := ite_f c5 h
    refine r_lload_n (pc := 8) 2 (n := 2) (by decide +kernel) rfl rfl ?_
    refine r_lconst (pc := 9) (n := 0) (z := 0) (by decide +kernel) rfl ?_
    refine r_ldc2 (pc := 10) (i := 335) (z := 999999999999999999) (by decide +kernel) (mg 1317 (by decide +kernel) (by decide +kernel)) ⟨by decide, by decide⟩ ?_
    obtain ⟨x13, q13, h⟩ := bnd h
    refine r_callS (pc := 13) (i := 128) (d2 := d - 1) (As := [(1, a2), (1, 0), (1, 999999999999999999)]) (st := []) (st1 := [(1, 999999999999999999), (1, 0), (1, a2)]) (by decide +kernel) yk_M_in ⟨ml_M_128, sk_M_in⟩ np_M_in rfl (by omega) (c_M_in (d := d - 1) (by omega) q13) (Nat.le_of_ble_eq_true rfl) (Nat.le_of_ble_eq_true rfl) (Nat.le_of_ble_eq_true rfl) rfl ?_
    show Rn _ d _ _ 0 0 _ 16 [(0, (2, a0)), (1, (0, a1)), (2, (1, a2))] [(0, x13.1)] x13.2
    refine r_if_ne (pc := 16) (off := 6) (tgt := 22) (by decide +kernel) (by decide) (fun c16 => ?_) (fun c16 => ?_)
    · have h := ite_f c16 h
      refine r_aload_n (pc := 22) 0 (n := 0) (by decide +kernel) rfl rfl ?_
      refine r_iload_n (pc := 23) 1 (n := 1) (by decide +kernel) rfl rfl ?_
      refine r_bipush (pc := 24) (z := 16) (by decide +kernel) ⟨by decide, by decide⟩ ?_
      obtain ⟨_, q26c, h⟩ := bnd h
      obtain ⟨x26, q26, h⟩ := bnd h
      refine r_callV (pc := 26) (i := 260) (d2 := d - 1) (As := [(0, a1), (0, 16)]) (st := []) (st1 := [(0, 16), (0, a1), (2, a0)]) (by decide +kernel) yk_M_load (by decide) rfl ⟨ml_M_260, vk_M_load⟩ np_M_load rfl (by omega) q26c (c_M_load (d := d - 1) (by omega) q26) (Nat.le_of_ble_eq_true rfl) (Nat.le_of_ble_eq_true rfl) (Nat.le_of_ble_eq_true rfl) rfl ?_
      show Rn _ d _ _ 0 0 _ 29 [(0, (2, a0)), (1, (0, a1)), (2, (1, a2))] [(0, x26.1)] x26.2
      refine r_if_ge (pc := 29) (off := 6) (tgt := 35) (by decide +kernel) (by decide) (fun c29 => ?_) (fun c29 => ?_)
      · have h := ite_t c29 h
        refine r_aload_n (pc := 35) 0 (n := 0) (by decide +kernel) rfl rfl ?_
        obtain ⟨_, q36c, h⟩ := bnd h
        obtain ⟨x36, q36, h⟩ := bnd h
        refine r_callV (pc := 36) (i := 304) (d2 := d - 1) (As := []) (st := []) (st1 := [(2, a0)]) (by decide +kernel) yk_M_countAll (by decide) rfl ⟨ml_M_304, vk_M_countAll⟩ np_M_countAll rfl (by omega) q36c (c_M_countAll (d := d - 1) (by omega) q36) (Nat.le_of_ble_eq_true rfl) (Nat.le_of_ble_eq_true rfl) (Nat.le_of_ble_eq_true rfl) rfl ?_
        show Rn _ d _ _ 0 0 _ 39 [(0, (2, a0)), (1, (0, a1)), (2, (1, a2))] [] x36
        refine r_lload_n (pc := 39) 2 (n := 2) (by decide +kernel) rfl rfl ?_
        refine r_lstore (pc := 40) (lv' := [(4, (1, a2)), (0, (2, a0)), (1, (0, a1)), (2, (1, a2))]) (by decide +kernel) (Nat.le_of_ble_eq_true rfl) rfl ?_
        refine r_iconst (pc := 42) (z := 1) (by decide +kernel) ⟨by decide, by decide⟩ ?_
        refine r_istore (pc := 43) (lv' := [(6, (0, 1)), (4, (1, a2)), (0, (2, a0)), (1, (0, a1)), (2, (1, a2))]) (by decide +kernel) (Nat.le_of_ble_eq_true rfl) rfl ?_
        refine r_lv [2, 1, 0] rfl ?_
        refine sL_M_tree_45 (by omega) ?_ _ _ _  _ h
        intro m45 h
        refine r_iconst (pc := 90) (z := (-1)) (by decide +kernel) ⟨by decide, by decide⟩ ?_
        obtain rfl := Option.some.inj h
        exact r_ret (pc := 91) (r := some (0, (-1))) (by decide +kernel) rfl trivial (Nat.le_of_ble_eq_true rfl) (Nat.le_of_ble_eq_true rfl)
      · have h := ite_f c29 h
        refine r_bipush (pc := 32) (z := (-5)) (by decide +kernel) ⟨by decide, by decide⟩ ?_
        obtain rfl := Option.some.inj h
        exact r_ret (pc := 34) (r := some (0, (-5))) (by decide +kernel) rfl trivial (Nat.le_of_ble_eq_true rfl) (Nat.le_of_ble_eq_true rfl)
    · have h := ite_t c16 h
      refine r_bipush (pc := 19) (z := (-2)) (by decide +kernel) ⟨by decide, by decide⟩ ?_
      obtain rfl := Option.some.inj h
      exact r_ret (pc := 21) (r := some (0, (-2))) (by decide +kernel) rfl trivial (Nat.le_of_ble_eq_true rfl) (Nat.le_of_ble_eq_true rfl)

/-! TreeTonguesModel.aheadAt(I)J -/
noncomputable def L_M_aheadAt_44 (k : Int → Mem → Option (Int × Mem)) (v0 : Int) (v1 : Int) (v2 : Int) (v3 : Int) (v6 : Int) : Nat → Int → Int → Mem → Option (Int × Mem)
  | 0 => fun _ _ _ => none
  | n + 1 => fun v4 v7 M => (gf M v0 9 54 1).bind fun g47 => (rd M 10 g47 v6).bind fun e52 => (if e52 = 2 then (some (wr (v3 - 2))) else (some 0)).bind fun (t54 : Int) => if t54 < v7 then (k v4 M) else ((ck M v0 9 54).bind fun _ => (D_M_weigh v0 v1 v6 v3 v7 M).bind fun x76 => (D_M_plus v4 x76.1 x76.2).bind fun x79 => L_M_aheadAt_44 k v0 v1 v2 v3 v6 n x79.1 (wr (v7 + 1)) x79.2)
noncomputable def L_M_aheadAt_20 (k : Int → Mem → Option (Int × Mem)) (v0 : Int) (v1 : Int) (v2 : Int) (v3 : Int) : Nat → Int → Int → Mem → Option (Int × Mem)
  | 0 => fun _ _ _ => none
  | n + 1 => fun v4 v6 M => if v2 ≤ v6 then (k v4 M) else ((gf M v0 9 54 1).bind fun g27 => (rd M 10 g27 v6).bind fun e32 => (if e32 = 2 then (some 1) else (some 0)).bind fun (t34 : Int) => L_M_aheadAt_44 (fun w4_44 m44 => L_M_aheadAt_20 k v0 v1 v2 v3 n w4_44 (wr (v6 + 1)) m44) v0 v1 v2 v3 v6 FU v4 t34 M)
noncomputable def L_M_aheadAt_121 (k : Int → Mem → Option (Int × Mem)) (v0 : Int) (v1 : Int) (v2 : Int) (v3 : Int) (v6 : Int) : Nat → Int → Int → Mem → Option (Int × Mem)
  | 0 => fun _ _ _ => none
  | n + 1 => fun v4 v7 M => (if v6 ≤ v7 then (some 0) else ((gf M v0 9 54 1).bind fun g129 => (rd M 10 g129 v2).bind fun e133 => if e133 = 2 then (some 1) else (some 0))).bind fun (t125 : Int) => if t125 = 0 then (k v4 M) else ((ck M v0 9 54).bind fun _ => (D_M_weigh v0 v1 v2 v3 v7 M).bind fun x146 => (D_M_plus v4 x146.1 x146.2).bind fun x149 => L_M_aheadAt_121 k v0 v1 v2 v3 v6 n x149.1 (wr (v7 + 1)) x149.2)
noncomputable def D_M_aheadAt (a0 a1 : Int) (M : Mem) : Option (Int × Mem) := (gf M a0 9 54 2).bind fun g1 => (rd M 10 g1 a1).bind fun e5 => (gf M a0 9 54 44).bind fun g8 => (rd M 10 g8 a1).bind fun e12 => L_M_aheadAt_20 (fun w4_20 m20 => (gf m20 a0 9 54 1).bind fun g97 => (rd m20 10 g97 e5).bind fun e101 => if e101 = 0 then (some (w4_20, m20)) else ((gf m20 a0 9 54 44).bind fun g109 => (rd m20 10 g109 (wr (a1 + 1))).bind fun e115 => L_M_aheadAt_121 (fun w4_121 m121 => (ck m121 a0 9 54).bind fun _ => (D_M_layWeights a0 a1 (wr (a1 + 1)) e5 0 0 (wr ((wr (e12 - 1)) - e115)) m121).bind fun x174 => (gf x174 a0 9 54 1).bind fun g178 => (rd x174 10 g178 e5).bind fun e182 => (if e182 = 2 then ((gf x174 a0 9 54 43).bind fun g198 => (rd x174 10 g198 (wr (a1 + 1))).bind fun e204 => (ck x174 a0 9 54).bind fun _ => (D_M_layWeights a0 a1 (wr ((wr (a1 + 1)) + e115)) e5 1 e204 0 x174).bind fun x206 => some x206) else (some x174)).bind fun (t184 : Mem) => some (w4_121, t184)) a0 a1 e5 e12 e115 FU w4_20 1 m20)) a0 a1 e5 e12 FU 0 0 M
theorem sL_M_aheadAt_44 {d mc ms : Nat} (hd : 4 ≤ d) {r : Int × Mem} {k : Int → Mem → Option (Int × Mem)} {v0 : Int} {v1 : Int} {v2 : Int} {v3 : Int} {v6 : Int} (hk : ∀ (v4 : Int) (M : Mem), k v4 M = some r → Rn Y_M_aheadAt d mc ms 0 0 (some (1, r.1), r.2) 90 [(0, (2, v0)), (1, (0, v1)), (2, (0, v2)), (3, (0, v3)), (4, (1, v4)), (6, (0, v6))] [] M) : ∀ (n : Nat) (v4 : Int) (v7 : Int) (M : Mem), L_M_aheadAt_44 k v0 v1 v2 v3 v6 n v4 v7 M = some r → Rn Y_M_aheadAt d mc ms 0 0 (some (1, r.1), r.2) 44 [(0, (2, v0)), (1, (0, v1)), (2, (0, v2)), (3, (0, v3)), (4, (1, v4)), (6, (0, v6)), (7, (0, v7))] [] M := by
  intro n
  induction n with
  | zero => intro _ _ _ h; cases h
  | succ n ih =>
    intro v4 v7 M h
    rw [L_M_aheadAt_44] at h
    refine r_iload (pc := 44) 6 (by decide +kernel) rfl ?_
    refine r_aload_n (pc := 46) 0 (n := 0) (by decide +kernel) rfl rfl ?_
    obtain ⟨g47, q47, h⟩ := bnd h
    refine r_get (pc := 47) (by decide +kernel) fl_M_7.r (by decide) rfl q47 ?_
    refine r_iload (pc := 50) 5 (by decide +kernel) rfl ?_
    obtain ⟨e52, q52, h⟩ := bnd h
    refine r_iald (pc := 52) (by decide +kernel) q52 ?_
    refine r_iconst (pc := 53) (z := 2) (by decide +kernel) ⟨by decide, by decide⟩ ?_
    obtain ⟨t54, ht54, h⟩ := bnd h
    have E54_0 : Rn Y_M_aheadAt d mc ms 0 0 (some (1, r.1), r.2) 64 [(0, (2, v0)), (1, (0, v1)), (2, (0, v2)), (3, (0, v3)), (4, (1, v4)), (6, (0, v6)), (7, (0, v7))] [(0, t54), (0, v7)] M := by
      refine r_icmp_gt (pc := 64) (off := 26) (tgt := 90) (by decide +kernel) (by decide) (fun c64 => ?_) (fun c64 => ?_)
      · have h := ite_t c64 h
        refine r_lv [0, 1, 2, 3, 4, 5] rfl ?_
        exact hk v4 M h
      · have h := ite_f c64 h
        refine r_lload (pc := 67) 4 (by decide +kernel) rfl ?_
        refine r_aload_n (pc := 69) 0 (n := 0) (by decide +kernel) rfl rfl ?_
        refine r_iload_n (pc := 70) 1 (n := 1) (by decide +kernel) rfl rfl ?_
        refine r_iload (pc := 71) 5 (by decide +kernel) rfl ?_
        refine r_iload_n (pc := 73) 3 (n := 3) (by decide +kernel) rfl rfl ?_
        refine r_iload (pc := 74) 6 (by decide +kernel) rfl ?_
        obtain ⟨_, q76c, h⟩ := bnd h
        obtain ⟨x76, q76, h⟩ := bnd h
        refine r_callV (pc := 76) (i := 315) (d2 := d - 1) (As := [(0, v1), (0, v6), (0, v3), (0, v7)]) (st := [(1, v4)]) (st1 := [(0, v7), (0, v3), (0, v6), (0, v1), (2, v0), (1, v4)]) (by decide +kernel) yk_M_weigh (by decide) rfl ⟨ml_M_315, vk_M_weigh⟩ np_M_weigh rfl (by omega) q76c (c_M_weigh (d := d - 1) (by omega) q76) (Nat.le_of_ble_eq_true rfl) (Nat.le_of_ble_eq_true rfl) (Nat.le_of_ble_eq_true rfl) rfl ?_
        show Rn _ d _ _ 0 0 _ 79 [(0, (2, v0)), (1, (0, v1)), (2, (0, v2)), (3, (0, v3)), (4, (1, v4)), (6, (0, v6)), (7, (0, v7))] [(1, x76.1), (1, v4)] x76.2
        obtain ⟨x79, q79, h⟩ := bnd h
        refine r_callS (pc := 79) (i := 293) (d2 := d - 1) (As := [(1, v4), (1, x76.1)]) (st := []) (st1 := [(1, x76.1), (1, v4)]) (by decide +kernel) yk_M_plus ⟨ml_M_293, sk_M_plus⟩ np_M_plus rfl (by omega) (c_M_plus (d := d - 1) (by omega) q79) (Nat.le_of_ble_eq_true rfl) (Nat.le_of_ble_eq_true rfl) (Nat.le_of_ble_eq_true rfl) rfl ?_
        show Rn _ d _ _ 0 0 _ 82 [(0, (2, v0)), (1, (0, v1)), (2, (0, v2)), (3, (0, v3)), (4, (1, v4)), (6, (0, v6)), (7, (0, v7))] [(1, x79.1)] x79.2
        refine r_lstore (pc := 82) (lv' := [(4, (1, x79.1)), (0, (2, v0)), (1, (0, v1)), (2, (0, v2)), (3, (0, v3)), (6, (0, v6)), (7, (0, v7))]) (by decide +kernel) (Nat.le_of_ble_eq_true rfl) rfl ?_
        refine r_iinc (pc := 84) 6 (n := 1) (lv' := [(7, (0, wr (v7 + 1))), (4, (1, x79.1)), (0, (2, v0)), (1, (0, v1)), (2, (0, v2)), (3, (0, v3)), (6, (0, v6))]) (by decide +kernel) rfl (Nat.le_of_ble_eq_true rfl) rfl ?_
        refine r_goto (pc := 87) (off := (-43)) (tgt := 44) (by decide +kernel) (by decide) ?_
        refine r_lv [2, 3, 4, 5, 1, 6, 0] rfl ?_
        exact ih x79.1 (wr (v7 + 1)) x79.2 h
    refine r_icmp_ne (pc := 54) (off := 9) (tgt := 63) (by decide +kernel) (by decide) (fun c54 => ?_) (fun c54 => ?_)
    · have ht54 := ite_f c54 ht54
      refine r_iconst (pc := 63) (z := 0) (by decide +kernel) ⟨by decide, by decide⟩ ?_
      obtain rfl := Option.some.inj ht54
      exact E54_0
    · have ht54 := ite_t c54 ht54
      refine r_iload_n (pc := 57) 3 (n := 3) (by decide +kernel) rfl rfl ?_
      refine r_iconst (pc := 58) (z := 2) (by decide +kernel) ⟨by decide, by decide⟩ ?_
      refine r_isub (pc := 59) (by decide +kernel) ?_
      refine r_goto (pc := 60) (off := 4) (tgt := 64) (by decide +kernel) (by decide) ?_
      obtain rfl := Option.some.inj ht54
      exact E54_0
theorem sL_M_aheadAt_20 {d mc ms : Nat} (hd : 4 ≤ d) {r : Int × Mem} {k : Int → Mem → Option (Int × Mem)} {v0 : Int} {v1 : Int} {v2 : Int} {v3 : Int} (hk : ∀ (v4 : Int) (M : Mem), k v4 M = some r → Rn Y_M_aheadAt d mc ms 0 0 (some (1, r.1), r.2) 96 [(0, (2, v0)), (1, (0, v1)), (2, (0, v2)), (3, (0, v3)), (4, (1, v4))] [] M) : ∀ (n : Nat) (v4 : Int) (v6 : Int) (M : Mem), L_M_aheadAt_20 k v0 v1 v2 v3 n v4 v6 M = some r → Rn Y_M_aheadAt d mc ms 0 0 (some (1, r.1), r.2) 20 [(0, (2, v0)), (1, (0, v1)), (2, (0, v2)), (3, (0, v3)), (4, (1, v4)), (6, (0, v6))] [] M := by
  intro n
  induction n with
  | zero => intro _ _ _ h; cases h
  | succ n ih =>
    intro v4 v6 M h
    rw [L_M_aheadAt_20] at h
    refine r_iload (pc := 20) 5 (by decide +kernel) rfl ?_
    refine r_iload_n (pc := 22) 2 (n := 2) (by decide +kernel) rfl rfl ?_
    refine r_icmp_ge (pc := 23) (off := 73) (tgt := 96) (by decide +kernel) (by decide) (fun c23 => ?_) (fun c23 => ?_)
    · have h := ite_t c23 h
      refine r_lv [0, 1, 2, 3, 4] rfl ?_
      exact hk v4 M h
    · have h := ite_f c23 h
      refine r_aload_n (pc := 26) 0 (n := 0) (by decide +kernel) rfl rfl ?_
      obtain ⟨g27, q27, h⟩ := bnd h
      refine r_get (pc := 27) (by decide +kernel) fl_M_7.r (by decide) rfl q27 ?_
      refine r_iload (pc := 30) 5 (by decide +kernel) rfl ?_
      obtain ⟨e32, q32, h⟩ := bnd h
      refine r_iald (pc := 32) (by decide +kernel) q32 ?_
      refine r_iconst (pc := 33) (z := 2) (by decide +kernel) ⟨by decide, by decide⟩ ?_
      obtain ⟨t34, ht34, h⟩ := bnd h
      have E34_0 : Rn Y_M_aheadAt d mc ms 0 0 (some (1, r.1), r.2) 42 [(0, (2, v0)), (1, (0, v1)), (2, (0, v2)), (3, (0, v3)), (4, (1, v4)), (6, (0, v6))] [(0, t34)] M := by
        refine r_istore (pc := 42) (lv' := [(7, (0, t34)), (0, (2, v0)), (1, (0, v1)), (2, (0, v2)), (3, (0, v3)), (4, (1, v4)), (6, (0, v6))]) (by decide +kernel) (Nat.le_of_ble_eq_true rfl) rfl ?_
        refine r_lv [1, 2, 3, 4, 5, 6, 0] rfl ?_
        refine sL_M_aheadAt_44 (by omega) ?_ _ _ _  _ h
        intro w4_44 m44 h
        refine r_iinc (pc := 90) 5 (n := 1) (lv' := [(6, (0, wr (v6 + 1))), (0, (2, v0)), (1, (0, v1)), (2, (0, v2)), (3, (0, v3)), (4, (1, w4_44))]) (by decide +kernel) rfl (Nat.le_of_ble_eq_true rfl) rfl ?_
        refine r_goto (pc := 93) (off := (-73)) (tgt := 20) (by decide +kernel) (by decide) ?_
        refine r_lv [1, 2, 3, 4, 5, 0] rfl ?_
        exact ih w4_44 (wr (v6 + 1)) m44 h
      refine r_icmp_ne (pc := 34) (off := 7) (tgt := 41) (by decide +kernel) (by decide) (fun c34 => ?_) (fun c34 => ?_)
      · have ht34 := ite_f c34 ht34
        refine r_iconst (pc := 41) (z := 0) (by decide +kernel) ⟨by decide, by decide⟩ ?_
        obtain rfl := Option.some.inj ht34
        exact E34_0
      · have ht34 := ite_t c34 ht34
        refine r_iconst (pc := 37) (z := 1) (by decide +kernel) ⟨by decide, by decide⟩ ?_
        refine r_goto (pc := 38) (off := 4) (tgt := 42) (by decide +kernel) (by decide) ?_
        obtain rfl := Option.some.inj ht34
        exact E34_0
theorem sL_M_aheadAt_121 {d mc ms : Nat} (hd : 4 ≤ d) {r : Int × Mem} {k : Int → Mem → Option (Int × Mem)} {v0 : Int} {v1 : Int} {v2 : Int} {v3 : Int} {v6 : Int} (hk : ∀ (v4 : Int) (M : Mem), k v4 M = some r → Rn Y_M_aheadAt d mc ms 0 0 (some (1, r.1), r.2) 160 [(0, (2, v0)), (1, (0, v1)), (2, (0, v2)), (3, (0, v3)), (4, (1, v4)), (6, (0, v6))] [] M) : ∀ (n : Nat) (v4 : Int) (v7 : Int) (M : Mem), L_M_aheadAt_121 k v0 v1 v2 v3 v6 n v4 v7 M = some r → Rn Y_M_aheadAt d mc ms 0 0 (some (1, r.1), r.2) 121 [(0, (2, v0)), (1, (0, v1)), (2, (0, v2)), (3, (0, v3)), (4, (1, v4)), (6, (0, v6)), (7, (0, v7))] [] M := by
  intro n
  induction n with
  | zero => intro _ _ _ h; cases h
  | succ n ih =>
    intro v4 v7 M h
    rw [L_M_aheadAt_121] at h
    refine r_iload (pc := 121) 6 (by decide +kernel) rfl ?_
    refine r_iload (pc := 123) 5 (by decide +kernel) rfl ?_
    obtain ⟨t125, ht125, h⟩ := bnd h
    have E125_0 : t125 = 0 → Rn Y_M_aheadAt d mc ms 0 0 (some (1, r.1), r.2) 160 [(0, (2, v0)), (1, (0, v1)), (2, (0, v2)), (3, (0, v3)), (4, (1, v4)), (6, (0, v6))] [] M := by
      intro y0
      have h := ite_t y0 h
      exact hk v4 M h
    have E125_1 : ¬ t125 = 0 → Rn Y_M_aheadAt d mc ms 0 0 (some (1, r.1), r.2) 138 [(0, (2, v0)), (1, (0, v1)), (2, (0, v2)), (3, (0, v3)), (4, (1, v4)), (6, (0, v6)), (7, (0, v7))] [] M := by
      intro n0
      have h := ite_f n0 h
      refine r_lload (pc := 138) 4 (by decide +kernel) rfl ?_
      refine r_aload_n (pc := 140) 0 (n := 0) (by decide +kernel) rfl rfl ?_
      refine r_iload_n (pc := 141) 1 (n := 1) (by decide +kernel) rfl rfl ?_
      refine r_iload_n (pc := 142) 2 (n := 2) (by decide +kernel) rfl rfl ?_
      refine r_iload_n (pc := 143) 3 (n := 3) (by decide +kernel) rfl rfl ?_
      refine r_iload (pc := 144) 6 (by decide +kernel) rfl ?_
      obtain ⟨_, q146c, h⟩ := bnd h
      obtain ⟨x146, q146, h⟩ := bnd h
      refine r_callV (pc := 146) (i := 315) (d2 := d - 1) (As := [(0, v1), (0, v2), (0, v3), (0, v7)]) (st := [(1, v4)]) (st1 := [(0, v7), (0, v3), (0, v2), (0, v1), (2, v0), (1, v4)]) (by decide +kernel) yk_M_weigh (by decide) rfl ⟨ml_M_315, vk_M_weigh⟩ np_M_weigh rfl (by omega) q146c (c_M_weigh (d := d - 1) (by omega) q146) (Nat.le_of_ble_eq_true rfl) (Nat.le_of_ble_eq_true rfl) (Nat.le_of_ble_eq_true rfl) rfl ?_
      show Rn _ d _ _ 0 0 _ 149 [(0, (2, v0)), (1, (0, v1)), (2, (0, v2)), (3, (0, v3)), (4, (1, v4)), (6, (0, v6)), (7, (0, v7))] [(1, x146.1), (1, v4)] x146.2
      obtain ⟨x149, q149, h⟩ := bnd h
      refine r_callS (pc := 149) (i := 293) (d2 := d - 1) (As := [(1, v4), (1, x146.1)]) (st := []) (st1 := [(1, x146.1), (1, v4)]) (by decide +kernel) yk_M_plus ⟨ml_M_293, sk_M_plus⟩ np_M_plus rfl (by omega) (c_M_plus (d := d - 1) (by omega) q149) (Nat.le_of_ble_eq_true rfl) (Nat.le_of_ble_eq_true rfl) (Nat.le_of_ble_eq_true rfl) rfl ?_
      show Rn _ d _ _ 0 0 _ 152 [(0, (2, v0)), (1, (0, v1)), (2, (0, v2)), (3, (0, v3)), (4, (1, v4)), (6, (0, v6)), (7, (0, v7))] [(1, x149.1)] x149.2
      refine r_lstore (pc := 152) (lv' := [(4, (1, x149.1)), (0, (2, v0)), (1, (0, v1)), (2, (0, v2)), (3, (0, v3)), (6, (0, v6)), (7, (0, v7))]) (by decide +kernel) (Nat.le_of_ble_eq_true rfl) rfl ?_
      refine r_iinc (pc := 154) 6 (n := 1) (lv' := [(7, (0, wr (v7 + 1))), (4, (1, x149.1)), (0, (2, v0)), (1, (0, v1)), (2, (0, v2)), (3, (0, v3)), (6, (0, v6))]) (by decide +kernel) rfl (Nat.le_of_ble_eq_true rfl) rfl ?_
      refine r_goto (pc := 157) (off := (-36)) (tgt := 121) (by decide +kernel) (by decide) ?_
      refine r_lv [2, 3, 4, 5, 1, 6, 0] rfl ?_
      exact ih x149.1 (wr (v7 + 1)) x149.2 h
    refine r_icmp_ge (pc := 125) (off := 35) (tgt := 160) (by decide +kernel) (by decide) (fun c125 => ?_) (fun c125 => ?_)
    · have ht125 := ite_t c125 ht125
      obtain rfl := Option.some.inj ht125
      refine r_lv [0, 1, 2, 3, 4, 5] rfl ?_
      exact E125_0 rfl
    · have ht125 := ite_f c125 ht125
      refine r_aload_n (pc := 128) 0 (n := 0) (by decide +kernel) rfl rfl ?_
      obtain ⟨g129, q129, ht125⟩ := bnd ht125
      refine r_get (pc := 129) (by decide +kernel) fl_M_7.r (by decide) rfl q129 ?_
      refine r_iload_n (pc := 132) 2 (n := 2) (by decide +kernel) rfl rfl ?_
      obtain ⟨e133, q133, ht125⟩ := bnd ht125
      refine r_iald (pc := 133) (by decide +kernel) q133 ?_
      refine r_iconst (pc := 134) (z := 2) (by decide +kernel) ⟨by decide, by decide⟩ ?_
      refine r_icmp_ne (pc := 135) (off := 25) (tgt := 160) (by decide +kernel) (by decide) (fun c135 => ?_) (fun c135 => ?_)
      · have ht125 := ite_f c135 ht125
        obtain rfl := Option.some.inj ht125
        refine r_lv [0, 1, 2, 3, 4, 5] rfl ?_
        exact E125_0 rfl
      · have ht125 := ite_t c135 ht125
        obtain rfl := Option.some.inj ht125
        exact E125_1 (show ¬ (1 : Int) = 0 by decide)
theorem c_M_aheadAt {d : Nat} (hd : 4 ≤ d) {a0 a1 : Int} {M : Mem} {x : Int × Mem} (h : D_M_aheadAt a0 a1 M = some x) : Ct d Y_M_aheadAt [(2, a0), (0, a1)] M (some (1, x.1), x.2) 0 0 := by
  refine ct_of yk_M_aheadAt (Nat.le_of_ble_eq_true rfl) ?_
  rw [D_M_aheadAt] at h
  show Rn Y_M_aheadAt d 0 0 0 0 (some (1, x.1), x.2) 0 [(0, (2, a0)), (1, (0, a1))] [] M
  refine r_aload_n (pc := 0) 0 (n := 0) (by decide +kernel) rfl rfl ?_
  obtain ⟨g1, q1, h⟩ := bnd h
  refine r_get (pc := 1) (by decide +kernel) fl_M_13.r (by decide) rfl q1 ?_
  refine r_iload_n (pc := 4) 1 (n := 1) (by decide +kernel) rfl rfl ?_
  obtain ⟨e5, q5, h⟩ := bnd h
  refine r_iald (pc := 5) (by decide +kernel) q5 ?_
  refine r_istore_n (pc := 6) (n := 2) (lv' := [(2, (0, e5)), (0, (2, a0)), (1, (0, a1))]) (by decide +kernel) rfl (Nat.le_of_ble_eq_true rfl) rfl ?_
  refine r_aload_n (pc := 7) 1 (n := 0) (by decide +kernel) rfl rfl ?_
  obtain ⟨g8, q8, h⟩ := bnd h
  refine r_get (pc := 8) (by decide +kernel) fl_M_99.r (by decide) rfl q8 ?_
  refine r_iload_n (pc := 11) 2 (n := 1) (by decide +kernel) rfl rfl ?_
  obtain ⟨e12, q12, h⟩ := bnd h
  refine r_iald (pc := 12) (by decide +kernel) q12 ?_
  refine r_istore_n (pc := 13) (n := 3) (lv' := [(3, (0, e12)), (2, (0, e5)), (0, (2, a0)), (1, (0, a1))]) (by decide +kernel) rfl (Nat.le_of_ble_eq_true rfl) rfl ?_
  refine r_lconst (pc := 14) (n := 0) (z := 0) (by decide +kernel) rfl ?_
  refine r_lstore (pc := 15) (lv' := [(4, (1, 0)), (3, (0, e12)), (2, (0, e5)), (0, (2, a0)), (1, (0, a1))]) (by decide +kernel) (Nat.le_of_ble_eq_true rfl) rfl ?_
  refine r_iconst (pc := 17) (z := 0) (by decide +kernel) ⟨by decide, by decide⟩ ?_
  refine r_istore (pc := 18) (lv' := [(6, (0, 0)), (4, (1, 0)), (3, (0, e12)), (2, (0, e5)), (0, (2, a0)), (1, (0, a1))]) (by decide +kernel) (Nat.le_of_ble_eq_true rfl) rfl ?_
  refine r_lv [4, 5, 3, 2, 1, 0] rfl ?_
  refine sL_M_aheadAt_20 (by omega) ?_ _ _ _  _ h
  intro w4_20 m20 h
  refine r_aload_n (pc := 96) 0 (n := 0) (by decide +kernel) rfl rfl ?_
  obtain ⟨g97, q97, h⟩ := bnd h
  refine r_get (pc := 97) (by decide +kernel) fl_M_7.r (by decide) rfl q97 ?_
  refine r_iload_n (pc := 100) 2 (n := 2) (by decide +kernel) rfl rfl ?_
  obtain ⟨e101, q101, h⟩ := bnd h
  refine r_iald (pc := 101) (by decide +kernel) q101 ?_
  refine r_if_ne (pc := 102) (off := 6) (tgt := 108) (by decide +kernel) (by decide) (fun c102 => ?_) (fun c102 => ?_)
  · have h := ite_f c102 h
    refine r_aload_n (pc := 108) 0 (n := 0) (by decide +kernel) rfl rfl ?_
    obtain ⟨g109, q109, h⟩ := bnd h
    refine r_get (pc := 109) (by decide +kernel) fl_M_99.r (by decide) rfl q109 ?_
    refine r_iload_n (pc := 112) 1 (n := 1) (by decide +kernel) rfl rfl ?_
    refine r_iconst (pc := 113) (z := 1) (by decide +kernel) ⟨by decide, by decide⟩ ?_
    refine r_iadd (pc := 114) (by decide +kernel) ?_
    obtain ⟨e115, q115, h⟩ := bnd h
    refine r_iald (pc := 115) (by decide +kernel) q115 ?_
    refine r_istore (pc := 116) (lv' := [(6, (0, e115)), (0, (2, a0)), (1, (0, a1)), (2, (0, e5)), (3, (0, e12)), (4, (1, w4_20))]) (by decide +kernel) (Nat.le_of_ble_eq_true rfl) rfl ?_
    refine r_iconst (pc := 118) (z := 1) (by decide +kernel) ⟨by decide, by decide⟩ ?_
    refine r_istore (pc := 119) (lv' := [(7, (0, 1)), (6, (0, e115)), (0, (2, a0)), (1, (0, a1)), (2, (0, e5)), (3, (0, e12)), (4, (1, w4_20))]) (by decide +kernel) (Nat.le_of_ble_eq_true rfl) rfl ?_
    refine r_lv [2, 3, 4, 5, 6, 1, 0] rfl ?_
    refine sL_M_aheadAt_121 (by omega) ?_ _ _ _  _ h
    intro w4_121 m121 h
    refine r_aload_n (pc := 160) 0 (n := 0) (by decide +kernel) rfl rfl ?_
    refine r_iload_n (pc := 161) 1 (n := 1) (by decide +kernel) rfl rfl ?_
    refine r_iload_n (pc := 162) 1 (n := 1) (by decide +kernel) rfl rfl ?_
    refine r_iconst (pc := 163) (z := 1) (by decide +kernel) ⟨by decide, by decide⟩ ?_
    refine r_iadd (pc := 164) (by decide +kernel) ?_
    refine r_iload_n (pc := 165) 2 (n := 2) (by decide +kernel) rfl rfl ?_
    refine r_iconst (pc := 166) (z := 0) (by decide +kernel) ⟨by decide, by decide⟩ ?_
    refine r_iconst (pc := 167) (z := 0) (by decide +kernel) ⟨by decide, by decide⟩ ?_
    refine r_iload_n (pc := 168) 3 (n := 3) (by decide +kernel) rfl rfl ?_
    refine r_iconst (pc := 169) (z := 1) (by decide +kernel) ⟨by decide, by decide⟩ ?_
    refine r_isub (pc := 170) (by decide +kernel) ?_
    refine r_iload (pc := 171) 5 (by decide +kernel) rfl ?_
    refine r_isub (pc := 173) (by decide +kernel) ?_
    obtain ⟨_, q174c, h⟩ := bnd h
    obtain ⟨x174, q174, h⟩ := bnd h
    refine r_callV (pc := 174) (i := 331) (d2 := d - 1) (As := [(0, a1), (0, wr (a1 + 1)), (0, e5), (0, 0), (0, 0), (0, wr ((wr (e12 - 1)) - e115))]) (st := []) (st1 := [(0, wr ((wr (e12 - 1)) - e115)), (0, 0), (0, 0), (0, e5), (0, wr (a1 + 1)), (0, a1), (2, a0)]) (by decide +kernel) yk_M_layWeights (by decide) rfl ⟨ml_M_331, vk_M_layWeights⟩ np_M_layWeights rfl (by omega) q174c (c_M_layWeights (d := d - 1) (by omega) q174) (Nat.le_of_ble_eq_true rfl) (Nat.le_of_ble_eq_true rfl) (Nat.le_of_ble_eq_true rfl) rfl ?_
    show Rn _ d _ _ 0 0 _ 177 [(0, (2, a0)), (1, (0, a1)), (2, (0, e5)), (3, (0, e12)), (4, (1, w4_121)), (6, (0, e115))] [] x174
    refine r_aload_n (pc := 177) 0 (n := 0) (by decide +kernel) rfl rfl ?_
    obtain ⟨g178, q178, h⟩ := bnd h
    refine r_get (pc := 178) (by decide +kernel) fl_M_7.r (by decide) rfl q178 ?_
    refine r_iload_n (pc := 181) 2 (n := 2) (by decide +kernel) rfl rfl ?_
    obtain ⟨e182, q182, h⟩ := bnd h
    refine r_iald (pc := 182) (by decide +kernel) q182 ?_
    refine r_iconst (pc := 183) (z := 2) (by decide +kernel) ⟨by decide, by decide⟩ ?_
    obtain ⟨t184, ht184, h⟩ := bnd h
    have E184_0 : Rn Y_M_aheadAt d 0 0 0 0 (some (1, x.1), x.2) 209 [(4, (1, w4_121))] [] t184 := by
      refine r_lload (pc := 209) 0 (by decide +kernel) rfl ?_
      obtain rfl := Option.some.inj h
      exact r_ret (pc := 211) (r := some (1, w4_121)) (by decide +kernel) rfl trivial (Nat.le_of_ble_eq_true rfl) (Nat.le_of_ble_eq_true rfl)
    refine r_icmp_ne (pc := 184) (off := 25) (tgt := 209) (by decide +kernel) (by decide) (fun c184 => ?_) (fun c184 => ?_)
    · have ht184 := ite_f c184 ht184
      obtain rfl := Option.some.inj ht184
      refine r_lv [4] rfl ?_
      exact E184_0
    · have ht184 := ite_t c184 ht184
      refine r_aload_n (pc := 187) 0 (n := 0) (by decide +kernel) rfl rfl ?_
      refine r_iload_n (pc := 188) 1 (n := 1) (by decide +kernel) rfl rfl ?_
      refine r_iload_n (pc := 189) 1 (n := 1) (by decide +kernel) rfl rfl ?_
      refine r_iconst (pc := 190) (z := 1) (by decide +kernel) ⟨by decide, by decide⟩ ?_
      refine r_iadd (pc := 191) (by decide +kernel) ?_
      refine r_iload (pc := 192) 5 (by decide +kernel) rfl ?_
      refine r_iadd (pc := 194) (by decide +kernel) ?_
      refine r_iload_n (pc := 195) 2 (n := 2) (by decide +kernel) rfl rfl ?_
      refine r_iconst (pc := 196) (z := 1) (by decide +kernel) ⟨by decide, by decide⟩ ?_
      refine r_aload_n (pc := 197) 0 (n := 0) (by decide +kernel) rfl rfl ?_
      obtain ⟨g198, q198, ht184⟩ := bnd ht184
      refine r_get (pc := 198) (by decide +kernel) fl_M_96.r (by decide) rfl q198 ?_
      refine r_iload_n (pc := 201) 1 (n := 1) (by decide +kernel) rfl rfl ?_
      refine r_iconst (pc := 202) (z := 1) (by decide +kernel) ⟨by decide, by decide⟩ ?_
      refine r_iadd (pc := 203) (by decide +kernel) ?_
      obtain ⟨e204, q204, ht184⟩ := bnd ht184
      refine r_iald (pc := 204) (by decide +kernel) q204 ?_
      refine r_iconst (pc := 205) (z := 0) (by decide +kernel) ⟨by decide, by decide⟩ ?_
      obtain ⟨_, q206c, ht184⟩ := bnd ht184
      obtain ⟨x206, q206, ht184⟩ := bnd ht184
      refine r_callV (pc := 206) (i := 331) (d2 := d - 1) (As := [(0, a1), (0, wr ((wr (a1 + 1)) + e115)), (0, e5), (0, 1), (0, e204), (0, 0)]) (st := []) (st1 := [(0, 0), (0, e204), (0, 1), (0, e5), (0, wr ((wr (a1 + 1)) + e115)), (0, a1), (2, a0)]) (by decide +kernel) yk_M_layWeights (by decide) rfl ⟨ml_M_331, vk_M_layWeights⟩ np_M_layWeights rfl (by omega) q206c (c_M_layWeights (d := d - 1) (by omega) q206) (Nat.le_of_ble_eq_true rfl) (Nat.le_of_ble_eq_true rfl) (Nat.le_of_ble_eq_true rfl) rfl ?_
      show Rn _ d _ _ 0 0 _ 209 [(0, (2, a0)), (1, (0, a1)), (2, (0, e5)), (3, (0, e12)), (4, (1, w4_121)), (6, (0, e115))] [] x206
      obtain rfl := Option.some.inj ht184
      refine r_lv [4] rfl ?_
      exact E184_0
  · have h := ite_t c102 h
    refine r_lload (pc := 105) 4 (by decide +kernel) rfl ?_
    obtain rfl := Option.some.inj h
    exact r_ret (pc := 107) (r := some (1, w4_20)) (by decide +kernel) rfl trivial (Nat.le_of_ble_eq_true rfl) (Nat.le_of_ble_eq_true rfl)

/-! TreeTonguesModel.place(I)J -/
noncomputable def L_M_place_51 (k : Int → Mem → Option (Int × Mem)) (v0 : Int) : Nat → Int → Int → Mem → Option (Int × Mem)
  | 0 => fun _ _ _ => none
  | n + 1 => fun v2 v4 M => (gf M v0 9 54 3).bind fun g54 => if g54 ≤ v4 then (k v2 M) else ((ck M v0 9 54).bind fun _ => (D_M_countIn v0 v4 M).bind fun x64 => (D_M_plus v2 x64.1 x64.2).bind fun x67 => L_M_place_51 k v0 n x67.1 (wr (v4 + 1)) x67.2)
noncomputable def L_M_place_85 (k : Int → Mem → Option (Int × Mem)) (v0 : Int) : Nat → Int → Int → Mem → Option (Int × Mem)
  | 0 => fun _ _ _ => none
  | n + 1 => fun v2 v4 M => (gf M v0 9 54 3).bind fun g88 => if g88 ≤ v4 then (k v2 M) else ((ck M v0 9 54).bind fun _ => (D_M_aheadAt v0 v4 M).bind fun x98 => (D_M_plus v2 x98.1 x98.2).bind fun x101 => L_M_place_85 k v0 n x101.1 (wr (v4 + 1)) x101.2)
noncomputable def D_M_place (a0 a1 : Int) (M : Mem) : Option (Int × Mem) := (ck M a0 9 54).bind fun _ => (D_M_isTongue a0 a1 M).bind fun x2 => if x2.1 = 0 then (some ((-1), x2.2)) else ((ck x2.2 a0 9 54).bind fun _ => (D_M_isTree a0 x2.2).bind fun x9 => if x9.1 = 0 then (some ((-1), x9.2)) else ((gf x9.2 a0 9 54 3).bind fun g16 => if 40 < g16 then (some ((-1), x9.2)) else ((ck x9.2 a0 9 54).bind fun _ => (D_M_load a0 a1 16 x9.2).bind fun x28 => if 0 ≤ x28.1 then ((ck x28.2 a0 9 54).bind fun _ => (D_M_classify a0 x28.2).bind fun x39 => (ck x39 a0 9 54).bind fun _ => (D_M_countAll a0 x39).bind fun x43 => L_M_place_51 (fun w2_51 m51 => (ck m51 a0 9 54).bind fun _ => (D_M_layLast a0 0 m51).bind fun x79 => L_M_place_85 (fun w2_85 m85 => some (w2_85, m85)) a0 FU w2_51 0 x79) a0 FU 0 1 x43) else (some ((-1), x28.2)))))
theorem sL_M_place_51 {d mc ms : Nat} (hd : 9 ≤ d) {r : Int × Mem} {k : Int → Mem → Option (Int × Mem)} {v0 : Int} (hk : ∀ (v2 : Int) (M : Mem), k v2 M = some r → Rn Y_M_place d mc ms 0 0 (some (1, r.1), r.2) 77 [(0, (2, v0)), (2, (1, v2))] [] M) : ∀ (n : Nat) (v2 : Int) (v4 : Int) (M : Mem), L_M_place_51 k v0 n v2 v4 M = some r → Rn Y_M_place d mc ms 0 0 (some (1, r.1), r.2) 51 [(0, (2, v0)), (2, (1, v2)), (4, (0, v4))] [] M := by
  intro n
  induction n with
  | zero => intro _ _ _ h; cases h
  | succ n ih =>
    intro v2 v4 M h
    rw [L_M_place_51] at h
    refine r_iload (pc := 51) 2 (by decide +kernel) rfl ?_
    refine r_aload_n (pc := 53) 0 (n := 0) (by decide +kernel) rfl rfl ?_
    obtain ⟨g54, q54, h⟩ := bnd h
    refine r_get (pc := 54) (by decide +kernel) fl_M_141.r (by decide) rfl q54 ?_
    refine r_icmp_ge (pc := 57) (off := 20) (tgt := 77) (by decide +kernel) (by decide) (fun c57 => ?_) (fun c57 => ?_)
    · have h := ite_t c57 h
      refine r_lv [0, 1] rfl ?_
      exact hk v2 M h
    · have h := ite_f c57 h
      refine r_lload_n (pc := 60) 1 (n := 2) (by decide +kernel) rfl rfl ?_
      refine r_aload_n (pc := 61) 0 (n := 0) (by decide +kernel) rfl rfl ?_
      refine r_iload (pc := 62) 2 (by decide +kernel) rfl ?_
      obtain ⟨_, q64c, h⟩ := bnd h
      obtain ⟨x64, q64, h⟩ := bnd h
      refine r_callV (pc := 64) (i := 307) (d2 := d - 1) (As := [(0, v4)]) (st := [(1, v2)]) (st1 := [(0, v4), (2, v0), (1, v2)]) (by decide +kernel) yk_M_countIn (by decide) rfl ⟨ml_M_307, vk_M_countIn⟩ np_M_countIn rfl (by omega) q64c (c_M_countIn (d := d - 1) (by omega) q64) (Nat.le_of_ble_eq_true rfl) (Nat.le_of_ble_eq_true rfl) (Nat.le_of_ble_eq_true rfl) rfl ?_
      show Rn _ d _ _ 0 0 _ 67 [(0, (2, v0)), (2, (1, v2)), (4, (0, v4))] [(1, x64.1), (1, v2)] x64.2
      obtain ⟨x67, q67, h⟩ := bnd h
      refine r_callS (pc := 67) (i := 293) (d2 := d - 1) (As := [(1, v2), (1, x64.1)]) (st := []) (st1 := [(1, x64.1), (1, v2)]) (by decide +kernel) yk_M_plus ⟨ml_M_293, sk_M_plus⟩ np_M_plus rfl (by omega) (c_M_plus (d := d - 1) (by omega) q67) (Nat.le_of_ble_eq_true rfl) (Nat.le_of_ble_eq_true rfl) (Nat.le_of_ble_eq_true rfl) rfl ?_
      show Rn _ d _ _ 0 0 _ 70 [(0, (2, v0)), (2, (1, v2)), (4, (0, v4))] [(1, x67.1)] x67.2
      refine r_lstore_n (pc := 70) (n := 2) (lv' := [(2, (1, x67.1)), (0, (2, v0)), (4, (0, v4))]) (by decide +kernel) rfl (Nat.le_of_ble_eq_true rfl) rfl ?_
      refine r_iinc (pc := 71) 2 (n := 1) (lv' := [(4, (0, wr (v4 + 1))), (2, (1, x67.1)), (0, (2, v0))]) (by decide +kernel) rfl (Nat.le_of_ble_eq_true rfl) rfl ?_
      refine r_goto (pc := 74) (off := (-23)) (tgt := 51) (by decide +kernel) (by decide) ?_
      refine r_lv [2, 1, 0] rfl ?_
      exact ih x67.1 (wr (v4 + 1)) x67.2 h
theorem sL_M_place_85 {d mc ms : Nat} (hd : 9 ≤ d) {r : Int × Mem} {k : Int → Mem → Option (Int × Mem)} {v0 : Int} (hk : ∀ (v2 : Int) (M : Mem), k v2 M = some r → Rn Y_M_place d mc ms 0 0 (some (1, r.1), r.2) 111 [(2, (1, v2))] [] M) : ∀ (n : Nat) (v2 : Int) (v4 : Int) (M : Mem), L_M_place_85 k v0 n v2 v4 M = some r → Rn Y_M_place d mc ms 0 0 (some (1, r.1), r.2) 85 [(0, (2, v0)), (2, (1, v2)), (4, (0, v4))] [] M := by
  intro n
  induction n with
  | zero => intro _ _ _ h; cases h
  | succ n ih =>
    intro v2 v4 M h
    rw [L_M_place_85] at h
    refine r_iload (pc := 85) 2 (by decide +kernel) rfl ?_
    refine r_aload_n (pc := 87) 0 (n := 0) (by decide +kernel) rfl rfl ?_
    obtain ⟨g88, q88, h⟩ := bnd h
    refine r_get (pc := 88) (by decide +kernel) fl_M_141.r (by decide) rfl q88 ?_
    refine r_icmp_ge (pc := 91) (off := 20) (tgt := 111) (by decide +kernel) (by decide) (fun c91 => ?_) (fun c91 => ?_)
    · have h := ite_t c91 h
      refine r_lv [1] rfl ?_
      exact hk v2 M h
    · have h := ite_f c91 h
      refine r_lload_n (pc := 94) 1 (n := 2) (by decide +kernel) rfl rfl ?_
      refine r_aload_n (pc := 95) 0 (n := 0) (by decide +kernel) rfl rfl ?_
      refine r_iload (pc := 96) 2 (by decide +kernel) rfl ?_
      obtain ⟨_, q98c, h⟩ := bnd h
      obtain ⟨x98, q98, h⟩ := bnd h
      refine r_callV (pc := 98) (i := 341) (d2 := d - 1) (As := [(0, v4)]) (st := [(1, v2)]) (st1 := [(0, v4), (2, v0), (1, v2)]) (by decide +kernel) yk_M_aheadAt (by decide) rfl ⟨ml_M_341, vk_M_aheadAt⟩ np_M_aheadAt rfl (by omega) q98c (c_M_aheadAt (d := d - 1) (by omega) q98) (Nat.le_of_ble_eq_true rfl) (Nat.le_of_ble_eq_true rfl) (Nat.le_of_ble_eq_true rfl) rfl ?_
      show Rn _ d _ _ 0 0 _ 101 [(0, (2, v0)), (2, (1, v2)), (4, (0, v4))] [(1, x98.1), (1, v2)] x98.2
      obtain ⟨x101, q101, h⟩ := bnd h
      refine r_callS (pc := 101) (i := 293) (d2 := d - 1) (As := [(1, v2), (1, x98.1)]) (st := []) (st1 := [(1, x98.1), (1, v2)]) (by decide +kernel) yk_M_plus ⟨ml_M_293, sk_M_plus⟩ np_M_plus rfl (by omega) (c_M_plus (d := d - 1) (by omega) q101) (Nat.le_of_ble_eq_true rfl) (Nat.le_of_ble_eq_true rfl) (Nat.le_of_ble_eq_true rfl) rfl ?_
      show Rn _ d _ _ 0 0 _ 104 [(0, (2, v0)), (2, (1, v2)), (4, (0, v4))] [(1, x101.1)] x101.2
      refine r_lstore_n (pc := 104) (n := 2) (lv' := [(2, (1, x101.1)), (0, (2, v0)), (4, (0, v4))]) (by decide +kernel) rfl (Nat.le_of_ble_eq_true rfl) rfl ?_
      refine r_iinc (pc := 105) 2 (n := 1) (lv' := [(4, (0, wr (v4 + 1))), (2, (1, x101.1)), (0, (2, v0))]) (by decide +kernel) rfl (Nat.le_of_ble_eq_true rfl) rfl ?_
      refine r_goto (pc := 108) (off := (-23)) (tgt := 85) (by decide +kernel) (by decide) ?_
      refine r_lv [2, 1, 0] rfl ?_
      exact ih x101.1 (wr (v4 + 1)) x101.2 h
theorem c_M_place {d : Nat} (hd : 9 ≤ d) {a0 a1 : Int} {M : Mem} {x : Int × Mem} (h : D_M_place a0 a1 M = some x) : Ct d Y_M_place [(2, a0), (0, a1)] M (some (1, x.1), x.2) 0 0 := by
  refine ct_of yk_M_place (Nat.le_of_ble_eq_true rfl) ?_
  rw [D_M_place] at h
  show Rn Y_M_place d 0 0 0 0 (some (1, x.1), x.2) 0 [(0, (2, a0)), (1, (0, a1))] [] M
  refine r_aload_n (pc := 0) 0 (n := 0) (by decide +kernel) rfl rfl ?_
  refine r_iload_n (pc := 1) 1 (n := 1) (by decide +kernel) rfl rfl ?_
  obtain ⟨_, q2c, h⟩ := bnd h
  obtain ⟨x2, q2, h⟩ := bnd h
  refine r_callV (pc := 2) (i := 146) (d2 := d - 1) (As := [(0, a1)]) (st := []) (st1 := [(0, a1), (2, a0)]) (by decide +kernel) yk_M_isTongue (by decide) rfl ⟨ml_M_146, vk_M_isTongue⟩ np_M_isTongue rfl (by omega) q2c (c_M_isTongue (d := d - 1) (by omega) q2) (Nat.le_of_ble_eq_true rfl) (Nat.le_of_ble_eq_true rfl) (Nat.le_of_ble_eq_true rfl) rfl ?_
  show Rn _ d _ _ 0 0 _ 5 [(0, (2, a0)), (1, (0, a1))] [(0, x2.1)] x2.2
  refine r_if_eq (pc := 5) (off := 29) (tgt := 34) (by decide +kernel) (by decide) (fun c5 => ?_) (fun c5 => ?_)
  · have h := ite_t c5 h
    refine r_ldc2 (pc := 34) (i := 302) (z := (-1)) (by decide +kernel) (mg 1297 (by decide +kernel) (by decide +kernel)) ⟨by decide, by decide⟩ ?_
    obtain rfl := Option.some.inj h
    exact r_ret (pc := 37) (r := some (1, (-1))) (by decide +kernel) rfl trivial (Nat.le_of_ble_eq_true rfl) (Nat.le_of_ble_eq_true rfl)
  · have h := ite_f c5 h
    refine r_aload_n (pc := 8) 0 (n := 0) (by decide +kernel) rfl rfl ?_
    obtain ⟨_, q9c, h⟩ := bnd h
    obtain ⟨x9, q9, h⟩ := bnd h
    refine r_callV (pc := 9) (i := 278) (d2 := d - 1) (As := []) (st := []) (st1 := [(2, a0)]) (by decide +kernel) yk_M_isTree (by decide) rfl ⟨ml_M_278, vk_M_isTree⟩ np_M_isTree rfl (by omega) q9c (c_M_isTree (d := d - 1) (by omega) q9) (Nat.le_of_ble_eq_true rfl) (Nat.le_of_ble_eq_true rfl) (Nat.le_of_ble_eq_true rfl) rfl ?_
    show Rn _ d _ _ 0 0 _ 12 [(0, (2, a0)), (1, (0, a1))] [(0, x9.1)] x9.2
    refine r_if_eq (pc := 12) (off := 22) (tgt := 34) (by decide +kernel) (by decide) (fun c12 => ?_) (fun c12 => ?_)
    · have h := ite_t c12 h
      refine r_ldc2 (pc := 34) (i := 302) (z := (-1)) (by decide +kernel) (mg 1297 (by decide +kernel) (by decide +kernel)) ⟨by decide, by decide⟩ ?_
      obtain rfl := Option.some.inj h
      exact r_ret (pc := 37) (r := some (1, (-1))) (by decide +kernel) rfl trivial (Nat.le_of_ble_eq_true rfl) (Nat.le_of_ble_eq_true rfl)
    · have h := ite_f c12 h
      refine r_aload_n (pc := 15) 0 (n := 0) (by decide +kernel) rfl rfl ?_
      obtain ⟨g16, q16, h⟩ := bnd h
      refine r_get (pc := 16) (by decide +kernel) fl_M_141.r (by decide) rfl q16 ?_
      refine r_bipush (pc := 19) (z := 40) (by decide +kernel) ⟨by decide, by decide⟩ ?_
      refine r_icmp_gt (pc := 21) (off := 13) (tgt := 34) (by decide +kernel) (by decide) (fun c21 => ?_) (fun c21 => ?_)
      · have h := ite_t c21 h
        refine r_ldc2 (pc := 34) (i := 302) (z := (-1)) (by decide +kernel) (mg 1297 (by decide +kernel) (by decide +kernel)) ⟨by decide, by decide⟩ ?_
        obtain rfl := Option.some.inj h
        exact r_ret (pc := 37) (r := some (1, (-1))) (by decide +kernel) rfl trivial (Nat.le_of_ble_eq_true rfl) (Nat.le_of_ble_eq_true rfl)
      · have h := ite_f c21 h
        refine r_aload_n (pc := 24) 0 (n := 0) (by decide +kernel) rfl rfl ?_
        refine r_iload_n (pc := 25) 1 (n := 1) (by decide +kernel) rfl rfl ?_
        refine r_bipush (pc := 26) (z := 16) (by decide +kernel) ⟨by decide, by decide⟩ ?_
        obtain ⟨_, q28c, h⟩ := bnd h
        obtain ⟨x28, q28, h⟩ := bnd h
        refine r_callV (pc := 28) (i := 260) (d2 := d - 1) (As := [(0, a1), (0, 16)]) (st := []) (st1 := [(0, 16), (0, a1), (2, a0)]) (by decide +kernel) yk_M_load (by decide) rfl ⟨ml_M_260, vk_M_load⟩ np_M_load rfl (by omega) q28c (c_M_load (d := d - 1) (by omega) q28) (Nat.le_of_ble_eq_true rfl) (Nat.le_of_ble_eq_true rfl) (Nat.le_of_ble_eq_true rfl) rfl ?_
        show Rn _ d _ _ 0 0 _ 31 [(0, (2, a0)), (1, (0, a1))] [(0, x28.1)] x28.2
        refine r_if_ge (pc := 31) (off := 7) (tgt := 38) (by decide +kernel) (by decide) (fun c31 => ?_) (fun c31 => ?_)
        · have h := ite_t c31 h
          refine r_aload_n (pc := 38) 0 (n := 0) (by decide +kernel) rfl rfl ?_
          obtain ⟨_, q39c, h⟩ := bnd h
          obtain ⟨x39, q39, h⟩ := bnd h
          refine r_callV (pc := 39) (i := 282) (d2 := d - 1) (As := []) (st := []) (st1 := [(2, a0)]) (by decide +kernel) yk_M_classify (by decide) rfl ⟨ml_M_282, vk_M_classify⟩ np_M_classify rfl (by omega) q39c (c_M_classify (d := d - 1) (by omega) q39) (Nat.le_of_ble_eq_true rfl) (Nat.le_of_ble_eq_true rfl) (Nat.le_of_ble_eq_true rfl) rfl ?_
          show Rn _ d _ _ 0 0 _ 42 [(0, (2, a0)), (1, (0, a1))] [] x39
          refine r_aload_n (pc := 42) 0 (n := 0) (by decide +kernel) rfl rfl ?_
          obtain ⟨_, q43c, h⟩ := bnd h
          obtain ⟨x43, q43, h⟩ := bnd h
          refine r_callV (pc := 43) (i := 304) (d2 := d - 1) (As := []) (st := []) (st1 := [(2, a0)]) (by decide +kernel) yk_M_countAll (by decide) rfl ⟨ml_M_304, vk_M_countAll⟩ np_M_countAll rfl (by omega) q43c (c_M_countAll (d := d - 1) (by omega) q43) (Nat.le_of_ble_eq_true rfl) (Nat.le_of_ble_eq_true rfl) (Nat.le_of_ble_eq_true rfl) rfl ?_
          show Rn _ d _ _ 0 0 _ 46 [(0, (2, a0)), (1, (0, a1))] [] x43
          refine r_lconst (pc := 46) (n := 0) (z := 0) (by decide +kernel) rfl ?_
          refine r_lstore_n (pc := 47) (n := 2) (lv' := [(2, (1, 0)), (0, (2, a0)), (1, (0, a1))]) (by decide +kernel) rfl (Nat.le_of_ble_eq_true rfl) rfl ?_
          refine r_iconst (pc := 48) (z := 1) (by decide +kernel) ⟨by decide, by decide⟩ ?_
          refine r_istore (pc := 49) (lv' := [(4, (0, 1)), (2, (1, 0)), (0, (2, a0)), (1, (0, a1))]) (by decide +kernel) (Nat.le_of_ble_eq_true rfl) rfl ?_
          refine r_lv [2, 1, 0] rfl ?_
          refine sL_M_place_51 (by omega) ?_ _ _ _  _ h
          intro w2_51 m51 h
          refine r_aload_n (pc := 77) 0 (n := 0) (by decide +kernel) rfl rfl ?_
          refine r_iconst (pc := 78) (z := 0) (by decide +kernel) ⟨by decide, by decide⟩ ?_
          obtain ⟨_, q79c, h⟩ := bnd h
          obtain ⟨x79, q79, h⟩ := bnd h
          refine r_callV (pc := 79) (i := 322) (d2 := d - 1) (As := [(0, 0)]) (st := []) (st1 := [(0, 0), (2, a0)]) (by decide +kernel) yk_M_layLast (by decide) rfl ⟨ml_M_322, vk_M_layLast⟩ np_M_layLast rfl (by omega) q79c (c_M_layLast (d := d - 1) (by omega) q79) (Nat.le_of_ble_eq_true rfl) (Nat.le_of_ble_eq_true rfl) (Nat.le_of_ble_eq_true rfl) rfl ?_
          show Rn _ d _ _ 0 0 _ 82 [(0, (2, a0)), (2, (1, w2_51))] [] x79
          refine r_iconst (pc := 82) (z := 0) (by decide +kernel) ⟨by decide, by decide⟩ ?_
          refine r_istore (pc := 83) (lv' := [(4, (0, 0)), (0, (2, a0)), (2, (1, w2_51))]) (by decide +kernel) (Nat.le_of_ble_eq_true rfl) rfl ?_
          refine r_lv [1, 2, 0] rfl ?_
          refine sL_M_place_85 (by omega) ?_ _ _ _  _ h
          intro w2_85 m85 h
          refine r_lload_n (pc := 111) 0 (n := 2) (by decide +kernel) rfl rfl ?_
          obtain rfl := Option.some.inj h
          exact r_ret (pc := 112) (r := some (1, w2_85)) (by decide +kernel) rfl trivial (Nat.le_of_ble_eq_true rfl) (Nat.le_of_ble_eq_true rfl)
        · have h := ite_f c31 h
          refine r_ldc2 (pc := 34) (i := 302) (z := (-1)) (by decide +kernel) (mg 1297 (by decide +kernel) (by decide +kernel)) ⟨by decide, by decide⟩ ?_
          obtain rfl := Option.some.inj h
          exact r_ret (pc := 37) (r := some (1, (-1))) (by decide +kernel) rfl trivial (Nat.le_of_ble_eq_true rfl) (Nat.le_of_ble_eq_true rfl)

/-! TreeTonguesModel.told(I)I -/
noncomputable def D_M_told (a0 a1 : Int) (M : Mem) : Option (Int × Mem) := if (a1 < 0 ∨ 3 < a1) then (some ((-2), M)) else if a1 = 0 then ((gf M a0 9 54 0).bind fun g33 => some (g33, M)) else if a1 = 1 then ((gf M a0 9 54 3).bind fun g38 => some (g38, M)) else if a1 = 2 then ((gf M a0 9 54 4).bind fun g43 => some (g43, M)) else ((ck M a0 9 54).bind fun _ => (D_M_isTree a0 M).bind fun x48 => if x48.1 = 0 then (some (0, x48.2)) else (some (1, x48.2)))
theorem c_M_told {d : Nat} (hd : 2 ≤ d) {a0 a1 : Int} {M : Mem} {x : Int × Mem} (h : D_M_told a0 a1 M = some x) : Ct d Y_M_told [(2, a0), (0, a1)] M (some (0, x.1), x.2) 0 0 := by
  refine ct_of yk_M_told (Nat.le_of_ble_eq_true rfl) ?_
  rw [D_M_told] at h
  show Rn Y_M_told d 0 0 0 0 (some (0, x.1), x.2) 0 [(0, (2, a0)), (1, (0, a1))] [] M
  refine r_iload_n (pc := 0) 1 (n := 1) (by decide +kernel) rfl rfl ?_
  refine r_table (pc := 1) (dflt := 59) (lo := 0) (hi := 3) (offs := #[31, 36, 41, 46]) (len := 31) (z := a1) (tg := fun j => [32, 37, 42, 47].getD j 0) (dt := 60) (by decide +kernel) (by decide) (fun j hj => tb_of (N := 4) 1 #[31, 36, 41, 46] (fun j => [32, 37, 42, 47].getD j 0) (by decide +kernel) j (by omega)) (fun c1 => ?_) (fun j hz hj => ?_)
  · have h := ite_t c1 h
    refine r_bipush (pc := 60) (z := (-2)) (by decide +kernel) ⟨by decide, by decide⟩ ?_
    obtain rfl := Option.some.inj h
    exact r_ret (pc := 62) (r := some (0, (-2))) (by decide +kernel) rfl trivial (Nat.le_of_ble_eq_true rfl) (Nat.le_of_ble_eq_true rfl)
  · have h := ite_f (show ¬ (a1 < 0 ∨ 3 < a1) by omega) h
    by_cases e0 : a1 = 0
    · have h := ite_t e0 h
      obtain rfl : j = 0 := by omega
      show Rn _ d _ _ 0 0 _ 32 [(0, (2, a0)), (1, (0, a1))] [] M
      refine r_aload_n (pc := 32) 0 (n := 0) (by decide +kernel) rfl rfl ?_
      obtain ⟨g33, q33, h⟩ := bnd h
      refine r_get (pc := 33) (by decide +kernel) fl_M_124.r (by decide) rfl q33 ?_
      obtain rfl := Option.some.inj h
      exact r_ret (pc := 36) (r := some (0, g33)) (by decide +kernel) rfl trivial (Nat.le_of_ble_eq_true rfl) (Nat.le_of_ble_eq_true rfl)
    · have h := ite_f e0 h
      by_cases e1 : a1 = 1
      · have h := ite_t e1 h
        obtain rfl : j = 1 := by omega
        show Rn _ d _ _ 0 0 _ 37 [(0, (2, a0)), (1, (0, a1))] [] M
        refine r_aload_n (pc := 37) 0 (n := 0) (by decide +kernel) rfl rfl ?_
        obtain ⟨g38, q38, h⟩ := bnd h
        refine r_get (pc := 38) (by decide +kernel) fl_M_141.r (by decide) rfl q38 ?_
        obtain rfl := Option.some.inj h
        exact r_ret (pc := 41) (r := some (0, g38)) (by decide +kernel) rfl trivial (Nat.le_of_ble_eq_true rfl) (Nat.le_of_ble_eq_true rfl)
      · have h := ite_f e1 h
        by_cases e2 : a1 = 2
        · have h := ite_t e2 h
          obtain rfl : j = 2 := by omega
          show Rn _ d _ _ 0 0 _ 42 [(0, (2, a0)), (1, (0, a1))] [] M
          refine r_aload_n (pc := 42) 0 (n := 0) (by decide +kernel) rfl rfl ?_
          obtain ⟨g43, q43, h⟩ := bnd h
          refine r_get (pc := 43) (by decide +kernel) fl_M_132.r (by decide) rfl q43 ?_
          obtain rfl := Option.some.inj h
          exact r_ret (pc := 46) (r := some (0, g43)) (by decide +kernel) rfl trivial (Nat.le_of_ble_eq_true rfl) (Nat.le_of_ble_eq_true rfl)
        · have h := ite_f e2 h
          obtain rfl : j = 3 := by omega
          show Rn _ d _ _ 0 0 _ 47 [(0, (2, a0)), (1, (0, a1))] [] M
          refine r_aload_n (pc := 47) 0 (n := 0) (by decide +kernel) rfl rfl ?_
          obtain ⟨_, q48c, h⟩ := bnd h
          obtain ⟨x48, q48, h⟩ := bnd h
          refine r_callV (pc := 48) (i := 278) (d2 := d - 1) (As := []) (st := []) (st1 := [(2, a0)]) (by decide +kernel) yk_M_isTree (by decide) rfl ⟨ml_M_278, vk_M_isTree⟩ np_M_isTree rfl (by omega) q48c (c_M_isTree (d := d - 1) (by omega) q48) (Nat.le_of_ble_eq_true rfl) (Nat.le_of_ble_eq_true rfl) (Nat.le_of_ble_eq_true rfl) rfl ?_
          show Rn _ d _ _ 0 0 _ 51 [(0, (2, a0)), (1, (0, a1))] [(0, x48.1)] x48.2
          refine r_if_eq (pc := 51) (off := 7) (tgt := 58) (by decide +kernel) (by decide) (fun c51 => ?_) (fun c51 => ?_)
          · have h := ite_t c51 h
            refine r_iconst (pc := 58) (z := 0) (by decide +kernel) ⟨by decide, by decide⟩ ?_
            obtain rfl := Option.some.inj h
            exact r_ret (pc := 59) (r := some (0, 0)) (by decide +kernel) rfl trivial (Nat.le_of_ble_eq_true rfl) (Nat.le_of_ble_eq_true rfl)
          · have h := ite_f c51 h
            refine r_iconst (pc := 54) (z := 1) (by decide +kernel) ⟨by decide, by decide⟩ ?_
            refine r_goto (pc := 55) (off := 4) (tgt := 59) (by decide +kernel) (by decide) ?_
            obtain rfl := Option.some.inj h
            exact r_ret (pc := 59) (r := some (0, 1)) (by decide +kernel) rfl trivial (Nat.le_of_ble_eq_true rfl) (Nat.le_of_ble_eq_true rfl)
