/-! TreeTongues$Machine.fillTable([I)V -/
noncomputable def L_Machine_fillTable_35 (k : Mem → Option (Mem)) (v0 : Int) (v1 : Int) (v2 : Int) (v3 : Int) : Nat → Int → Mem → Option (Mem)
  | 0 => fun _ _ => none
  | n + 1 => fun v4 M => (gf M v0 1 14 0).bind fun g38 => (gf M v0 1 14 10).bind fun g44 => (ck M g38 5 3).bind fun _ => (D_Signs_choices g38 v2 1 g44 M).bind fun x47 => if x47.1 ≤ v4 then (k  x47.2) else ((ck x47.2 v0 1 14).bind fun _ => (D_Machine_kindWith v0 v1 v2 v3 v4 x47.2).bind fun x59 => (gf x59.2 v0 1 14 1).bind fun g65 => (gf x59.2 v0 1 14 0).bind fun g69 => (ck x59.2 g69 5 3).bind fun _ => (D_Signs_cell g69 v2 v3 v4 6 x59.2).bind fun x78 => (gf x78.2 v0 1 14 9).bind fun g82 => (rd x78.2 10 g82 x59.1).bind fun e87 => (wt x78.2 10 g65 x78.1 e87).bind fun m88 => L_Machine_fillTable_35 k v0 v1 v2 v3 n (wr (v4 + 1)) m88)
noncomputable def L_Machine_fillTable_15 (k : Mem → Option (Mem)) (v0 : Int) (v1 : Int) (v2 : Int) : Nat → Int → Mem → Option (Mem)
  | 0 => fun _ _ => none
  | n + 1 => fun v3 M => (gf M v0 1 14 0).bind fun g17 => (gf M v0 1 14 10).bind fun g23 => (ck M g17 5 3).bind fun _ => (D_Signs_choices g17 v2 0 g23 M).bind fun x26 => if x26.1 ≤ v3 then (k  x26.2) else (L_Machine_fillTable_35 (fun  m35 => L_Machine_fillTable_15 k v0 v1 v2 n (wr (v3 + 1)) m35) v0 v1 v2 v3 FU 0 x26.2)
noncomputable def L_Machine_fillTable_2 (k : Mem → Option (Mem)) (v0 : Int) (v1 : Int) : Nat → Int → Mem → Option (Mem)
  | 0 => fun _ _ => none
  | n + 1 => fun v2 M => (gf M v0 1 14 0).bind fun g4 => (gf M g4 5 3 1).bind fun g7 => if g7 ≤ v2 then (k  M) else (L_Machine_fillTable_15 (fun  m15 => L_Machine_fillTable_2 k v0 v1 n (wr (v2 + 1)) m15) v0 v1 v2 FU 0 M)
noncomputable def D_Machine_fillTable (a0 a1 : Int) (M : Mem) : Option (Mem) := L_Machine_fillTable_2 (fun  m2 => some m2) a0 a1 FU 0 M
theorem sL_Machine_fillTable_35 {d mc ms : Nat} (hd : 4 ≤ d) {r : Mem} {k : Mem → Option (Mem)} {v0 : Int} {v1 : Int} {v2 : Int} {v3 : Int} (hk : ∀ (M : Mem), k M = some r → Rn Y_Machine_fillTable d mc ms 0 0 (none, r) 95 [(0, (2, v0)), (1, (2, v1)), (2, (0, v2)), (3, (0, v3))] [] M) : ∀ (n : Nat) (v4 : Int) (M : Mem), L_Machine_fillTable_35 k v0 v1 v2 v3 n v4 M = some r → Rn Y_Machine_fillTable d mc ms 0 0 (none, r) 35 [(0, (2, v0)), (1, (2, v1)), (2, (0, v2)), (3, (0, v3)), (4, (0, v4))] [] M := by
  intro n
  induction n with
  | zero => intro _ _ h; cases h
  | succ n ih =>
    intro v4 M h
    rw [L_Machine_fillTable_35] at h
    refine r_iload (pc := 35) 4 (by decide +kernel) rfl ?_
    refine r_aload_n (pc := 37) 0 (n := 0) (by decide +kernel) rfl rfl ?_
    obtain ⟨g38, q38, h⟩ := bnd h
    refine r_get (pc := 38) (by decide +kernel) fl_Machine_54.r (by decide) rfl q38 ?_
    refine r_iload_n (pc := 41) 2 (n := 2) (by decide +kernel) rfl rfl ?_
    refine r_iconst (pc := 42) (z := 1) (by decide +kernel) ⟨by decide, by decide⟩ ?_
    refine r_aload_n (pc := 43) 0 (n := 0) (by decide +kernel) rfl rfl ?_
    obtain ⟨g44, q44, h⟩ := bnd h
    refine r_get (pc := 44) (by decide +kernel) fl_Machine_40.r (by decide) rfl q44 ?_
    obtain ⟨_, q47c, h⟩ := bnd h
    obtain ⟨x47, q47, h⟩ := bnd h
    refine r_callV (pc := 47) (i := 84) (d2 := d - 1) (As := [(0, v2), (0, 1), (0, g44)]) (st := [(0, v4)]) (st1 := [(0, g44), (0, 1), (0, v2), (2, g38), (0, v4)]) (by decide +kernel) yk_Signs_choices (by decide) rfl ⟨ml_Machine_84, vk_Signs_choices⟩ np_Signs_choices rfl (by omega) q47c (c_Signs_choices (d := d - 1) (by omega) q47) (Nat.le_of_ble_eq_true rfl) (Nat.le_of_ble_eq_true rfl) (Nat.le_of_ble_eq_true rfl) rfl ?_
    show Rn _ d _ _ 0 0 _ 50 [(0, (2, v0)), (1, (2, v1)), (2, (0, v2)), (3, (0, v3)), (4, (0, v4))] [(0, x47.1), (0, v4)] x47.2
    refine r_icmp_ge (pc := 50) (off := 45) (tgt := 95) (by decide +kernel) (by decide) (fun c50 => ?_) (fun c50 => ?_)
    · have h := ite_t c50 h
      refine r_lv [0, 1, 2, 3] rfl ?_
      exact hk  x47.2 h
    · have h := ite_f c50 h
      refine r_aload_n (pc := 53) 0 (n := 0) (by decide +kernel) rfl rfl ?_
      refine r_aload_n (pc := 54) 1 (n := 1) (by decide +kernel) rfl rfl ?_
      refine r_iload_n (pc := 55) 2 (n := 2) (by decide +kernel) rfl rfl ?_
      refine r_iload_n (pc := 56) 3 (n := 3) (by decide +kernel) rfl rfl ?_
      refine r_iload (pc := 57) 4 (by decide +kernel) rfl ?_
      obtain ⟨_, q59c, h⟩ := bnd h
      obtain ⟨x59, q59, h⟩ := bnd h
      refine r_callV (pc := 59) (i := 88) (d2 := d - 1) (As := [(2, v1), (0, v2), (0, v3), (0, v4)]) (st := []) (st1 := [(0, v4), (0, v3), (0, v2), (2, v1), (2, v0)]) (by decide +kernel) yk_Machine_kindWith (by decide) rfl ⟨ml_Machine_88, vk_Machine_kindWith⟩ np_Machine_kindWith rfl (by omega) q59c (c_Machine_kindWith (d := d - 1) (by omega) q59) (Nat.le_of_ble_eq_true rfl) (Nat.le_of_ble_eq_true rfl) (Nat.le_of_ble_eq_true rfl) rfl ?_
      show Rn _ d _ _ 0 0 _ 62 [(0, (2, v0)), (1, (2, v1)), (2, (0, v2)), (3, (0, v3)), (4, (0, v4))] [(0, x59.1)] x59.2
      refine r_istore (pc := 62) (lv' := [(5, (0, x59.1)), (0, (2, v0)), (1, (2, v1)), (2, (0, v2)), (3, (0, v3)), (4, (0, v4))]) (by decide +kernel) (Nat.le_of_ble_eq_true rfl) rfl ?_
      refine r_aload_n (pc := 64) 1 (n := 0) (by decide +kernel) rfl rfl ?_
      obtain ⟨g65, q65, h⟩ := bnd h
      refine r_get (pc := 65) (by decide +kernel) fl_Machine_9.r (by decide) rfl q65 ?_
      refine r_aload_n (pc := 68) 1 (n := 0) (by decide +kernel) rfl rfl ?_
      obtain ⟨g69, q69, h⟩ := bnd h
      refine r_get (pc := 69) (by decide +kernel) fl_Machine_54.r (by decide) rfl q69 ?_
      refine r_iload_n (pc := 72) 3 (n := 2) (by decide +kernel) rfl rfl ?_
      refine r_iload_n (pc := 73) 4 (n := 3) (by decide +kernel) rfl rfl ?_
      refine r_iload (pc := 74) 5 (by decide +kernel) rfl ?_
      refine r_bipush (pc := 76) (z := 6) (by decide +kernel) ⟨by decide, by decide⟩ ?_
      obtain ⟨_, q78c, h⟩ := bnd h
      obtain ⟨x78, q78, h⟩ := bnd h
      refine r_callV (pc := 78) (i := 58) (d2 := d - 1) (As := [(0, v2), (0, v3), (0, v4), (0, 6)]) (st := [(2, g65)]) (st1 := [(0, 6), (0, v4), (0, v3), (0, v2), (2, g69), (2, g65)]) (by decide +kernel) yk_Signs_cell (by decide) rfl ⟨ml_Machine_58, vk_Signs_cell⟩ np_Signs_cell rfl (by omega) q78c (c_Signs_cell (d := d - 1) (by omega) q78) (Nat.le_of_ble_eq_true rfl) (Nat.le_of_ble_eq_true rfl) (Nat.le_of_ble_eq_true rfl) rfl ?_
      show Rn _ d _ _ 0 0 _ 81 [(5, (0, x59.1)), (0, (2, v0)), (1, (2, v1)), (2, (0, v2)), (3, (0, v3)), (4, (0, v4))] [(0, x78.1), (2, g65)] x78.2
      refine r_aload_n (pc := 81) 1 (n := 0) (by decide +kernel) rfl rfl ?_
      obtain ⟨g82, q82, h⟩ := bnd h
      refine r_get (pc := 82) (by decide +kernel) fl_Machine_37.r (by decide) rfl q82 ?_
      refine r_iload (pc := 85) 0 (by decide +kernel) rfl ?_
      obtain ⟨e87, q87, h⟩ := bnd h
      refine r_iald (pc := 87) (by decide +kernel) q87 ?_
      obtain ⟨m88, q88, h⟩ := bnd h
      refine r_iast (pc := 88) (by decide +kernel) q88 ?_
      refine r_iinc (pc := 89) 5 (n := 1) (lv' := [(4, (0, wr (v4 + 1))), (5, (0, x59.1)), (0, (2, v0)), (1, (2, v1)), (2, (0, v2)), (3, (0, v3))]) (by decide +kernel) rfl (Nat.le_of_ble_eq_true rfl) rfl ?_
      refine r_goto (pc := 92) (off := (-57)) (tgt := 35) (by decide +kernel) (by decide) ?_
      refine r_lv [2, 3, 4, 5, 0] rfl ?_
      exact ih (wr (v4 + 1)) m88 h
theorem sL_Machine_fillTable_15 {d mc ms : Nat} (hd : 4 ≤ d) {r : Mem} {k : Mem → Option (Mem)} {v0 : Int} {v1 : Int} {v2 : Int} (hk : ∀ (M : Mem), k M = some r → Rn Y_Machine_fillTable d mc ms 0 0 (none, r) 101 [(0, (2, v0)), (1, (2, v1)), (2, (0, v2))] [] M) : ∀ (n : Nat) (v3 : Int) (M : Mem), L_Machine_fillTable_15 k v0 v1 v2 n v3 M = some r → Rn Y_Machine_fillTable d mc ms 0 0 (none, r) 15 [(0, (2, v0)), (1, (2, v1)), (2, (0, v2)), (3, (0, v3))] [] M := by
  intro n
  induction n with
  | zero => intro _ _ h; cases h
  | succ n ih =>
    intro v3 M h
    rw [L_Machine_fillTable_15] at h
    refine r_iload_n (pc := 15) 3 (n := 3) (by decide +kernel) rfl rfl ?_
    refine r_aload_n (pc := 16) 0 (n := 0) (by decide +kernel) rfl rfl ?_
    obtain ⟨g17, q17, h⟩ := bnd h
    refine r_get (pc := 17) (by decide +kernel) fl_Machine_54.r (by decide) rfl q17 ?_
    refine r_iload_n (pc := 20) 2 (n := 2) (by decide +kernel) rfl rfl ?_
    refine r_iconst (pc := 21) (z := 0) (by decide +kernel) ⟨by decide, by decide⟩ ?_
    refine r_aload_n (pc := 22) 0 (n := 0) (by decide +kernel) rfl rfl ?_
    obtain ⟨g23, q23, h⟩ := bnd h
    refine r_get (pc := 23) (by decide +kernel) fl_Machine_40.r (by decide) rfl q23 ?_
    obtain ⟨_, q26c, h⟩ := bnd h
    obtain ⟨x26, q26, h⟩ := bnd h
    refine r_callV (pc := 26) (i := 84) (d2 := d - 1) (As := [(0, v2), (0, 0), (0, g23)]) (st := [(0, v3)]) (st1 := [(0, g23), (0, 0), (0, v2), (2, g17), (0, v3)]) (by decide +kernel) yk_Signs_choices (by decide) rfl ⟨ml_Machine_84, vk_Signs_choices⟩ np_Signs_choices rfl (by omega) q26c (c_Signs_choices (d := d - 1) (by omega) q26) (Nat.le_of_ble_eq_true rfl) (Nat.le_of_ble_eq_true rfl) (Nat.le_of_ble_eq_true rfl) rfl ?_
    show Rn _ d _ _ 0 0 _ 29 [(0, (2, v0)), (1, (2, v1)), (2, (0, v2)), (3, (0, v3))] [(0, x26.1), (0, v3)] x26.2
    refine r_icmp_ge (pc := 29) (off := 72) (tgt := 101) (by decide +kernel) (by decide) (fun c29 => ?_) (fun c29 => ?_)
    · have h := ite_t c29 h
      refine r_lv [0, 1, 2] rfl ?_
      exact hk  x26.2 h
    · have h := ite_f c29 h
      refine r_iconst (pc := 32) (z := 0) (by decide +kernel) ⟨by decide, by decide⟩ ?_
      refine r_istore (pc := 33) (lv' := [(4, (0, 0)), (0, (2, v0)), (1, (2, v1)), (2, (0, v2)), (3, (0, v3))]) (by decide +kernel) (Nat.le_of_ble_eq_true rfl) rfl ?_
      refine r_lv [1, 2, 3, 4, 0] rfl ?_
      refine sL_Machine_fillTable_35 (by omega) ?_ _ _  _ h
      intro m35 h
      refine r_iinc (pc := 95) 3 (n := 1) (lv' := [(3, (0, wr (v3 + 1))), (0, (2, v0)), (1, (2, v1)), (2, (0, v2))]) (by decide +kernel) rfl (Nat.le_of_ble_eq_true rfl) rfl ?_
      refine r_goto (pc := 98) (off := (-83)) (tgt := 15) (by decide +kernel) (by decide) ?_
      refine r_lv [1, 2, 3, 0] rfl ?_
      exact ih (wr (v3 + 1)) m35 h
theorem sL_Machine_fillTable_2 {d mc ms : Nat} (hd : 4 ≤ d) {r : Mem} {k : Mem → Option (Mem)} {v0 : Int} {v1 : Int} (hk : ∀ (M : Mem), k M = some r → Rn Y_Machine_fillTable d mc ms 0 0 (none, r) 107 [] [] M) : ∀ (n : Nat) (v2 : Int) (M : Mem), L_Machine_fillTable_2 k v0 v1 n v2 M = some r → Rn Y_Machine_fillTable d mc ms 0 0 (none, r) 2 [(0, (2, v0)), (1, (2, v1)), (2, (0, v2))] [] M := by
  intro n
  induction n with
  | zero => intro _ _ h; cases h
  | succ n ih =>
    intro v2 M h
    rw [L_Machine_fillTable_2] at h
    refine r_iload_n (pc := 2) 2 (n := 2) (by decide +kernel) rfl rfl ?_
    refine r_aload_n (pc := 3) 0 (n := 0) (by decide +kernel) rfl rfl ?_
    obtain ⟨g4, q4, h⟩ := bnd h
    refine r_get (pc := 4) (by decide +kernel) fl_Machine_54.r (by decide) rfl q4 ?_
    obtain ⟨g7, q7, h⟩ := bnd h
    refine r_get (pc := 7) (by decide +kernel) fl_Machine_81.r (by decide) rfl q7 ?_
    refine r_icmp_ge (pc := 10) (off := 97) (tgt := 107) (by decide +kernel) (by decide) (fun c10 => ?_) (fun c10 => ?_)
    · have h := ite_t c10 h
      refine r_lv [] rfl ?_
      exact hk  M h
    · have h := ite_f c10 h
      refine r_iconst (pc := 13) (z := 0) (by decide +kernel) ⟨by decide, by decide⟩ ?_
      refine r_istore_n (pc := 14) (n := 3) (lv' := [(3, (0, 0)), (0, (2, v0)), (1, (2, v1)), (2, (0, v2))]) (by decide +kernel) rfl (Nat.le_of_ble_eq_true rfl) rfl ?_
      refine r_lv [1, 2, 3, 0] rfl ?_
      refine sL_Machine_fillTable_15 (by omega) ?_ _ _  _ h
      intro m15 h
      refine r_iinc (pc := 101) 2 (n := 1) (lv' := [(2, (0, wr (v2 + 1))), (0, (2, v0)), (1, (2, v1))]) (by decide +kernel) rfl (Nat.le_of_ble_eq_true rfl) rfl ?_
      refine r_goto (pc := 104) (off := (-102)) (tgt := 2) (by decide +kernel) (by decide) ?_
      refine r_lv [1, 2, 0] rfl ?_
      exact ih (wr (v2 + 1)) m15 h
theorem c_Machine_fillTable {d : Nat} (hd : 4 ≤ d) {a0 a1 : Int} {M : Mem} {x : Mem} (h : D_Machine_fillTable a0 a1 M = some x) : Ct d Y_Machine_fillTable [(2, a0), (2, a1)] M (none, x) 0 0 := by
  refine ct_of yk_Machine_fillTable (Nat.le_of_ble_eq_true rfl) ?_
  rw [D_Machine_fillTable] at h
  show Rn Y_Machine_fillTable d 0 0 0 0 (none, x) 0 [(0, (2, a0)), (1, (2, a1))] [] M
  refine r_iconst (pc := 0) (z := 0) (by decide +kernel) ⟨by decide, by decide⟩ ?_
  refine r_istore_n (pc := 1) (n := 2) (lv' := [(2, (0, 0)), (0, (2, a0)), (1, (2, a1))]) (by decide +kernel) rfl (Nat.le_of_ble_eq_true rfl) rfl ?_
  refine r_lv [1, 2, 0] rfl ?_
  refine sL_Machine_fillTable_2 (by omega) ?_ _ _  _ h
  intro m2 h
  obtain rfl := Option.some.inj h
  exact r_ret (pc := 107) (r := none) (by decide +kernel) rfl trivial (Nat.le_of_ble_eq_true rfl) (Nat.le_of_ble_eq_true rfl)

/-! TreeTongues$Machine.take([III)V -/
noncomputable def L_Machine_take_15 (k : Mem → Option (Mem)) (v0 : Int) (v1 : Int) (v2 : Int) (v3 : Int) : Nat → Int → Mem → Option (Mem)
  | 0 => fun _ _ => none
  | n + 1 => fun v4 M => (if v2 ≤ v4 then (some 0) else (if 6 ≤ v4 then (some 0) else (some 1))).bind fun (t18 : Int) => if t18 = 0 then (k  M) else ((ck M v0 1 14).bind fun _ => (D_Machine_findFirst v0 v1 v4 M).bind fun x32 => (gf x32.2 v0 1 14 8).bind fun g38 => (wt x32.2 10 g38 v4 x32.1).bind fun m45 => (gf m45 v0 1 14 9).bind fun g47 => (wt m45 10 g47 x32.1 v4).bind fun m54 => (gf m54 v0 1 14 11).bind fun g57 => (pf m54 v0 1 14 11 (ior g57 (ishl (iand (ishr v3 x32.1) 1) v4))).bind fun m70 => (gf m70 v0 1 14 10).bind fun g75 => (pf m70 v0 1 14 10 (wr (g75 + 1))).bind fun m80 => L_Machine_take_15 k v0 v1 v2 v3 n (wr (v4 + 1)) m80)
noncomputable def D_Machine_take (a0 a1 a2 a3 : Int) (M : Mem) : Option (Mem) := (ck M a0 1 14).bind fun _ => (D_Machine_becomeLarge a0 M).bind fun x1 => (gf x1 a0 1 14 9).bind fun g5 => (D_Arr_fill_IIV g5 (-1) x1).bind fun x9 => L_Machine_take_15 (fun  m15 => (ck m15 a0 1 14).bind fun _ => (D_Machine_fillTable a0 a1 m15).bind fun x91 => (pf x91 a0 1 14 12 0).bind fun m96 => some m96) a0 a1 a2 a3 FU 0 x9
theorem sL_Machine_take_15 {d mc ms : Nat} (hd : 5 ≤ d) {r : Mem} {k : Mem → Option (Mem)} {v0 : Int} {v1 : Int} {v2 : Int} {v3 : Int} (hk : ∀ (M : Mem), k M = some r → Rn Y_Machine_take d mc ms 0 0 (none, r) 89 [(0, (2, v0)), (1, (2, v1))] [] M) : ∀ (n : Nat) (v4 : Int) (M : Mem), L_Machine_take_15 k v0 v1 v2 v3 n v4 M = some r → Rn Y_Machine_take d mc ms 0 0 (none, r) 15 [(0, (2, v0)), (1, (2, v1)), (2, (0, v2)), (3, (0, v3)), (4, (0, v4))] [] M := by
  intro n
  induction n with
  | zero => intro _ _ h; cases h
  | succ n ih =>
    intro v4 M h
    rw [L_Machine_take_15] at h
    refine r_iload (pc := 15) 4 (by decide +kernel) rfl ?_
    refine r_iload_n (pc := 17) 2 (n := 2) (by decide +kernel) rfl rfl ?_
    obtain ⟨t18, ht18, h⟩ := bnd h
    have E18_0 : t18 = 0 → Rn Y_Machine_take d mc ms 0 0 (none, r) 89 [(0, (2, v0)), (1, (2, v1))] [] M := by
      intro y0
      have h := ite_t y0 h
      exact hk  M h
    have E18_1 : ¬ t18 = 0 → Rn Y_Machine_take d mc ms 0 0 (none, r) 28 [(0, (2, v0)), (1, (2, v1)), (2, (0, v2)), (3, (0, v3)), (4, (0, v4))] [] M := by
      intro n0
      have h := ite_f n0 h
      refine r_aload_n (pc := 28) 0 (n := 0) (by decide +kernel) rfl rfl ?_
      refine r_aload_n (pc := 29) 1 (n := 1) (by decide +kernel) rfl rfl ?_
      refine r_iload (pc := 30) 4 (by decide +kernel) rfl ?_
      obtain ⟨_, q32c, h⟩ := bnd h
      obtain ⟨x32, q32, h⟩ := bnd h
      refine r_callV (pc := 32) (i := 73) (d2 := d - 1) (As := [(2, v1), (0, v4)]) (st := []) (st1 := [(0, v4), (2, v1), (2, v0)]) (by decide +kernel) yk_Machine_findFirst (by decide) rfl ⟨ml_Machine_73, vk_Machine_findFirst⟩ np_Machine_findFirst rfl (by omega) q32c (c_Machine_findFirst (d := d - 1) (by omega) q32) (Nat.le_of_ble_eq_true rfl) (Nat.le_of_ble_eq_true rfl) (Nat.le_of_ble_eq_true rfl) rfl ?_
      show Rn _ d _ _ 0 0 _ 35 [(0, (2, v0)), (1, (2, v1)), (2, (0, v2)), (3, (0, v3)), (4, (0, v4))] [(0, x32.1)] x32.2
      refine r_istore (pc := 35) (lv' := [(5, (0, x32.1)), (0, (2, v0)), (1, (2, v1)), (2, (0, v2)), (3, (0, v3)), (4, (0, v4))]) (by decide +kernel) (Nat.le_of_ble_eq_true rfl) rfl ?_
      refine r_aload_n (pc := 37) 1 (n := 0) (by decide +kernel) rfl rfl ?_
      obtain ⟨g38, q38, h⟩ := bnd h
      refine r_get (pc := 38) (by decide +kernel) fl_Machine_34.r (by decide) rfl q38 ?_
      refine r_iload (pc := 41) 5 (by decide +kernel) rfl ?_
      refine r_iload (pc := 43) 0 (by decide +kernel) rfl ?_
      obtain ⟨m45, q45, h⟩ := bnd h
      refine r_iast (pc := 45) (by decide +kernel) q45 ?_
      refine r_aload_n (pc := 46) 1 (n := 0) (by decide +kernel) rfl rfl ?_
      obtain ⟨g47, q47, h⟩ := bnd h
      refine r_get (pc := 47) (by decide +kernel) fl_Machine_37.r (by decide) rfl q47 ?_
      refine r_iload (pc := 50) 0 (by decide +kernel) rfl ?_
      refine r_iload (pc := 52) 5 (by decide +kernel) rfl ?_
      obtain ⟨m54, q54, h⟩ := bnd h
      refine r_iast (pc := 54) (by decide +kernel) q54 ?_
      refine r_aload_n (pc := 55) 1 (n := 0) (by decide +kernel) rfl rfl ?_
      refine r_dup (pc := 56) (by decide +kernel) rfl ?_
      obtain ⟨g57, q57, h⟩ := bnd h
      refine r_get (pc := 57) (by decide +kernel) fl_Machine_44.r (by decide) rfl q57 ?_
      refine r_iload_n (pc := 60) 4 (n := 3) (by decide +kernel) rfl rfl ?_
      refine r_iload (pc := 61) 0 (by decide +kernel) rfl ?_
      refine r_ishr (pc := 63) (by decide +kernel) ?_
      refine r_iconst (pc := 64) (z := 1) (by decide +kernel) ⟨by decide, by decide⟩ ?_
      refine r_iand (pc := 65) (by decide +kernel) ?_
      refine r_iload (pc := 66) 5 (by decide +kernel) rfl ?_
      refine r_ishl (pc := 68) (by decide +kernel) ?_
      refine r_ior (pc := 69) (by decide +kernel) ?_
      obtain ⟨m70, q70, h⟩ := bnd h
      refine r_put (pc := 70) (by decide +kernel) fl_Machine_44 (by decide) (Or.inr nf_1_11) rfl (fun h3 => by cases h3) q70 ?_
      refine r_aload_n (pc := 73) 1 (n := 0) (by decide +kernel) rfl rfl ?_
      refine r_dup (pc := 74) (by decide +kernel) rfl ?_
      obtain ⟨g75, q75, h⟩ := bnd h
      refine r_get (pc := 75) (by decide +kernel) fl_Machine_40.r (by decide) rfl q75 ?_
      refine r_iconst (pc := 78) (z := 1) (by decide +kernel) ⟨by decide, by decide⟩ ?_
      refine r_iadd (pc := 79) (by decide +kernel) ?_
      obtain ⟨m80, q80, h⟩ := bnd h
      refine r_put (pc := 80) (by decide +kernel) fl_Machine_40 (by decide) (Or.inr nf_1_10) rfl (fun h3 => by cases h3) q80 ?_
      refine r_iinc (pc := 83) 5 (n := 1) (lv' := [(4, (0, wr (v4 + 1))), (5, (0, x32.1)), (0, (2, v0)), (1, (2, v1)), (2, (0, v2)), (3, (0, v3))]) (by decide +kernel) rfl (Nat.le_of_ble_eq_true rfl) rfl ?_
      refine r_goto (pc := 86) (off := (-71)) (tgt := 15) (by decide +kernel) (by decide) ?_
      refine r_lv [2, 3, 4, 5, 0] rfl ?_
      exact ih (wr (v4 + 1)) m80 h
    refine r_icmp_ge (pc := 18) (off := 71) (tgt := 89) (by decide +kernel) (by decide) (fun c18 => ?_) (fun c18 => ?_)
    · have ht18 := ite_t c18 ht18
      obtain rfl := Option.some.inj ht18
      refine r_lv [0, 1] rfl ?_
      exact E18_0 rfl
    · have ht18 := ite_f c18 ht18
      refine r_iload (pc := 21) 4 (by decide +kernel) rfl ?_
      refine r_bipush (pc := 23) (z := 6) (by decide +kernel) ⟨by decide, by decide⟩ ?_
      refine r_icmp_ge (pc := 25) (off := 64) (tgt := 89) (by decide +kernel) (by decide) (fun c25 => ?_) (fun c25 => ?_)
      · have ht18 := ite_t c25 ht18
        obtain rfl := Option.some.inj ht18
        refine r_lv [0, 1] rfl ?_
        exact E18_0 rfl
      · have ht18 := ite_f c25 ht18
        obtain rfl := Option.some.inj ht18
        exact E18_1 (show ¬ (1 : Int) = 0 by decide)
theorem c_Machine_take {d : Nat} (hd : 5 ≤ d) {a0 a1 a2 a3 : Int} {M : Mem} {x : Mem} (h : D_Machine_take a0 a1 a2 a3 M = some x) : Ct d Y_Machine_take [(2, a0), (2, a1), (0, a2), (0, a3)] M (none, x) 0 0 := by
  refine ct_of yk_Machine_take (Nat.le_of_ble_eq_true rfl) ?_
  rw [D_Machine_take] at h
  show Rn Y_Machine_take d 0 0 0 0 (none, x) 0 [(0, (2, a0)), (1, (2, a1)), (2, (0, a2)), (3, (0, a3))] [] M
  refine r_aload_n (pc := 0) 0 (n := 0) (by decide +kernel) rfl rfl ?_
  obtain ⟨_, q1c, h⟩ := bnd h
  obtain ⟨x1, q1, h⟩ := bnd h
  refine r_callV (pc := 1) (i := 64) (d2 := d - 1) (As := []) (st := []) (st1 := [(2, a0)]) (by decide +kernel) yk_Machine_becomeLarge (by decide) rfl ⟨ml_Machine_64, vk_Machine_becomeLarge⟩ np_Machine_becomeLarge rfl (by omega) q1c (c_Machine_becomeLarge (d := d - 1) (by omega) q1) (Nat.le_of_ble_eq_true rfl) (Nat.le_of_ble_eq_true rfl) (Nat.le_of_ble_eq_true rfl) rfl ?_
  show Rn _ d _ _ 0 0 _ 4 [(0, (2, a0)), (1, (2, a1)), (2, (0, a2)), (3, (0, a3))] [] x1
  refine r_aload_n (pc := 4) 0 (n := 0) (by decide +kernel) rfl rfl ?_
  obtain ⟨g5, q5, h⟩ := bnd h
  refine r_get (pc := 5) (by decide +kernel) fl_Machine_37.r (by decide) rfl q5 ?_
  refine r_iconst (pc := 8) (z := (-1)) (by decide +kernel) ⟨by decide, by decide⟩ ?_
  obtain ⟨x9, q9, h⟩ := bnd h
  refine r_callS (pc := 9) (i := 67) (d2 := d - 1) (As := [(2, g5), (0, (-1))]) (st := []) (st1 := [(0, (-1)), (2, g5)]) (by decide +kernel) yk_Arr_fill_IIV ⟨ml_Machine_67, sk_Arr_fill_IIV⟩ np_Arr_fill_IIV rfl (by omega) (c_Arr_fill_IIV (d := d - 1) (by omega) q9) (Nat.le_of_ble_eq_true rfl) (Nat.le_of_ble_eq_true rfl) (Nat.le_of_ble_eq_true rfl) rfl ?_
  show Rn _ d _ _ 0 0 _ 12 [(0, (2, a0)), (1, (2, a1)), (2, (0, a2)), (3, (0, a3))] [] x9
  refine r_iconst (pc := 12) (z := 0) (by decide +kernel) ⟨by decide, by decide⟩ ?_
  refine r_istore (pc := 13) (lv' := [(4, (0, 0)), (0, (2, a0)), (1, (2, a1)), (2, (0, a2)), (3, (0, a3))]) (by decide +kernel) (Nat.le_of_ble_eq_true rfl) rfl ?_
  refine r_lv [1, 2, 3, 4, 0] rfl ?_
  refine sL_Machine_take_15 (by omega) ?_ _ _  _ h
  intro m15 h
  refine r_aload_n (pc := 89) 0 (n := 0) (by decide +kernel) rfl rfl ?_
  refine r_aload_n (pc := 90) 1 (n := 1) (by decide +kernel) rfl rfl ?_
  obtain ⟨_, q91c, h⟩ := bnd h
  obtain ⟨x91, q91, h⟩ := bnd h
  refine r_callV (pc := 91) (i := 77) (d2 := d - 1) (As := [(2, a1)]) (st := []) (st1 := [(2, a1), (2, a0)]) (by decide +kernel) yk_Machine_fillTable (by decide) rfl ⟨ml_Machine_77, vk_Machine_fillTable⟩ np_Machine_fillTable rfl (by omega) q91c (c_Machine_fillTable (d := d - 1) (by omega) q91) (Nat.le_of_ble_eq_true rfl) (Nat.le_of_ble_eq_true rfl) (Nat.le_of_ble_eq_true rfl) rfl ?_
  show Rn _ d _ _ 0 0 _ 94 [(0, (2, a0)), (1, (2, a1))] [] x91
  refine r_aload_n (pc := 94) 0 (n := 0) (by decide +kernel) rfl rfl ?_
  refine r_iconst (pc := 95) (z := 0) (by decide +kernel) ⟨by decide, by decide⟩ ?_
  obtain ⟨m96, q96, h⟩ := bnd h
  refine r_put (pc := 96) (by decide +kernel) fl_Machine_47 (by decide) (Or.inr nf_1_12) rfl (fun _ => Or.inl rfl) q96 ?_
  obtain rfl := Option.some.inj h
  exact r_ret (pc := 99) (r := none) (by decide +kernel) rfl trivial (Nat.le_of_ble_eq_true rfl) (Nat.le_of_ble_eq_true rfl)

/-! TreeTongues$Reducer.reduceTo(LTreeTongues$Machine;)V -/
noncomputable def L_Reducer_reduceTo_8 (k : Int → Mem → Option (Mem)) (v0 : Int) (v1 : Int) : Nat → Int → Int → Mem → Option (Mem)
  | 0 => fun _ _ _ => none
  | n + 1 => fun v2 v3 M => (if 8 ≤ v3 then (some 0) else (if v2 = 0 then ((gf M v0 3 17 11).bind fun g19 => if g19 = 0 then (some 1) else (some 0)) else (some 0))).bind fun (t11 : Int) => if t11 = 0 then (k v2 M) else ((gf M v0 3 17 9).bind fun g26 => (D_Arr_fill_IIV g26 (-1) M).bind fun x30 => (ck x30 v0 3 17).bind fun _ => (D_Reducer_sortKinds v0 x30).bind fun x34 => ((if x34.1 = 0 then (some (0, x34.2)) else ((ck x34.2 v0 3 17).bind fun _ => (D_Reducer_reachLeaves v0 x34.2).bind fun x41 => if x41.1 = 0 then (some (0, x41.2)) else ((ck x41.2 v0 3 17).bind fun _ => (D_Reducer_reachAll v0 x41.2).bind fun x48 => if x48.1 = 0 then (some (0, x48.2)) else (some (1, x48.2))))).bind fun (t37i : Int × Mem) => if t37i.1 = 0 then (some (0, t37i.2)) else (some (1, t37i.2))).bind fun (t37 : Int × Mem) => L_Reducer_reduceTo_8 k v0 v1 n t37.1 (wr (v3 + 1)) t37.2)
noncomputable def D_Reducer_reduceTo (a0 a1 : Int) (M : Mem) : Option (Mem) := (ck M a0 3 17).bind fun _ => (D_Reducer_begin a0 M).bind fun x1 => L_Reducer_reduceTo_8 (fun w2_8 m8 => if w2_8 = 0 then ((ck m8 a1 1 14).bind fun _ => (D_Machine_becomeLarge a1 m8).bind fun x90 => some x90) else ((gf m8 a0 3 17 9).bind fun g72 => (gf m8 a0 3 17 10).bind fun g76 => (ck m8 a0 3 17).bind fun _ => (D_Reducer_finalKinds a0 m8).bind fun x80 => (ck x80.2 a1 1 14).bind fun _ => (D_Machine_take a1 g72 g76 x80.1 x80.2).bind fun x83 => some x83)) a0 a1 FU 0 0 x1
theorem sL_Reducer_reduceTo_8 {d mc ms : Nat} (hd : 6 ≤ d) {r : Mem} {k : Int → Mem → Option (Mem)} {v0 : Int} {v1 : Int} (hk : ∀ (v2 : Int) (M : Mem), k v2 M = some r → Rn Y_Reducer_reduceTo d mc ms 0 0 (none, r) 66 [(0, (2, v0)), (1, (2, v1)), (2, (0, v2))] [] M) : ∀ (n : Nat) (v2 : Int) (v3 : Int) (M : Mem), L_Reducer_reduceTo_8 k v0 v1 n v2 v3 M = some r → Rn Y_Reducer_reduceTo d mc ms 0 0 (none, r) 8 [(0, (2, v0)), (1, (2, v1)), (2, (0, v2)), (3, (0, v3))] [] M := by
  intro n
  induction n with
  | zero => intro _ _ _ h; cases h
  | succ n ih =>
    intro v2 v3 M h
    rw [L_Reducer_reduceTo_8] at h
    refine r_iload_n (pc := 8) 3 (n := 3) (by decide +kernel) rfl rfl ?_
    refine r_bipush (pc := 9) (z := 8) (by decide +kernel) ⟨by decide, by decide⟩ ?_
    obtain ⟨t11, ht11, h⟩ := bnd h
    have E11_0 : t11 = 0 → Rn Y_Reducer_reduceTo d mc ms 0 0 (none, r) 66 [(0, (2, v0)), (1, (2, v1)), (2, (0, v2))] [] M := by
      intro y0
      have h := ite_t y0 h
      exact hk v2 M h
    have E11_1 : ¬ t11 = 0 → Rn Y_Reducer_reduceTo d mc ms 0 0 (none, r) 25 [(0, (2, v0)), (1, (2, v1)), (3, (0, v3))] [] M := by
      intro n0
      have h := ite_f n0 h
      refine r_aload_n (pc := 25) 0 (n := 0) (by decide +kernel) rfl rfl ?_
      obtain ⟨g26, q26, h⟩ := bnd h
      refine r_get (pc := 26) (by decide +kernel) fl_Reducer_34.r (by decide) rfl q26 ?_
      refine r_iconst (pc := 29) (z := (-1)) (by decide +kernel) ⟨by decide, by decide⟩ ?_
      obtain ⟨x30, q30, h⟩ := bnd h
      refine r_callS (pc := 30) (i := 75) (d2 := d - 1) (As := [(2, g26), (0, (-1))]) (st := []) (st1 := [(0, (-1)), (2, g26)]) (by decide +kernel) yk_Arr_fill_IIV ⟨ml_Reducer_75, sk_Arr_fill_IIV⟩ np_Arr_fill_IIV rfl (by omega) (c_Arr_fill_IIV (d := d - 1) (by omega) q30) (Nat.le_of_ble_eq_true rfl) (Nat.le_of_ble_eq_true rfl) (Nat.le_of_ble_eq_true rfl) rfl ?_
      show Rn _ d _ _ 0 0 _ 33 [(0, (2, v0)), (1, (2, v1)), (3, (0, v3))] [] x30
      refine r_aload_n (pc := 33) 0 (n := 0) (by decide +kernel) rfl rfl ?_
      obtain ⟨_, q34c, h⟩ := bnd h
      obtain ⟨x34, q34, h⟩ := bnd h
      refine r_callV (pc := 34) (i := 81) (d2 := d - 1) (As := []) (st := []) (st1 := [(2, v0)]) (by decide +kernel) yk_Reducer_sortKinds (by decide) rfl ⟨ml_Reducer_81, vk_Reducer_sortKinds⟩ np_Reducer_sortKinds rfl (by omega) q34c (c_Reducer_sortKinds (d := d - 1) (by omega) q34) (Nat.le_of_ble_eq_true rfl) (Nat.le_of_ble_eq_true rfl) (Nat.le_of_ble_eq_true rfl) rfl ?_
      show Rn _ d _ _ 0 0 _ 37 [(0, (2, v0)), (1, (2, v1)), (3, (0, v3))] [(0, x34.1)] x34.2
      obtain ⟨t37, ht37, h⟩ := bnd h
      have E37_0 : Rn Y_Reducer_reduceTo d mc ms 0 0 (none, r) 59 [(0, (2, v0)), (1, (2, v1)), (3, (0, v3))] [(0, t37.1)] t37.2 := by
        refine r_istore_n (pc := 59) (n := 2) (lv' := [(2, (0, t37.1)), (0, (2, v0)), (1, (2, v1)), (3, (0, v3))]) (by decide +kernel) rfl (Nat.le_of_ble_eq_true rfl) rfl ?_
        refine r_iinc (pc := 60) 3 (n := 1) (lv' := [(3, (0, wr (v3 + 1))), (2, (0, t37.1)), (0, (2, v0)), (1, (2, v1))]) (by decide +kernel) rfl (Nat.le_of_ble_eq_true rfl) rfl ?_
        refine r_goto (pc := 63) (off := (-55)) (tgt := 8) (by decide +kernel) (by decide) ?_
        refine r_lv [2, 3, 1, 0] rfl ?_
        exact ih t37.1 (wr (v3 + 1)) t37.2 h
      obtain ⟨t37i, ht37i, ht37⟩ := bnd ht37
      have E37i_0 : t37i.1 = 0 → Rn Y_Reducer_reduceTo d mc ms 0 0 (none, r) 58 [(0, (2, v0)), (1, (2, v1)), (3, (0, v3))] [] t37i.2 := by
        intro y0
        have ht37 := ite_t y0 ht37
        refine r_iconst (pc := 58) (z := 0) (by decide +kernel) ⟨by decide, by decide⟩ ?_
        obtain rfl := Option.some.inj ht37
        exact E37_0
      have E37i_1 : ¬ t37i.1 = 0 → Rn Y_Reducer_reduceTo d mc ms 0 0 (none, r) 54 [(0, (2, v0)), (1, (2, v1)), (3, (0, v3))] [] t37i.2 := by
        intro n0
        have ht37 := ite_f n0 ht37
        refine r_iconst (pc := 54) (z := 1) (by decide +kernel) ⟨by decide, by decide⟩ ?_
        refine r_goto (pc := 55) (off := 4) (tgt := 59) (by decide +kernel) (by decide) ?_
        obtain rfl := Option.some.inj ht37
        exact E37_0
      refine r_if_eq (pc := 37) (off := 21) (tgt := 58) (by decide +kernel) (by decide) (fun c37 => ?_) (fun c37 => ?_)
      · have ht37i := ite_t c37 ht37i
        obtain rfl := Option.some.inj ht37i
        exact E37i_0 rfl
      · have ht37i := ite_f c37 ht37i
        refine r_aload_n (pc := 40) 0 (n := 0) (by decide +kernel) rfl rfl ?_
        obtain ⟨_, q41c, ht37i⟩ := bnd ht37i
        obtain ⟨x41, q41, ht37i⟩ := bnd ht37i
        refine r_callV (pc := 41) (i := 85) (d2 := d - 1) (As := []) (st := []) (st1 := [(2, v0)]) (by decide +kernel) yk_Reducer_reachLeaves (by decide) rfl ⟨ml_Reducer_85, vk_Reducer_reachLeaves⟩ np_Reducer_reachLeaves rfl (by omega) q41c (c_Reducer_reachLeaves (d := d - 1) (by omega) q41) (Nat.le_of_ble_eq_true rfl) (Nat.le_of_ble_eq_true rfl) (Nat.le_of_ble_eq_true rfl) rfl ?_
        show Rn _ d _ _ 0 0 _ 44 [(0, (2, v0)), (1, (2, v1)), (3, (0, v3))] [(0, x41.1)] x41.2
        refine r_if_eq (pc := 44) (off := 14) (tgt := 58) (by decide +kernel) (by decide) (fun c44 => ?_) (fun c44 => ?_)
        · have ht37i := ite_t c44 ht37i
          obtain rfl := Option.some.inj ht37i
          exact E37i_0 rfl
        · have ht37i := ite_f c44 ht37i
          refine r_aload_n (pc := 47) 0 (n := 0) (by decide +kernel) rfl rfl ?_
          obtain ⟨_, q48c, ht37i⟩ := bnd ht37i
          obtain ⟨x48, q48, ht37i⟩ := bnd ht37i
          refine r_callV (pc := 48) (i := 88) (d2 := d - 1) (As := []) (st := []) (st1 := [(2, v0)]) (by decide +kernel) yk_Reducer_reachAll (by decide) rfl ⟨ml_Reducer_88, vk_Reducer_reachAll⟩ np_Reducer_reachAll rfl (by omega) q48c (c_Reducer_reachAll (d := d - 1) (by omega) q48) (Nat.le_of_ble_eq_true rfl) (Nat.le_of_ble_eq_true rfl) (Nat.le_of_ble_eq_true rfl) rfl ?_
          show Rn _ d _ _ 0 0 _ 51 [(0, (2, v0)), (1, (2, v1)), (3, (0, v3))] [(0, x48.1)] x48.2
          refine r_if_eq (pc := 51) (off := 7) (tgt := 58) (by decide +kernel) (by decide) (fun c51 => ?_) (fun c51 => ?_)
          · have ht37i := ite_t c51 ht37i
            obtain rfl := Option.some.inj ht37i
            exact E37i_0 rfl
          · have ht37i := ite_f c51 ht37i
            obtain rfl := Option.some.inj ht37i
            exact E37i_1 (show ¬ (1 : Int) = 0 by decide)
    refine r_icmp_ge (pc := 11) (off := 55) (tgt := 66) (by decide +kernel) (by decide) (fun c11 => ?_) (fun c11 => ?_)
    · have ht11 := ite_t c11 ht11
      obtain rfl := Option.some.inj ht11
      refine r_lv [0, 1, 2] rfl ?_
      exact E11_0 rfl
    · have ht11 := ite_f c11 ht11
      refine r_iload_n (pc := 14) 2 (n := 2) (by decide +kernel) rfl rfl ?_
      refine r_if_ne (pc := 15) (off := 51) (tgt := 66) (by decide +kernel) (by decide) (fun c15 => ?_) (fun c15 => ?_)
      · have ht11 := ite_f c15 ht11
        obtain rfl := Option.some.inj ht11
        refine r_lv [0, 1, 2] rfl ?_
        exact E11_0 rfl
      · have ht11 := ite_t c15 ht11
        refine r_aload_n (pc := 18) 0 (n := 0) (by decide +kernel) rfl rfl ?_
        obtain ⟨g19, q19, ht11⟩ := bnd ht11
        refine r_get (pc := 19) (by decide +kernel) fl_Reducer_40.r (by decide) rfl q19 ?_
        refine r_if_ne (pc := 22) (off := 44) (tgt := 66) (by decide +kernel) (by decide) (fun c22 => ?_) (fun c22 => ?_)
        · have ht11 := ite_f c22 ht11
          obtain rfl := Option.some.inj ht11
          refine r_lv [0, 1, 2] rfl ?_
          exact E11_0 rfl
        · have ht11 := ite_t c22 ht11
          obtain rfl := Option.some.inj ht11
          refine r_lv [0, 1, 3] rfl ?_
          exact E11_1 (show ¬ (1 : Int) = 0 by decide)
theorem c_Reducer_reduceTo {d : Nat} (hd : 6 ≤ d) {a0 a1 : Int} {M : Mem} {x : Mem} (h : D_Reducer_reduceTo a0 a1 M = some x) : Ct d Y_Reducer_reduceTo [(2, a0), (2, a1)] M (none, x) 0 0 := by
  refine ct_of yk_Reducer_reduceTo (Nat.le_of_ble_eq_true rfl) ?_
  rw [D_Reducer_reduceTo] at h
  show Rn Y_Reducer_reduceTo d 0 0 0 0 (none, x) 0 [(0, (2, a0)), (1, (2, a1))] [] M
  refine r_aload_n (pc := 0) 0 (n := 0) (by decide +kernel) rfl rfl ?_
  obtain ⟨_, q1c, h⟩ := bnd h
  obtain ⟨x1, q1, h⟩ := bnd h
  refine r_callV (pc := 1) (i := 72) (d2 := d - 1) (As := []) (st := []) (st1 := [(2, a0)]) (by decide +kernel) yk_Reducer_begin (by decide) rfl ⟨ml_Reducer_72, vk_Reducer_begin⟩ np_Reducer_begin rfl (by omega) q1c (c_Reducer_begin (d := d - 1) (by omega) q1) (Nat.le_of_ble_eq_true rfl) (Nat.le_of_ble_eq_true rfl) (Nat.le_of_ble_eq_true rfl) rfl ?_
  show Rn _ d _ _ 0 0 _ 4 [(0, (2, a0)), (1, (2, a1))] [] x1
  refine r_iconst (pc := 4) (z := 0) (by decide +kernel) ⟨by decide, by decide⟩ ?_
  refine r_istore_n (pc := 5) (n := 2) (lv' := [(2, (0, 0)), (0, (2, a0)), (1, (2, a1))]) (by decide +kernel) rfl (Nat.le_of_ble_eq_true rfl) rfl ?_
  refine r_iconst (pc := 6) (z := 0) (by decide +kernel) ⟨by decide, by decide⟩ ?_
  refine r_istore_n (pc := 7) (n := 3) (lv' := [(3, (0, 0)), (2, (0, 0)), (0, (2, a0)), (1, (2, a1))]) (by decide +kernel) rfl (Nat.le_of_ble_eq_true rfl) rfl ?_
  refine r_lv [2, 3, 1, 0] rfl ?_
  refine sL_Reducer_reduceTo_8 (by omega) ?_ _ _ _  _ h
  intro w2_8 m8 h
  refine r_iload_n (pc := 66) 2 (n := 2) (by decide +kernel) rfl rfl ?_
  refine r_if_eq (pc := 67) (off := 22) (tgt := 89) (by decide +kernel) (by decide) (fun c67 => ?_) (fun c67 => ?_)
  · have h := ite_t c67 h
    refine r_aload_n (pc := 89) 1 (n := 1) (by decide +kernel) rfl rfl ?_
    obtain ⟨_, q90c, h⟩ := bnd h
    obtain ⟨x90, q90, h⟩ := bnd h
    refine r_callV (pc := 90) (i := 101) (d2 := d - 1) (As := []) (st := []) (st1 := [(2, a1)]) (by decide +kernel) yk_Machine_becomeLarge (by decide) rfl ⟨ml_Reducer_101, vk_Machine_becomeLarge⟩ np_Machine_becomeLarge rfl (by omega) q90c (c_Machine_becomeLarge (d := d - 1) (by omega) q90) (Nat.le_of_ble_eq_true rfl) (Nat.le_of_ble_eq_true rfl) (Nat.le_of_ble_eq_true rfl) rfl ?_
    show Rn _ d _ _ 0 0 _ 93 [(0, (2, a0)), (1, (2, a1)), (2, (0, w2_8))] [] x90
    obtain rfl := Option.some.inj h
    exact r_ret (pc := 93) (r := none) (by decide +kernel) rfl trivial (Nat.le_of_ble_eq_true rfl) (Nat.le_of_ble_eq_true rfl)
  · have h := ite_f c67 h
    refine r_aload_n (pc := 70) 1 (n := 1) (by decide +kernel) rfl rfl ?_
    refine r_aload_n (pc := 71) 0 (n := 0) (by decide +kernel) rfl rfl ?_
    obtain ⟨g72, q72, h⟩ := bnd h
    refine r_get (pc := 72) (by decide +kernel) fl_Reducer_34.r (by decide) rfl q72 ?_
    refine r_aload_n (pc := 75) 0 (n := 0) (by decide +kernel) rfl rfl ?_
    obtain ⟨g76, q76, h⟩ := bnd h
    refine r_get (pc := 76) (by decide +kernel) fl_Reducer_37.r (by decide) rfl q76 ?_
    refine r_aload_n (pc := 79) 0 (n := 0) (by decide +kernel) rfl rfl ?_
    obtain ⟨_, q80c, h⟩ := bnd h
    obtain ⟨x80, q80, h⟩ := bnd h
    refine r_callV (pc := 80) (i := 91) (d2 := d - 1) (As := []) (st := [(0, g76), (2, g72), (2, a1)]) (st1 := [(2, a0), (0, g76), (2, g72), (2, a1)]) (by decide +kernel) yk_Reducer_finalKinds (by decide) rfl ⟨ml_Reducer_91, vk_Reducer_finalKinds⟩ np_Reducer_finalKinds rfl (by omega) q80c (c_Reducer_finalKinds (d := d - 1) (by omega) q80) (Nat.le_of_ble_eq_true rfl) (Nat.le_of_ble_eq_true rfl) (Nat.le_of_ble_eq_true rfl) rfl ?_
    show Rn _ d _ _ 0 0 _ 83 [(0, (2, a0)), (1, (2, a1)), (2, (0, w2_8))] [(0, x80.1), (0, g76), (2, g72), (2, a1)] x80.2
    obtain ⟨_, q83c, h⟩ := bnd h
    obtain ⟨x83, q83, h⟩ := bnd h
    refine r_callV (pc := 83) (i := 95) (d2 := d - 1) (As := [(2, g72), (0, g76), (0, x80.1)]) (st := []) (st1 := [(0, x80.1), (0, g76), (2, g72), (2, a1)]) (by decide +kernel) yk_Machine_take (by decide) rfl ⟨ml_Reducer_95, vk_Machine_take⟩ np_Machine_take rfl (by omega) q83c (c_Machine_take (d := d - 1) (by omega) q83) (Nat.le_of_ble_eq_true rfl) (Nat.le_of_ble_eq_true rfl) (Nat.le_of_ble_eq_true rfl) rfl ?_
    show Rn _ d _ _ 0 0 _ 86 [(0, (2, a0)), (1, (2, a1)), (2, (0, w2_8))] [] x83
    refine r_goto (pc := 86) (off := 7) (tgt := 93) (by decide +kernel) (by decide) ?_
    obtain rfl := Option.some.inj h
    exact r_ret (pc := 93) (r := none) (by decide +kernel) rfl trivial (Nat.le_of_ble_eq_true rfl) (Nat.le_of_ble_eq_true rfl)

/-! TreeTongues.isLarge(LTreeTongues$Tongue;)Z -/
noncomputable def D_T_isLarge (a0 a1 : Int) (M : Mem) : Option (Int × Mem) := (gf M a1 7 8 7).bind fun g1 => (if g1 = 0 then (some M) else ((gf M a0 8 8 3).bind fun g8 => (ck M g8 2 6).bind fun _ => (D_Net_setTold g8 a1 M).bind fun x12 => (gf x12 a0 8 8 4).bind fun g16 => (gf x12 a1 7 8 1).bind fun g20 => (ck x12 g16 3 17).bind fun _ => (D_Reducer_reduceTo g16 g20 x12).bind fun x23 => (pf x23 a1 7 8 7 0).bind fun m28 => some m28)).bind fun (t4 : Mem) => (gf t4 a1 7 8 1).bind fun g32 => (gf t4 g32 1 14 12).bind fun g35 => (bz g35).bind fun _ => some (g35, t4)
theorem c_T_isLarge {d : Nat} (hd : 7 ≤ d) {a0 a1 : Int} {M : Mem} {x : Int × Mem} (h : D_T_isLarge a0 a1 M = some x) : Ct d Y_T_isLarge [(2, a0), (2, a1)] M (some (0, x.1), x.2) 0 0 := by
  refine ct_of yk_T_isLarge (Nat.le_of_ble_eq_true rfl) ?_
  rw [D_T_isLarge] at h
  show Rn Y_T_isLarge d 0 0 0 0 (some (0, x.1), x.2) 0 [(0, (2, a0)), (1, (2, a1))] [] M
  refine r_aload_n (pc := 0) 1 (n := 1) (by decide +kernel) rfl rfl ?_
  obtain ⟨g1, q1, h⟩ := bnd h
  refine r_get (pc := 1) (by decide +kernel) fl_T_217.r (by decide) rfl q1 ?_
  obtain ⟨t4, ht4, h⟩ := bnd h
  have E4_0 : Rn Y_T_isLarge d 0 0 0 0 (some (0, x.1), x.2) 31 [(1, (2, a1))] [] t4 := by
    refine r_aload_n (pc := 31) 0 (n := 1) (by decide +kernel) rfl rfl ?_
    obtain ⟨g32, q32, h⟩ := bnd h
    refine r_get (pc := 32) (by decide +kernel) fl_T_126 (by decide) rfl q32 ?_
    obtain ⟨g35, q35, h⟩ := bnd h
    refine r_get (pc := 35) (by decide +kernel) fl_T_195.r (by decide) rfl q35 ?_
    obtain ⟨_, qz, h⟩ := bnd h
    obtain rfl := Option.some.inj h
    exact r_ret (pc := 38) (r := some (0, g35)) (by decide +kernel) rfl (bz_s qz) (Nat.le_of_ble_eq_true rfl) (Nat.le_of_ble_eq_true rfl)
  refine r_if_eq (pc := 4) (off := 27) (tgt := 31) (by decide +kernel) (by decide) (fun c4 => ?_) (fun c4 => ?_)
  · have ht4 := ite_t c4 ht4
    obtain rfl := Option.some.inj ht4
    refine r_lv [1] rfl ?_
    exact E4_0
  · have ht4 := ite_f c4 ht4
    refine r_aload_n (pc := 7) 0 (n := 0) (by decide +kernel) rfl rfl ?_
    obtain ⟨g8, q8, ht4⟩ := bnd ht4
    refine r_get (pc := 8) (by decide +kernel) fl_T_34.r (by decide) rfl q8 ?_
    refine r_aload_n (pc := 11) 1 (n := 1) (by decide +kernel) rfl rfl ?_
    obtain ⟨_, q12c, ht4⟩ := bnd ht4
    obtain ⟨x12, q12, ht4⟩ := bnd ht4
    refine r_callV (pc := 12) (i := 220) (d2 := d - 1) (As := [(2, a1)]) (st := []) (st1 := [(2, a1), (2, g8)]) (by decide +kernel) yk_Net_setTold (by decide) rfl ⟨ml_T_220, vk_Net_setTold⟩ np_Net_setTold rfl (by omega) q12c (c_Net_setTold (d := d - 1) (by omega) q12) (Nat.le_of_ble_eq_true rfl) (Nat.le_of_ble_eq_true rfl) (Nat.le_of_ble_eq_true rfl) rfl ?_
    show Rn _ d _ _ 0 0 _ 15 [(0, (2, a0)), (1, (2, a1))] [] x12
    refine r_aload_n (pc := 15) 0 (n := 0) (by decide +kernel) rfl rfl ?_
    obtain ⟨g16, q16, ht4⟩ := bnd ht4
    refine r_get (pc := 16) (by decide +kernel) fl_T_43.r (by decide) rfl q16 ?_
    refine r_aload_n (pc := 19) 1 (n := 1) (by decide +kernel) rfl rfl ?_
    obtain ⟨g20, q20, ht4⟩ := bnd ht4
    refine r_get (pc := 20) (by decide +kernel) fl_T_126 (by decide) rfl q20 ?_
    obtain ⟨_, q23c, ht4⟩ := bnd ht4
    obtain ⟨x23, q23, ht4⟩ := bnd ht4
    refine r_callV (pc := 23) (i := 192) (d2 := d - 1) (As := [(2, g20)]) (st := []) (st1 := [(2, g20), (2, g16)]) (by decide +kernel) yk_Reducer_reduceTo (by decide) rfl ⟨ml_T_192, vk_Reducer_reduceTo⟩ np_Reducer_reduceTo rfl (by omega) q23c (c_Reducer_reduceTo (d := d - 1) (by omega) q23) (Nat.le_of_ble_eq_true rfl) (Nat.le_of_ble_eq_true rfl) (Nat.le_of_ble_eq_true rfl) rfl ?_
    show Rn _ d _ _ 0 0 _ 26 [(0, (2, a0)), (1, (2, a1))] [] x23
    refine r_aload_n (pc := 26) 1 (n := 1) (by decide +kernel) rfl rfl ?_
    refine r_iconst (pc := 27) (z := 0) (by decide +kernel) ⟨by decide, by decide⟩ ?_
    obtain ⟨m28, q28, ht4⟩ := bnd ht4
    refine r_put (pc := 28) (by decide +kernel) fl_T_217 (by decide) (Or.inr nf_7_7) rfl (fun _ => Or.inl rfl) q28 ?_
    obtain rfl := Option.some.inj ht4
    refine r_lv [1] rfl ?_
    exact E4_0

/-! TreeTongues$Machine.step(III)I -/
noncomputable def D_Machine_step (a0 a1 a2 a3 : Int) (M : Mem) : Option (Int × Mem) := (gf M a0 1 14 1).bind fun g1 => (gf M a0 1 14 0).bind fun g5 => (ck M g5 5 3).bind fun _ => (D_Signs_cell g5 a1 a2 a3 6 M).bind fun x13 => (rd x13.2 10 g1 x13.1).bind fun e16 => some (e16, x13.2)
theorem c_Machine_step {d : Nat} (hd : 3 ≤ d) {a0 a1 a2 a3 : Int} {M : Mem} {x : Int × Mem} (h : D_Machine_step a0 a1 a2 a3 M = some x) : Ct d Y_Machine_step [(2, a0), (0, a1), (0, a2), (0, a3)] M (some (0, x.1), x.2) 0 0 := by
  refine ct_of yk_Machine_step (Nat.le_of_ble_eq_true rfl) ?_
  rw [D_Machine_step] at h
  show Rn Y_Machine_step d 0 0 0 0 (some (0, x.1), x.2) 0 [(0, (2, a0)), (1, (0, a1)), (2, (0, a2)), (3, (0, a3))] [] M
  refine r_aload_n (pc := 0) 0 (n := 0) (by decide +kernel) rfl rfl ?_
  obtain ⟨g1, q1, h⟩ := bnd h
  refine r_get (pc := 1) (by decide +kernel) fl_Machine_9.r (by decide) rfl q1 ?_
  refine r_aload_n (pc := 4) 0 (n := 0) (by decide +kernel) rfl rfl ?_
  obtain ⟨g5, q5, h⟩ := bnd h
  refine r_get (pc := 5) (by decide +kernel) fl_Machine_54.r (by decide) rfl q5 ?_
  refine r_iload_n (pc := 8) 1 (n := 1) (by decide +kernel) rfl rfl ?_
  refine r_iload_n (pc := 9) 2 (n := 2) (by decide +kernel) rfl rfl ?_
  refine r_iload_n (pc := 10) 3 (n := 3) (by decide +kernel) rfl rfl ?_
  refine r_bipush (pc := 11) (z := 6) (by decide +kernel) ⟨by decide, by decide⟩ ?_
  obtain ⟨_, q13c, h⟩ := bnd h
  obtain ⟨x13, q13, h⟩ := bnd h
  refine r_callV (pc := 13) (i := 58) (d2 := d - 1) (As := [(0, a1), (0, a2), (0, a3), (0, 6)]) (st := [(2, g1)]) (st1 := [(0, 6), (0, a3), (0, a2), (0, a1), (2, g5), (2, g1)]) (by decide +kernel) yk_Signs_cell (by decide) rfl ⟨ml_Machine_58, vk_Signs_cell⟩ np_Signs_cell rfl (by omega) q13c (c_Signs_cell (d := d - 1) (by omega) q13) (Nat.le_of_ble_eq_true rfl) (Nat.le_of_ble_eq_true rfl) (Nat.le_of_ble_eq_true rfl) rfl ?_
  show Rn _ d _ _ 0 0 _ 16 [(0, (2, a0)), (1, (0, a1)), (2, (0, a2)), (3, (0, a3))] [(0, x13.1), (2, g1)] x13.2
  obtain ⟨e16, q16, h⟩ := bnd h
  refine r_iald (pc := 16) (by decide +kernel) q16 ?_
  obtain rfl := Option.some.inj h
  exact r_ret (pc := 17) (r := some (0, e16)) (by decide +kernel) rfl trivial (Nat.le_of_ble_eq_true rfl) (Nat.le_of_ble_eq_true rfl)

/-! TreeTongues$Net.enter(LTreeTongues$Machine;III)V -/
noncomputable def L_Net_enter_28 (k : Mem → Option (Mem)) (v0 : Int) (v1 : Int) (v2 : Int) (v3 : Int) (v4 : Int) (v5 : Int) (v6 : Int) : Nat → Int → Mem → Option (Mem)
  | 0 => fun _ _ => none
  | n + 1 => fun v7 M => (gf M v0 2 6 0).bind fun g31 => (ck M g31 5 3).bind fun _ => (D_Signs_choices g31 v3 1 v5 M).bind fun x38 => if x38.1 ≤ v7 then (k  x38.2) else ((ck x38.2 v1 1 14).bind fun _ => (D_Machine_step v1 v4 v6 v7 x38.2).bind fun x63 => (ck x63.2 v0 2 6).bind fun _ => (D_Net_lead v0 v3 (wr (v2 + v6)) (wr (v2 + v7)) (ishl 1 (wr (v2 + x63.1))) x63.2).bind fun x68 => L_Net_enter_28 k v0 v1 v2 v3 v4 v5 v6 n (wr (v7 + 1)) x68)
noncomputable def L_Net_enter_9 (k : Mem → Option (Mem)) (v0 : Int) (v1 : Int) (v2 : Int) (v3 : Int) (v4 : Int) (v5 : Int) : Nat → Int → Mem → Option (Mem)
  | 0 => fun _ _ => none
  | n + 1 => fun v6 M => (gf M v0 2 6 0).bind fun g12 => (ck M g12 5 3).bind fun _ => (D_Signs_choices g12 v3 0 v5 M).bind fun x19 => if x19.1 ≤ v6 then (k  x19.2) else (L_Net_enter_28 (fun  m28 => L_Net_enter_9 k v0 v1 v2 v3 v4 v5 n (wr (v6 + 1)) m28) v0 v1 v2 v3 v4 v5 v6 FU 0 x19.2)
noncomputable def D_Net_enter (a0 a1 a2 a3 a4 : Int) (M : Mem) : Option (Mem) := (gf M a1 1 14 10).bind fun g1 => L_Net_enter_9 (fun  m9 => some m9) a0 a1 a2 a3 a4 g1 FU 0 M
theorem sL_Net_enter_28 {d mc ms : Nat} (hd : 4 ≤ d) {r : Mem} {k : Mem → Option (Mem)} {v0 : Int} {v1 : Int} {v2 : Int} {v3 : Int} {v4 : Int} {v5 : Int} {v6 : Int} (hk : ∀ (M : Mem), k M = some r → Rn Y_Net_enter d mc ms 0 0 (none, r) 77 [(0, (2, v0)), (1, (2, v1)), (2, (0, v2)), (3, (0, v3)), (4, (0, v4)), (5, (0, v5)), (6, (0, v6))] [] M) : ∀ (n : Nat) (v7 : Int) (M : Mem), L_Net_enter_28 k v0 v1 v2 v3 v4 v5 v6 n v7 M = some r → Rn Y_Net_enter d mc ms 0 0 (none, r) 28 [(0, (2, v0)), (1, (2, v1)), (2, (0, v2)), (3, (0, v3)), (4, (0, v4)), (5, (0, v5)), (6, (0, v6)), (7, (0, v7))] [] M := by
  intro n
  induction n with
  | zero => intro _ _ h; cases h
  | succ n ih =>
    intro v7 M h
    rw [L_Net_enter_28] at h
    refine r_iload (pc := 28) 7 (by decide +kernel) rfl ?_
    refine r_aload_n (pc := 30) 0 (n := 0) (by decide +kernel) rfl rfl ?_
    obtain ⟨g31, q31, h⟩ := bnd h
    refine r_get (pc := 31) (by decide +kernel) fl_Net_28.r (by decide) rfl q31 ?_
    refine r_iload_n (pc := 34) 3 (n := 3) (by decide +kernel) rfl rfl ?_
    refine r_iconst (pc := 35) (z := 1) (by decide +kernel) ⟨by decide, by decide⟩ ?_
    refine r_iload (pc := 36) 5 (by decide +kernel) rfl ?_
    obtain ⟨_, q38c, h⟩ := bnd h
    obtain ⟨x38, q38, h⟩ := bnd h
    refine r_callV (pc := 38) (i := 49) (d2 := d - 1) (As := [(0, v3), (0, 1), (0, v5)]) (st := [(0, v7)]) (st1 := [(0, v5), (0, 1), (0, v3), (2, g31), (0, v7)]) (by decide +kernel) yk_Signs_choices (by decide) rfl ⟨ml_Net_49, vk_Signs_choices⟩ np_Signs_choices rfl (by omega) q38c (c_Signs_choices (d := d - 1) (by omega) q38) (Nat.le_of_ble_eq_true rfl) (Nat.le_of_ble_eq_true rfl) (Nat.le_of_ble_eq_true rfl) rfl ?_
    show Rn _ d _ _ 0 0 _ 41 [(0, (2, v0)), (1, (2, v1)), (2, (0, v2)), (3, (0, v3)), (4, (0, v4)), (5, (0, v5)), (6, (0, v6)), (7, (0, v7))] [(0, x38.1), (0, v7)] x38.2
    refine r_icmp_ge (pc := 41) (off := 36) (tgt := 77) (by decide +kernel) (by decide) (fun c41 => ?_) (fun c41 => ?_)
    · have h := ite_t c41 h
      refine r_lv [0, 1, 2, 3, 4, 5, 6] rfl ?_
      exact hk  x38.2 h
    · have h := ite_f c41 h
      refine r_aload_n (pc := 44) 0 (n := 0) (by decide +kernel) rfl rfl ?_
      refine r_iload_n (pc := 45) 3 (n := 3) (by decide +kernel) rfl rfl ?_
      refine r_iload_n (pc := 46) 2 (n := 2) (by decide +kernel) rfl rfl ?_
      refine r_iload (pc := 47) 6 (by decide +kernel) rfl ?_
      refine r_iadd (pc := 49) (by decide +kernel) ?_
      refine r_iload_n (pc := 50) 2 (n := 2) (by decide +kernel) rfl rfl ?_
      refine r_iload (pc := 51) 7 (by decide +kernel) rfl ?_
      refine r_iadd (pc := 53) (by decide +kernel) ?_
      refine r_iconst (pc := 54) (z := 1) (by decide +kernel) ⟨by decide, by decide⟩ ?_
      refine r_iload_n (pc := 55) 2 (n := 2) (by decide +kernel) rfl rfl ?_
      refine r_aload_n (pc := 56) 1 (n := 1) (by decide +kernel) rfl rfl ?_
      refine r_iload (pc := 57) 4 (by decide +kernel) rfl ?_
      refine r_iload (pc := 59) 6 (by decide +kernel) rfl ?_
      refine r_iload (pc := 61) 7 (by decide +kernel) rfl ?_
      obtain ⟨_, q63c, h⟩ := bnd h
      obtain ⟨x63, q63, h⟩ := bnd h
      refine r_callV (pc := 63) (i := 53) (d2 := d - 1) (As := [(0, v4), (0, v6), (0, v7)]) (st := [(0, v2), (0, 1), (0, wr (v2 + v7)), (0, wr (v2 + v6)), (0, v3), (2, v0)]) (st1 := [(0, v7), (0, v6), (0, v4), (2, v1), (0, v2), (0, 1), (0, wr (v2 + v7)), (0, wr (v2 + v6)), (0, v3), (2, v0)]) (by decide +kernel) yk_Machine_step (by decide) rfl ⟨ml_Net_53, vk_Machine_step⟩ np_Machine_step rfl (by omega) q63c (c_Machine_step (d := d - 1) (by omega) q63) (Nat.le_of_ble_eq_true rfl) (Nat.le_of_ble_eq_true rfl) (Nat.le_of_ble_eq_true rfl) rfl ?_
      show Rn _ d _ _ 0 0 _ 66 [(0, (2, v0)), (1, (2, v1)), (2, (0, v2)), (3, (0, v3)), (4, (0, v4)), (5, (0, v5)), (6, (0, v6)), (7, (0, v7))] [(0, x63.1), (0, v2), (0, 1), (0, wr (v2 + v7)), (0, wr (v2 + v6)), (0, v3), (2, v0)] x63.2
      refine r_iadd (pc := 66) (by decide +kernel) ?_
      refine r_ishl (pc := 67) (by decide +kernel) ?_
      obtain ⟨_, q68c, h⟩ := bnd h
      obtain ⟨x68, q68, h⟩ := bnd h
      refine r_callV (pc := 68) (i := 56) (d2 := d - 1) (As := [(0, v3), (0, wr (v2 + v6)), (0, wr (v2 + v7)), (0, ishl 1 (wr (v2 + x63.1)))]) (st := []) (st1 := [(0, ishl 1 (wr (v2 + x63.1))), (0, wr (v2 + v7)), (0, wr (v2 + v6)), (0, v3), (2, v0)]) (by decide +kernel) yk_Net_lead (by decide) rfl ⟨ml_Net_56, vk_Net_lead⟩ np_Net_lead rfl (by omega) q68c (c_Net_lead (d := d - 1) (by omega) q68) (Nat.le_of_ble_eq_true rfl) (Nat.le_of_ble_eq_true rfl) (Nat.le_of_ble_eq_true rfl) rfl ?_
      show Rn _ d _ _ 0 0 _ 71 [(0, (2, v0)), (1, (2, v1)), (2, (0, v2)), (3, (0, v3)), (4, (0, v4)), (5, (0, v5)), (6, (0, v6)), (7, (0, v7))] [] x68
      refine r_iinc (pc := 71) 7 (n := 1) (lv' := [(7, (0, wr (v7 + 1))), (0, (2, v0)), (1, (2, v1)), (2, (0, v2)), (3, (0, v3)), (4, (0, v4)), (5, (0, v5)), (6, (0, v6))]) (by decide +kernel) rfl (Nat.le_of_ble_eq_true rfl) rfl ?_
      refine r_goto (pc := 74) (off := (-46)) (tgt := 28) (by decide +kernel) (by decide) ?_
      refine r_lv [1, 2, 3, 4, 5, 6, 7, 0] rfl ?_
      exact ih (wr (v7 + 1)) x68 h
theorem sL_Net_enter_9 {d mc ms : Nat} (hd : 4 ≤ d) {r : Mem} {k : Mem → Option (Mem)} {v0 : Int} {v1 : Int} {v2 : Int} {v3 : Int} {v4 : Int} {v5 : Int} (hk : ∀ (M : Mem), k M = some r → Rn Y_Net_enter d mc ms 0 0 (none, r) 83 [] [] M) : ∀ (n : Nat) (v6 : Int) (M : Mem), L_Net_enter_9 k v0 v1 v2 v3 v4 v5 n v6 M = some r → Rn Y_Net_enter d mc ms 0 0 (none, r) 9 [(0, (2, v0)), (1, (2, v1)), (2, (0, v2)), (3, (0, v3)), (4, (0, v4)), (5, (0, v5)), (6, (0, v6))] [] M := by
  intro n
  induction n with
  | zero => intro _ _ h; cases h
  | succ n ih =>
    intro v6 M h
    rw [L_Net_enter_9] at h
    refine r_iload (pc := 9) 6 (by decide +kernel) rfl ?_
    refine r_aload_n (pc := 11) 0 (n := 0) (by decide +kernel) rfl rfl ?_
    obtain ⟨g12, q12, h⟩ := bnd h
    refine r_get (pc := 12) (by decide +kernel) fl_Net_28.r (by decide) rfl q12 ?_
    refine r_iload_n (pc := 15) 3 (n := 3) (by decide +kernel) rfl rfl ?_
    refine r_iconst (pc := 16) (z := 0) (by decide +kernel) ⟨by decide, by decide⟩ ?_
    refine r_iload (pc := 17) 5 (by decide +kernel) rfl ?_
    obtain ⟨_, q19c, h⟩ := bnd h
    obtain ⟨x19, q19, h⟩ := bnd h
    refine r_callV (pc := 19) (i := 49) (d2 := d - 1) (As := [(0, v3), (0, 0), (0, v5)]) (st := [(0, v6)]) (st1 := [(0, v5), (0, 0), (0, v3), (2, g12), (0, v6)]) (by decide +kernel) yk_Signs_choices (by decide) rfl ⟨ml_Net_49, vk_Signs_choices⟩ np_Signs_choices rfl (by omega) q19c (c_Signs_choices (d := d - 1) (by omega) q19) (Nat.le_of_ble_eq_true rfl) (Nat.le_of_ble_eq_true rfl) (Nat.le_of_ble_eq_true rfl) rfl ?_
    show Rn _ d _ _ 0 0 _ 22 [(0, (2, v0)), (1, (2, v1)), (2, (0, v2)), (3, (0, v3)), (4, (0, v4)), (5, (0, v5)), (6, (0, v6))] [(0, x19.1), (0, v6)] x19.2
    refine r_icmp_ge (pc := 22) (off := 61) (tgt := 83) (by decide +kernel) (by decide) (fun c22 => ?_) (fun c22 => ?_)
    · have h := ite_t c22 h
      refine r_lv [] rfl ?_
      exact hk  x19.2 h
    · have h := ite_f c22 h
      refine r_iconst (pc := 25) (z := 0) (by decide +kernel) ⟨by decide, by decide⟩ ?_
      refine r_istore (pc := 26) (lv' := [(7, (0, 0)), (0, (2, v0)), (1, (2, v1)), (2, (0, v2)), (3, (0, v3)), (4, (0, v4)), (5, (0, v5)), (6, (0, v6))]) (by decide +kernel) (Nat.le_of_ble_eq_true rfl) rfl ?_
      refine r_lv [1, 2, 3, 4, 5, 6, 7, 0] rfl ?_
      refine sL_Net_enter_28 (by omega) ?_ _ _  _ h
      intro m28 h
      refine r_iinc (pc := 77) 6 (n := 1) (lv' := [(6, (0, wr (v6 + 1))), (0, (2, v0)), (1, (2, v1)), (2, (0, v2)), (3, (0, v3)), (4, (0, v4)), (5, (0, v5))]) (by decide +kernel) rfl (Nat.le_of_ble_eq_true rfl) rfl ?_
      refine r_goto (pc := 80) (off := (-71)) (tgt := 9) (by decide +kernel) (by decide) ?_
      refine r_lv [1, 2, 3, 4, 5, 6, 0] rfl ?_
      exact ih (wr (v6 + 1)) m28 h
theorem c_Net_enter {d : Nat} (hd : 4 ≤ d) {a0 a1 a2 a3 a4 : Int} {M : Mem} {x : Mem} (h : D_Net_enter a0 a1 a2 a3 a4 M = some x) : Ct d Y_Net_enter [(2, a0), (2, a1), (0, a2), (0, a3), (0, a4)] M (none, x) 0 0 := by
  refine ct_of yk_Net_enter (Nat.le_of_ble_eq_true rfl) ?_
  rw [D_Net_enter] at h
  show Rn Y_Net_enter d 0 0 0 0 (none, x) 0 [(0, (2, a0)), (1, (2, a1)), (2, (0, a2)), (3, (0, a3)), (4, (0, a4))] [] M
  refine r_aload_n (pc := 0) 1 (n := 1) (by decide +kernel) rfl rfl ?_
  obtain ⟨g1, q1, h⟩ := bnd h
  refine r_get (pc := 1) (by decide +kernel) fl_Net_44.r (by decide) rfl q1 ?_
  refine r_istore (pc := 4) (lv' := [(5, (0, g1)), (0, (2, a0)), (1, (2, a1)), (2, (0, a2)), (3, (0, a3)), (4, (0, a4))]) (by decide +kernel) (Nat.le_of_ble_eq_true rfl) rfl ?_
  refine r_iconst (pc := 6) (z := 0) (by decide +kernel) ⟨by decide, by decide⟩ ?_
  refine r_istore (pc := 7) (lv' := [(6, (0, 0)), (5, (0, g1)), (0, (2, a0)), (1, (2, a1)), (2, (0, a2)), (3, (0, a3)), (4, (0, a4))]) (by decide +kernel) (Nat.le_of_ble_eq_true rfl) rfl ?_
  refine r_lv [2, 3, 4, 5, 6, 1, 0] rfl ?_
  refine sL_Net_enter_9 (by omega) ?_ _ _  _ h
  intro m9 h
  obtain rfl := Option.some.inj h
  exact r_ret (pc := 83) (r := none) (by decide +kernel) rfl trivial (Nat.le_of_ble_eq_true rfl) (Nat.le_of_ble_eq_true rfl)

/-! TreeTongues$Net.setBoth(LTreeTongues$Machine;LTreeTongues$Machine;I)V -/
noncomputable def L_Net_setBoth_30 (k : Mem → Option (Mem)) (v0 : Int) (v1 : Int) (v2 : Int) : Nat → Int → Mem → Option (Mem)
  | 0 => fun _ _ => none
  | n + 1 => fun v4 M => (gf M v0 2 6 0).bind fun g33 => (gf M g33 5 3 1).bind fun g36 => if g36 ≤ v4 then (k  M) else ((ck M v0 2 6).bind fun _ => (D_Net_enter v0 v1 0 v4 v4 M).bind fun x49 => (ck x49 v0 2 6).bind fun _ => (D_Net_enter v0 v2 6 v4 v4 x49).bind fun x60 => L_Net_setBoth_30 k v0 v1 v2 n (wr (v4 + 1)) x60)
noncomputable def D_Net_setBoth (a0 a1 a2 a3 : Int) (M : Mem) : Option (Mem) := (gf M a2 1 14 10).bind fun g4 => (gf M a1 1 14 11).bind fun g9 => (ck M a0 2 6).bind fun _ => (D_Net_begin a0 (wr (6 + g4)) g9 a3 M).bind fun x13 => (gf x13 a2 1 14 11).bind fun g18 => (pf x13 a0 2 6 4 (ishl g18 6)).bind fun m24 => L_Net_setBoth_30 (fun  m30 => some m30) a0 a1 a2 FU 0 m24
theorem sL_Net_setBoth_30 {d mc ms : Nat} (hd : 5 ≤ d) {r : Mem} {k : Mem → Option (Mem)} {v0 : Int} {v1 : Int} {v2 : Int} (hk : ∀ (M : Mem), k M = some r → Rn Y_Net_setBoth d mc ms 0 0 (none, r) 69 [] [] M) : ∀ (n : Nat) (v4 : Int) (M : Mem), L_Net_setBoth_30 k v0 v1 v2 n v4 M = some r → Rn Y_Net_setBoth d mc ms 0 0 (none, r) 30 [(0, (2, v0)), (1, (2, v1)), (2, (2, v2)), (4, (0, v4))] [] M := by
  intro n
  induction n with
  | zero => intro _ _ h; cases h
  | succ n ih =>
    intro v4 M h
    rw [L_Net_setBoth_30] at h
    refine r_iload (pc := 30) 3 (by decide +kernel) rfl ?_
    refine r_aload_n (pc := 32) 0 (n := 0) (by decide +kernel) rfl rfl ?_
    obtain ⟨g33, q33, h⟩ := bnd h
    refine r_get (pc := 33) (by decide +kernel) fl_Net_28.r (by decide) rfl q33 ?_
    obtain ⟨g36, q36, h⟩ := bnd h
    refine r_get (pc := 36) (by decide +kernel) fl_Net_70.r (by decide) rfl q36 ?_
    refine r_icmp_ge (pc := 39) (off := 30) (tgt := 69) (by decide +kernel) (by decide) (fun c39 => ?_) (fun c39 => ?_)
    · have h := ite_t c39 h
      refine r_lv [] rfl ?_
      exact hk  M h
    · have h := ite_f c39 h
      refine r_aload_n (pc := 42) 0 (n := 0) (by decide +kernel) rfl rfl ?_
      refine r_aload_n (pc := 43) 1 (n := 1) (by decide +kernel) rfl rfl ?_
      refine r_iconst (pc := 44) (z := 0) (by decide +kernel) ⟨by decide, by decide⟩ ?_
      refine r_iload (pc := 45) 3 (by decide +kernel) rfl ?_
      refine r_iload (pc := 47) 3 (by decide +kernel) rfl ?_
      obtain ⟨_, q49c, h⟩ := bnd h
      obtain ⟨x49, q49, h⟩ := bnd h
      refine r_callV (pc := 49) (i := 76) (d2 := d - 1) (As := [(2, v1), (0, 0), (0, v4), (0, v4)]) (st := []) (st1 := [(0, v4), (0, v4), (0, 0), (2, v1), (2, v0)]) (by decide +kernel) yk_Net_enter (by decide) rfl ⟨ml_Net_76, vk_Net_enter⟩ np_Net_enter rfl (by omega) q49c (c_Net_enter (d := d - 1) (by omega) q49) (Nat.le_of_ble_eq_true rfl) (Nat.le_of_ble_eq_true rfl) (Nat.le_of_ble_eq_true rfl) rfl ?_
      show Rn _ d _ _ 0 0 _ 52 [(0, (2, v0)), (1, (2, v1)), (2, (2, v2)), (4, (0, v4))] [] x49
      refine r_aload_n (pc := 52) 0 (n := 0) (by decide +kernel) rfl rfl ?_
      refine r_aload_n (pc := 53) 2 (n := 2) (by decide +kernel) rfl rfl ?_
      refine r_bipush (pc := 54) (z := 6) (by decide +kernel) ⟨by decide, by decide⟩ ?_
      refine r_iload (pc := 56) 3 (by decide +kernel) rfl ?_
      refine r_iload (pc := 58) 3 (by decide +kernel) rfl ?_
      obtain ⟨_, q60c, h⟩ := bnd h
      obtain ⟨x60, q60, h⟩ := bnd h
      refine r_callV (pc := 60) (i := 76) (d2 := d - 1) (As := [(2, v2), (0, 6), (0, v4), (0, v4)]) (st := []) (st1 := [(0, v4), (0, v4), (0, 6), (2, v2), (2, v0)]) (by decide +kernel) yk_Net_enter (by decide) rfl ⟨ml_Net_76, vk_Net_enter⟩ np_Net_enter rfl (by omega) q60c (c_Net_enter (d := d - 1) (by omega) q60) (Nat.le_of_ble_eq_true rfl) (Nat.le_of_ble_eq_true rfl) (Nat.le_of_ble_eq_true rfl) rfl ?_
      show Rn _ d _ _ 0 0 _ 63 [(0, (2, v0)), (1, (2, v1)), (2, (2, v2)), (4, (0, v4))] [] x60
      refine r_iinc (pc := 63) 3 (n := 1) (lv' := [(4, (0, wr (v4 + 1))), (0, (2, v0)), (1, (2, v1)), (2, (2, v2))]) (by decide +kernel) rfl (Nat.le_of_ble_eq_true rfl) rfl ?_
      refine r_goto (pc := 66) (off := (-36)) (tgt := 30) (by decide +kernel) (by decide) ?_
      refine r_lv [1, 2, 3, 0] rfl ?_
      exact ih (wr (v4 + 1)) x60 h
theorem c_Net_setBoth {d : Nat} (hd : 5 ≤ d) {a0 a1 a2 a3 : Int} {M : Mem} {x : Mem} (h : D_Net_setBoth a0 a1 a2 a3 M = some x) : Ct d Y_Net_setBoth [(2, a0), (2, a1), (2, a2), (0, a3)] M (none, x) 0 0 := by
  refine ct_of yk_Net_setBoth (Nat.le_of_ble_eq_true rfl) ?_
  rw [D_Net_setBoth] at h
  show Rn Y_Net_setBoth d 0 0 0 0 (none, x) 0 [(0, (2, a0)), (1, (2, a1)), (2, (2, a2)), (3, (0, a3))] [] M
  refine r_aload_n (pc := 0) 0 (n := 0) (by decide +kernel) rfl rfl ?_
  refine r_bipush (pc := 1) (z := 6) (by decide +kernel) ⟨by decide, by decide⟩ ?_
  refine r_aload_n (pc := 3) 2 (n := 2) (by decide +kernel) rfl rfl ?_
  obtain ⟨g4, q4, h⟩ := bnd h
  refine r_get (pc := 4) (by decide +kernel) fl_Net_44.r (by decide) rfl q4 ?_
  refine r_iadd (pc := 7) (by decide +kernel) ?_
  refine r_aload_n (pc := 8) 1 (n := 1) (by decide +kernel) rfl rfl ?_
  obtain ⟨g9, q9, h⟩ := bnd h
  refine r_get (pc := 9) (by decide +kernel) fl_Net_80.r (by decide) rfl q9 ?_
  refine r_iload_n (pc := 12) 3 (n := 3) (by decide +kernel) rfl rfl ?_
  obtain ⟨_, q13c, h⟩ := bnd h
  obtain ⟨x13, q13, h⟩ := bnd h
  refine r_callV (pc := 13) (i := 66) (d2 := d - 1) (As := [(0, wr (6 + g4)), (0, g9), (0, a3)]) (st := []) (st1 := [(0, a3), (0, g9), (0, wr (6 + g4)), (2, a0)]) (by decide +kernel) yk_Net_begin (by decide) rfl ⟨ml_Net_66, vk_Net_begin⟩ np_Net_begin rfl (by omega) q13c (c_Net_begin (d := d - 1) (by omega) q13) (Nat.le_of_ble_eq_true rfl) (Nat.le_of_ble_eq_true rfl) (Nat.le_of_ble_eq_true rfl) rfl ?_
  show Rn _ d _ _ 0 0 _ 16 [(0, (2, a0)), (1, (2, a1)), (2, (2, a2)), (3, (0, a3))] [] x13
  refine r_aload_n (pc := 16) 0 (n := 0) (by decide +kernel) rfl rfl ?_
  refine r_aload_n (pc := 17) 2 (n := 2) (by decide +kernel) rfl rfl ?_
  obtain ⟨g18, q18, h⟩ := bnd h
  refine r_get (pc := 18) (by decide +kernel) fl_Net_80.r (by decide) rfl q18 ?_
  refine r_bipush (pc := 21) (z := 6) (by decide +kernel) ⟨by decide, by decide⟩ ?_
  refine r_ishl (pc := 23) (by decide +kernel) ?_
  obtain ⟨m24, q24, h⟩ := bnd h
  refine r_put (pc := 24) (by decide +kernel) fl_Net_22 (by decide) (Or.inr nf_2_4) rfl (fun h3 => by cases h3) q24 ?_
  refine r_iconst (pc := 27) (z := 0) (by decide +kernel) ⟨by decide, by decide⟩ ?_
  refine r_istore (pc := 28) (lv' := [(4, (0, 0)), (0, (2, a0)), (1, (2, a1)), (2, (2, a2)), (3, (0, a3))]) (by decide +kernel) (Nat.le_of_ble_eq_true rfl) rfl ?_
  refine r_lv [1, 2, 3, 0] rfl ?_
  refine sL_Net_setBoth_30 (by omega) ?_ _ _  _ h
  intro m30 h
  obtain rfl := Option.some.inj h
  exact r_ret (pc := 69) (r := none) (by decide +kernel) rfl trivial (Nat.le_of_ble_eq_true rfl) (Nat.le_of_ble_eq_true rfl)

/-! TreeTongues.keep()I -/
noncomputable def D_T_keep (a0 : Int) (M : Mem) : Option (Int × Mem) := (gf M a0 8 8 7).bind fun g2 => (ck M a0 8 8).bind fun _ => (D_T_slot a0 g2 M).bind fun x5 => (pf x5.2 x5.1 7 8 6 0).bind fun m11 => (pf m11 x5.1 7 8 7 0).bind fun m16 => (gf m16 a0 8 8 4).bind fun g20 => (gf m16 x5.1 7 8 1).bind fun g24 => (ck m16 g20 3 17).bind fun _ => (D_Reducer_reduceTo g20 g24 m16).bind fun x27 => (gf x27 x5.1 7 8 1).bind fun g31 => (gf x27 g31 1 14 12).bind fun g34 => if g34 = 0 then ((gf x27 a0 8 8 7).bind fun g47 => (pf x27 a0 8 8 7 (wr (g47 + 1))).bind fun m53 => some (g47, m53)) else (some ((-5), x27))
theorem c_T_keep {d : Nat} (hd : 7 ≤ d) {a0 : Int} {M : Mem} {x : Int × Mem} (h : D_T_keep a0 M = some x) : Ct d Y_T_keep [(2, a0)] M (some (0, x.1), x.2) 12 676 := by
  refine ct_of yk_T_keep (Nat.le_of_ble_eq_true rfl) ?_
  rw [D_T_keep] at h
  show Rn Y_T_keep d 12 676 0 0 (some (0, x.1), x.2) 0 [(0, (2, a0))] [] M
  refine r_aload_n (pc := 0) 0 (n := 0) (by decide +kernel) rfl rfl ?_
  refine r_aload_n (pc := 1) 0 (n := 0) (by decide +kernel) rfl rfl ?_
  obtain ⟨g2, q2, h⟩ := bnd h
  refine r_get (pc := 2) (by decide +kernel) fl_T_63.r (by decide) rfl q2 ?_
  obtain ⟨_, q5c, h⟩ := bnd h
  obtain ⟨x5, q5, h⟩ := bnd h
  refine r_callV (pc := 5) (i := 91) (d2 := d - 1) (As := [(0, g2)]) (st := []) (st1 := [(0, g2), (2, a0)]) (by decide +kernel) yk_T_slot (by decide) rfl ⟨ml_T_91, vk_T_slot⟩ np_T_slot rfl (by omega) q5c (c_T_slot (d := d - 1) (by omega) q5) (Nat.le_of_ble_eq_true rfl) (Nat.le_of_ble_eq_true rfl) (Nat.le_of_ble_eq_true rfl) rfl ?_
  show Rn _ d _ _ 12 676 _ 8 [(0, (2, a0))] [(2, x5.1)] x5.2
  refine r_astore_n (pc := 8) (n := 1) (lv' := [(1, (2, x5.1)), (0, (2, a0))]) (by decide +kernel) rfl (Nat.le_of_ble_eq_true rfl) rfl ?_
  refine r_aload_n (pc := 9) 0 (n := 1) (by decide +kernel) rfl rfl ?_
  refine r_iconst (pc := 10) (z := 0) (by decide +kernel) ⟨by decide, by decide⟩ ?_
  obtain ⟨m11, q11, h⟩ := bnd h
  refine r_put (pc := 11) (by decide +kernel) fl_T_101 (by decide) (Or.inr nf_7_6) rfl (fun _ => Or.inl rfl) q11 ?_
  refine r_aload_n (pc := 14) 0 (n := 1) (by decide +kernel) rfl rfl ?_
  refine r_iconst (pc := 15) (z := 0) (by decide +kernel) ⟨by decide, by decide⟩ ?_
  obtain ⟨m16, q16, h⟩ := bnd h
  refine r_put (pc := 16) (by decide +kernel) fl_T_217 (by decide) (Or.inr nf_7_7) rfl (fun _ => Or.inl rfl) q16 ?_
  refine r_aload_n (pc := 19) 1 (n := 0) (by decide +kernel) rfl rfl ?_
  obtain ⟨g20, q20, h⟩ := bnd h
  refine r_get (pc := 20) (by decide +kernel) fl_T_43.r (by decide) rfl q20 ?_
  refine r_aload_n (pc := 23) 0 (n := 1) (by decide +kernel) rfl rfl ?_
  obtain ⟨g24, q24, h⟩ := bnd h
  refine r_get (pc := 24) (by decide +kernel) fl_T_126 (by decide) rfl q24 ?_
  obtain ⟨_, q27c, h⟩ := bnd h
  obtain ⟨x27, q27, h⟩ := bnd h
  refine r_callV (pc := 27) (i := 192) (d2 := d - 1) (As := [(2, g24)]) (st := []) (st1 := [(2, g24), (2, g20)]) (by decide +kernel) yk_Reducer_reduceTo (by decide) rfl ⟨ml_T_192, vk_Reducer_reduceTo⟩ np_Reducer_reduceTo rfl (by omega) q27c (c_Reducer_reduceTo (d := d - 1) (by omega) q27) (Nat.le_of_ble_eq_true rfl) (Nat.le_of_ble_eq_true rfl) (Nat.le_of_ble_eq_true rfl) rfl ?_
  show Rn _ d _ _ 12 676 _ 30 [(1, (2, x5.1)), (0, (2, a0))] [] x27
  refine r_aload_n (pc := 30) 0 (n := 1) (by decide +kernel) rfl rfl ?_
  obtain ⟨g31, q31, h⟩ := bnd h
  refine r_get (pc := 31) (by decide +kernel) fl_T_126 (by decide) rfl q31 ?_
  obtain ⟨g34, q34, h⟩ := bnd h
  refine r_get (pc := 34) (by decide +kernel) fl_T_195.r (by decide) rfl q34 ?_
  refine r_if_eq (pc := 37) (off := 8) (tgt := 45) (by decide +kernel) (by decide) (fun c37 => ?_) (fun c37 => ?_)
  · have h := ite_t c37 h
    refine r_aload_n (pc := 45) 1 (n := 0) (by decide +kernel) rfl rfl ?_
    refine r_dup (pc := 46) (by decide +kernel) rfl ?_
    obtain ⟨g47, q47, h⟩ := bnd h
    refine r_get (pc := 47) (by decide +kernel) fl_T_63.r (by decide) rfl q47 ?_
    refine r_dup_x1 (pc := 50) (by decide +kernel) rfl rfl ?_
    refine r_iconst (pc := 51) (z := 1) (by decide +kernel) ⟨by decide, by decide⟩ ?_
    refine r_iadd (pc := 52) (by decide +kernel) ?_
    obtain ⟨m53, q53, h⟩ := bnd h
    refine r_put (pc := 53) (by decide +kernel) fl_T_63 (by decide) (Or.inr nf_8_7) rfl (fun h3 => by cases h3) q53 ?_
    obtain rfl := Option.some.inj h
    exact r_ret (pc := 56) (r := some (0, g47)) (by decide +kernel) rfl trivial (Nat.le_of_ble_eq_true rfl) (Nat.le_of_ble_eq_true rfl)
  · have h := ite_f c37 h
    refine r_bipush (pc := 40) (z := (-5)) (by decide +kernel) ⟨by decide, by decide⟩ ?_
    refine r_goto (pc := 42) (off := 14) (tgt := 56) (by decide +kernel) (by decide) ?_
    obtain rfl := Option.some.inj h
    exact r_ret (pc := 56) (r := some (0, (-5))) (by decide +kernel) rfl trivial (Nat.le_of_ble_eq_true rfl) (Nat.le_of_ble_eq_true rfl)

/-! TreeTongues.of(III)I -/
noncomputable def D_T_of (a0 a1 a2 a3 : Int) (M : Mem) : Option (Int × Mem) := (ck M a0 8 8).bind fun _ => (D_T_find a0 a2 M).bind fun x2 => (ck x2.2 a0 8 8).bind fun _ => (D_T_find a0 a3 x2.2).bind fun x9 => if a1 < 0 then (some ((-2), x9.2)) else (if 4 ≤ a1 then (some ((-2), x9.2)) else (if x2.1 < 0 then (some ((-2), x9.2)) else (if x9.1 < 0 then (some ((-2), x9.2)) else ((gf x9.2 a0 8 8 7).bind fun g40 => if g40 < 16 then ((ck x9.2 a0 8 8).bind fun _ => (D_T_isLarge a0 x2.1 x9.2).bind fun x54 => if x54.1 = 0 then ((ck x54.2 a0 8 8).bind fun _ => (D_T_isLarge a0 x9.1 x54.2).bind fun x63 => if x63.1 = 0 then ((gf x63.2 a0 8 8 3).bind fun g73 => (gf x63.2 x2.1 7 8 1).bind fun g78 => (gf x63.2 x9.1 7 8 1).bind fun g83 => (wv a1).bind fun e90 => (ck x63.2 g73 2 6).bind fun _ => (D_Net_setBoth g73 g78 g83 e90 x63.2).bind fun x91 => (ck x91 a0 8 8).bind fun _ => (D_T_keep a0 x91).bind fun x95 => some (x95.1, x95.2)) else (some ((-5), x63.2))) else (some ((-5), x54.2))) else (some ((-4), x9.2))))))
theorem c_T_of {d : Nat} (hd : 8 ≤ d) {a0 a1 a2 a3 : Int} {M : Mem} {x : Int × Mem} (h : D_T_of a0 a1 a2 a3 M = some x) : Ct d Y_T_of [(2, a0), (0, a1), (0, a2), (0, a3)] M (some (0, x.1), x.2) 12 676 := by
  refine ct_of yk_T_of (Nat.le_of_ble_eq_true rfl) ?_
  rw [D_T_of] at h
  show Rn Y_T_of d 12 676 0 0 (some (0, x.1), x.2) 0 [(0, (2, a0)), (1, (0, a1)), (2, (0, a2)), (3, (0, a3))] [] M
  refine r_aload_n (pc := 0) 0 (n := 0) (by decide +kernel) rfl rfl ?_
  refine r_iload_n (pc := 1) 2 (n := 2) (by decide +kernel) rfl rfl ?_
  obtain ⟨_, q2c, h⟩ := bnd h
  obtain ⟨x2, q2, h⟩ := bnd h
  refine r_callV (pc := 2) (i := 98) (d2 := d - 1) (As := [(0, a2)]) (st := []) (st1 := [(0, a2), (2, a0)]) (by decide +kernel) yk_T_find (by decide) rfl ⟨ml_T_98, vk_T_find⟩ np_T_find rfl (by omega) q2c (c_T_find (d := d - 1) (by omega) q2) (Nat.le_of_ble_eq_true rfl) (Nat.le_of_ble_eq_true rfl) (Nat.le_of_ble_eq_true rfl) rfl ?_
  show Rn _ d _ _ 0 0 _ 5 [(0, (2, a0)), (1, (0, a1)), (2, (0, a2)), (3, (0, a3))] [(2, x2.1)] x2.2
  refine r_astore (pc := 5) (lv' := [(4, (2, x2.1)), (0, (2, a0)), (1, (0, a1)), (2, (0, a2)), (3, (0, a3))]) (by decide +kernel) (Nat.le_of_ble_eq_true rfl) rfl ?_
  refine r_aload_n (pc := 7) 1 (n := 0) (by decide +kernel) rfl rfl ?_
  refine r_iload_n (pc := 8) 4 (n := 3) (by decide +kernel) rfl rfl ?_
  obtain ⟨_, q9c, h⟩ := bnd h
  obtain ⟨x9, q9, h⟩ := bnd h
  refine r_callV (pc := 9) (i := 98) (d2 := d - 1) (As := [(0, a3)]) (st := []) (st1 := [(0, a3), (2, a0)]) (by decide +kernel) yk_T_find (by decide) rfl ⟨ml_T_98, vk_T_find⟩ np_T_find rfl (by omega) q9c (c_T_find (d := d - 1) (by omega) q9) (Nat.le_of_ble_eq_true rfl) (Nat.le_of_ble_eq_true rfl) (Nat.le_of_ble_eq_true rfl) rfl ?_
  show Rn _ d _ _ 0 0 _ 12 [(4, (2, x2.1)), (0, (2, a0)), (1, (0, a1)), (2, (0, a2)), (3, (0, a3))] [(2, x9.1)] x9.2
  refine r_astore (pc := 12) (lv' := [(5, (2, x9.1)), (4, (2, x2.1)), (0, (2, a0)), (1, (0, a1)), (2, (0, a2)), (3, (0, a3))]) (by decide +kernel) (Nat.le_of_ble_eq_true rfl) rfl ?_
  refine r_iload_n (pc := 14) 3 (n := 1) (by decide +kernel) rfl rfl ?_
  refine r_if_lt (pc := 15) (off := 21) (tgt := 36) (by decide +kernel) (by decide) (fun c15 => ?_) (fun c15 => ?_)
  · have h := ite_t c15 h
    refine r_bipush (pc := 36) (z := (-2)) (by decide +kernel) ⟨by decide, by decide⟩ ?_
    obtain rfl := Option.some.inj h
    exact r_ret (pc := 38) (r := some (0, (-2))) (by decide +kernel) rfl trivial (Nat.le_of_ble_eq_true rfl) (Nat.le_of_ble_eq_true rfl)
  · have h := ite_f c15 h
    refine r_iload_n (pc := 18) 3 (n := 1) (by decide +kernel) rfl rfl ?_
    refine r_ways (pc := 19) (i := 119) (by decide +kernel) (mg 480 (by decide +kernel) (by decide +kernel)) ?_
    refine r_wlen (pc := 22) (by decide +kernel) ?_
    refine r_icmp_ge (pc := 23) (off := 13) (tgt := 36) (by decide +kernel) (by decide) (fun c23 => ?_) (fun c23 => ?_)
    · have h := ite_t c23 h
      refine r_bipush (pc := 36) (z := (-2)) (by decide +kernel) ⟨by decide, by decide⟩ ?_
      obtain rfl := Option.some.inj h
      exact r_ret (pc := 38) (r := some (0, (-2))) (by decide +kernel) rfl trivial (Nat.le_of_ble_eq_true rfl) (Nat.le_of_ble_eq_true rfl)
    · have h := ite_f c23 h
      refine r_aload (pc := 26) 1 (by decide +kernel) rfl ?_
      refine r_ifnull (pc := 28) (off := 8) (tgt := 36) (by decide +kernel) (by decide) (fun c28 => ?_) (fun c28 => ?_)
      · have h := ite_t c28 h
        refine r_bipush (pc := 36) (z := (-2)) (by decide +kernel) ⟨by decide, by decide⟩ ?_
        obtain rfl := Option.some.inj h
        exact r_ret (pc := 38) (r := some (0, (-2))) (by decide +kernel) rfl trivial (Nat.le_of_ble_eq_true rfl) (Nat.le_of_ble_eq_true rfl)
      · have h := ite_f c28 h
        refine r_aload (pc := 31) 0 (by decide +kernel) rfl ?_
        refine r_ifnonnull (pc := 33) (off := 6) (tgt := 39) (by decide +kernel) (by decide) (fun c33 => ?_) (fun c33 => ?_)
        · have h := ite_f c33 h
          refine r_aload_n (pc := 39) 2 (n := 0) (by decide +kernel) rfl rfl ?_
          obtain ⟨g40, q40, h⟩ := bnd h
          refine r_get (pc := 40) (by decide +kernel) fl_T_63.r (by decide) rfl q40 ?_
          refine r_bipush (pc := 43) (z := 16) (by decide +kernel) ⟨by decide, by decide⟩ ?_
          refine r_icmp_lt (pc := 45) (off := 6) (tgt := 51) (by decide +kernel) (by decide) (fun c45 => ?_) (fun c45 => ?_)
          · have h := ite_t c45 h
            refine r_aload_n (pc := 51) 2 (n := 0) (by decide +kernel) rfl rfl ?_
            refine r_aload (pc := 52) 1 (by decide +kernel) rfl ?_
            obtain ⟨_, q54c, h⟩ := bnd h
            obtain ⟨x54, q54, h⟩ := bnd h
            refine r_callV (pc := 54) (i := 122) (d2 := d - 1) (As := [(2, x2.1)]) (st := []) (st1 := [(2, x2.1), (2, a0)]) (by decide +kernel) yk_T_isLarge (by decide) rfl ⟨ml_T_122, vk_T_isLarge⟩ np_T_isLarge rfl (by omega) q54c (c_T_isLarge (d := d - 1) (by omega) q54) (Nat.le_of_ble_eq_true rfl) (Nat.le_of_ble_eq_true rfl) (Nat.le_of_ble_eq_true rfl) rfl ?_
            show Rn _ d _ _ 0 0 _ 57 [(5, (2, x9.1)), (4, (2, x2.1)), (0, (2, a0)), (1, (0, a1)), (2, (0, a2)), (3, (0, a3))] [(0, x54.1)] x54.2
            refine r_if_ne (pc := 57) (off := 12) (tgt := 69) (by decide +kernel) (by decide) (fun c57 => ?_) (fun c57 => ?_)
            · have h := ite_f c57 h
              refine r_bipush (pc := 69) (z := (-5)) (by decide +kernel) ⟨by decide, by decide⟩ ?_
              obtain rfl := Option.some.inj h
              exact r_ret (pc := 71) (r := some (0, (-5))) (by decide +kernel) rfl trivial (Nat.le_of_ble_eq_true rfl) (Nat.le_of_ble_eq_true rfl)
            · have h := ite_t c57 h
              refine r_aload_n (pc := 60) 2 (n := 0) (by decide +kernel) rfl rfl ?_
              refine r_aload (pc := 61) 0 (by decide +kernel) rfl ?_
              obtain ⟨_, q63c, h⟩ := bnd h
              obtain ⟨x63, q63, h⟩ := bnd h
              refine r_callV (pc := 63) (i := 122) (d2 := d - 1) (As := [(2, x9.1)]) (st := []) (st1 := [(2, x9.1), (2, a0)]) (by decide +kernel) yk_T_isLarge (by decide) rfl ⟨ml_T_122, vk_T_isLarge⟩ np_T_isLarge rfl (by omega) q63c (c_T_isLarge (d := d - 1) (by omega) q63) (Nat.le_of_ble_eq_true rfl) (Nat.le_of_ble_eq_true rfl) (Nat.le_of_ble_eq_true rfl) rfl ?_
              show Rn _ d _ _ 0 0 _ 66 [(5, (2, x9.1)), (4, (2, x2.1)), (0, (2, a0)), (1, (0, a1)), (2, (0, a2)), (3, (0, a3))] [(0, x63.1)] x63.2
              refine r_if_eq (pc := 66) (off := 6) (tgt := 72) (by decide +kernel) (by decide) (fun c66 => ?_) (fun c66 => ?_)
              · have h := ite_t c66 h
                refine r_aload_n (pc := 72) 2 (n := 0) (by decide +kernel) rfl rfl ?_
                obtain ⟨g73, q73, h⟩ := bnd h
                refine r_get (pc := 73) (by decide +kernel) fl_T_34.r (by decide) rfl q73 ?_
                refine r_aload (pc := 76) 1 (by decide +kernel) rfl ?_
                obtain ⟨g78, q78, h⟩ := bnd h
                refine r_get (pc := 78) (by decide +kernel) fl_T_126 (by decide) rfl q78 ?_
                refine r_aload (pc := 81) 0 (by decide +kernel) rfl ?_
                obtain ⟨g83, q83, h⟩ := bnd h
                refine r_get (pc := 83) (by decide +kernel) fl_T_126 (by decide) rfl q83 ?_
                refine r_ways (pc := 86) (i := 119) (by decide +kernel) (mg 480 (by decide +kernel) (by decide +kernel)) ?_
                refine r_iload_n (pc := 89) 3 (n := 1) (by decide +kernel) rfl rfl ?_
                obtain ⟨e90, q90, h⟩ := bnd h
                refine r_wald (pc := 90) (by decide +kernel) q90 ?_
                obtain ⟨_, q91c, h⟩ := bnd h
                obtain ⟨x91, q91, h⟩ := bnd h
                refine r_callV (pc := 91) (i := 129) (d2 := d - 1) (As := [(2, g78), (2, g83), (0, e90)]) (st := []) (st1 := [(0, e90), (2, g83), (2, g78), (2, g73)]) (by decide +kernel) yk_Net_setBoth (by decide) rfl ⟨ml_T_129, vk_Net_setBoth⟩ np_Net_setBoth rfl (by omega) q91c (c_Net_setBoth (d := d - 1) (by omega) q91) (Nat.le_of_ble_eq_true rfl) (Nat.le_of_ble_eq_true rfl) (Nat.le_of_ble_eq_true rfl) rfl ?_
                show Rn _ d _ _ 0 0 _ 94 [(5, (2, x9.1)), (4, (2, x2.1)), (0, (2, a0)), (1, (0, a1)), (2, (0, a2)), (3, (0, a3))] [] x91
                refine r_aload_n (pc := 94) 2 (n := 0) (by decide +kernel) rfl rfl ?_
                obtain ⟨_, q95c, h⟩ := bnd h
                obtain ⟨x95, q95, h⟩ := bnd h
                refine r_callV (pc := 95) (i := 133) (d2 := d - 1) (As := []) (st := []) (st1 := [(2, a0)]) (by decide +kernel) yk_T_keep (by decide) rfl ⟨ml_T_133, vk_T_keep⟩ np_T_keep rfl (by omega) q95c (c_T_keep (d := d - 1) (by omega) q95) (Nat.le_of_ble_eq_true rfl) (Nat.le_of_ble_eq_true rfl) (Nat.le_of_ble_eq_true rfl) rfl ?_
                show Rn _ d _ _ 12 676 _ 98 [(5, (2, x9.1)), (4, (2, x2.1)), (0, (2, a0)), (1, (0, a1)), (2, (0, a2)), (3, (0, a3))] [(0, x95.1)] x95.2
                obtain rfl := Option.some.inj h
                exact r_ret (pc := 98) (r := some (0, x95.1)) (by decide +kernel) rfl trivial (Nat.le_of_ble_eq_true rfl) (Nat.le_of_ble_eq_true rfl)
              · have h := ite_f c66 h
                refine r_bipush (pc := 69) (z := (-5)) (by decide +kernel) ⟨by decide, by decide⟩ ?_
                obtain rfl := Option.some.inj h
                exact r_ret (pc := 71) (r := some (0, (-5))) (by decide +kernel) rfl trivial (Nat.le_of_ble_eq_true rfl) (Nat.le_of_ble_eq_true rfl)
          · have h := ite_f c45 h
            refine r_bipush (pc := 48) (z := (-4)) (by decide +kernel) ⟨by decide, by decide⟩ ?_
            obtain rfl := Option.some.inj h
            exact r_ret (pc := 50) (r := some (0, (-4))) (by decide +kernel) rfl trivial (Nat.le_of_ble_eq_true rfl) (Nat.le_of_ble_eq_true rfl)
        · have h := ite_t c33 h
          refine r_bipush (pc := 36) (z := (-2)) (by decide +kernel) ⟨by decide, by decide⟩ ?_
          obtain rfl := Option.some.inj h
          exact r_ret (pc := 38) (r := some (0, (-2))) (by decide +kernel) rfl trivial (Nat.le_of_ble_eq_true rfl) (Nat.le_of_ble_eq_true rfl)

/-! TreeTongues$Net.setOne(LTreeTongues$Machine;II)V -/
noncomputable def L_Net_setOne_13 (k : Mem → Option (Mem)) (v0 : Int) (v1 : Int) : Nat → Int → Mem → Option (Mem)
  | 0 => fun _ _ => none
  | n + 1 => fun v4 M => (gf M v0 2 6 0).bind fun g16 => (gf M g16 5 3 1).bind fun g19 => if g19 ≤ v4 then (k  M) else ((ck M v0 2 6).bind fun _ => (D_Net_enter v0 v1 0 v4 v4 M).bind fun x32 => L_Net_setOne_13 k v0 v1 n (wr (v4 + 1)) x32)
noncomputable def D_Net_setOne (a0 a1 a2 a3 : Int) (M : Mem) : Option (Mem) := (gf M a1 1 14 10).bind fun g2 => (ck M a0 2 6).bind fun _ => (D_Net_begin a0 g2 a2 a3 M).bind fun x7 => L_Net_setOne_13 (fun  m13 => some m13) a0 a1 FU 0 x7
theorem sL_Net_setOne_13 {d mc ms : Nat} (hd : 5 ≤ d) {r : Mem} {k : Mem → Option (Mem)} {v0 : Int} {v1 : Int} (hk : ∀ (M : Mem), k M = some r → Rn Y_Net_setOne d mc ms 0 0 (none, r) 41 [] [] M) : ∀ (n : Nat) (v4 : Int) (M : Mem), L_Net_setOne_13 k v0 v1 n v4 M = some r → Rn Y_Net_setOne d mc ms 0 0 (none, r) 13 [(0, (2, v0)), (1, (2, v1)), (4, (0, v4))] [] M := by
  intro n
  induction n with
  | zero => intro _ _ h; cases h
  | succ n ih =>
    intro v4 M h
    rw [L_Net_setOne_13] at h
    refine r_iload (pc := 13) 2 (by decide +kernel) rfl ?_
    refine r_aload_n (pc := 15) 0 (n := 0) (by decide +kernel) rfl rfl ?_
    obtain ⟨g16, q16, h⟩ := bnd h
    refine r_get (pc := 16) (by decide +kernel) fl_Net_28.r (by decide) rfl q16 ?_
    obtain ⟨g19, q19, h⟩ := bnd h
    refine r_get (pc := 19) (by decide +kernel) fl_Net_70.r (by decide) rfl q19 ?_
    refine r_icmp_ge (pc := 22) (off := 19) (tgt := 41) (by decide +kernel) (by decide) (fun c22 => ?_) (fun c22 => ?_)
    · have h := ite_t c22 h
      refine r_lv [] rfl ?_
      exact hk  M h
    · have h := ite_f c22 h
      refine r_aload_n (pc := 25) 0 (n := 0) (by decide +kernel) rfl rfl ?_
      refine r_aload_n (pc := 26) 1 (n := 1) (by decide +kernel) rfl rfl ?_
      refine r_iconst (pc := 27) (z := 0) (by decide +kernel) ⟨by decide, by decide⟩ ?_
      refine r_iload (pc := 28) 2 (by decide +kernel) rfl ?_
      refine r_iload (pc := 30) 2 (by decide +kernel) rfl ?_
      obtain ⟨_, q32c, h⟩ := bnd h
      obtain ⟨x32, q32, h⟩ := bnd h
      refine r_callV (pc := 32) (i := 76) (d2 := d - 1) (As := [(2, v1), (0, 0), (0, v4), (0, v4)]) (st := []) (st1 := [(0, v4), (0, v4), (0, 0), (2, v1), (2, v0)]) (by decide +kernel) yk_Net_enter (by decide) rfl ⟨ml_Net_76, vk_Net_enter⟩ np_Net_enter rfl (by omega) q32c (c_Net_enter (d := d - 1) (by omega) q32) (Nat.le_of_ble_eq_true rfl) (Nat.le_of_ble_eq_true rfl) (Nat.le_of_ble_eq_true rfl) rfl ?_
      show Rn _ d _ _ 0 0 _ 35 [(0, (2, v0)), (1, (2, v1)), (4, (0, v4))] [] x32
      refine r_iinc (pc := 35) 2 (n := 1) (lv' := [(4, (0, wr (v4 + 1))), (0, (2, v0)), (1, (2, v1))]) (by decide +kernel) rfl (Nat.le_of_ble_eq_true rfl) rfl ?_
      refine r_goto (pc := 38) (off := (-25)) (tgt := 13) (by decide +kernel) (by decide) ?_
      refine r_lv [1, 2, 0] rfl ?_
      exact ih (wr (v4 + 1)) x32 h
theorem c_Net_setOne {d : Nat} (hd : 5 ≤ d) {a0 a1 a2 a3 : Int} {M : Mem} {x : Mem} (h : D_Net_setOne a0 a1 a2 a3 M = some x) : Ct d Y_Net_setOne [(2, a0), (2, a1), (0, a2), (0, a3)] M (none, x) 0 0 := by
  refine ct_of yk_Net_setOne (Nat.le_of_ble_eq_true rfl) ?_
  rw [D_Net_setOne] at h
  show Rn Y_Net_setOne d 0 0 0 0 (none, x) 0 [(0, (2, a0)), (1, (2, a1)), (2, (0, a2)), (3, (0, a3))] [] M
  refine r_aload_n (pc := 0) 0 (n := 0) (by decide +kernel) rfl rfl ?_
  refine r_aload_n (pc := 1) 1 (n := 1) (by decide +kernel) rfl rfl ?_
  obtain ⟨g2, q2, h⟩ := bnd h
  refine r_get (pc := 2) (by decide +kernel) fl_Net_44.r (by decide) rfl q2 ?_
  refine r_iload_n (pc := 5) 2 (n := 2) (by decide +kernel) rfl rfl ?_
  refine r_iload_n (pc := 6) 3 (n := 3) (by decide +kernel) rfl rfl ?_
  obtain ⟨_, q7c, h⟩ := bnd h
  obtain ⟨x7, q7, h⟩ := bnd h
  refine r_callV (pc := 7) (i := 66) (d2 := d - 1) (As := [(0, g2), (0, a2), (0, a3)]) (st := []) (st1 := [(0, a3), (0, a2), (0, g2), (2, a0)]) (by decide +kernel) yk_Net_begin (by decide) rfl ⟨ml_Net_66, vk_Net_begin⟩ np_Net_begin rfl (by omega) q7c (c_Net_begin (d := d - 1) (by omega) q7) (Nat.le_of_ble_eq_true rfl) (Nat.le_of_ble_eq_true rfl) (Nat.le_of_ble_eq_true rfl) rfl ?_
  show Rn _ d _ _ 0 0 _ 10 [(0, (2, a0)), (1, (2, a1)), (2, (0, a2)), (3, (0, a3))] [] x7
  refine r_iconst (pc := 10) (z := 0) (by decide +kernel) ⟨by decide, by decide⟩ ?_
  refine r_istore (pc := 11) (lv' := [(4, (0, 0)), (0, (2, a0)), (1, (2, a1)), (2, (0, a2)), (3, (0, a3))]) (by decide +kernel) (Nat.le_of_ble_eq_true rfl) rfl ?_
  refine r_lv [1, 2, 0] rfl ?_
  refine sL_Net_setOne_13 (by omega) ?_ _ _  _ h
  intro m13 h
  obtain rfl := Option.some.inj h
  exact r_ret (pc := 41) (r := none) (by decide +kernel) rfl trivial (Nat.le_of_ble_eq_true rfl) (Nat.le_of_ble_eq_true rfl)

/-! TreeTongues.not(I)I -/
noncomputable def D_T_not (a0 a1 : Int) (M : Mem) : Option (Int × Mem) := (ck M a0 8 8).bind fun _ => (D_T_find a0 a1 M).bind fun x2 => if x2.1 < 0 then (some ((-2), x2.2)) else ((gf x2.2 a0 8 8 7).bind fun g14 => if g14 < 16 then ((ck x2.2 a0 8 8).bind fun _ => (D_T_isLarge a0 x2.1 x2.2).bind fun x27 => if x27.1 = 0 then ((gf x27.2 a0 8 8 3).bind fun g37 => (gf x27.2 x2.1 7 8 1).bind fun g41 => (gf x27.2 x2.1 7 8 1).bind fun g45 => (gf x27.2 g45 1 14 11).bind fun g48 => (ck x27.2 g37 2 6).bind fun _ => (D_Net_setOne g37 g41 g48 5 x27.2).bind fun x52 => (ck x52 a0 8 8).bind fun _ => (D_T_keep a0 x52).bind fun x56 => some (x56.1, x56.2)) else (some ((-5), x27.2))) else (some ((-4), x2.2)))
theorem c_T_not {d : Nat} (hd : 8 ≤ d) {a0 a1 : Int} {M : Mem} {x : Int × Mem} (h : D_T_not a0 a1 M = some x) : Ct d Y_T_not [(2, a0), (0, a1)] M (some (0, x.1), x.2) 12 676 := by
  refine ct_of yk_T_not (Nat.le_of_ble_eq_true rfl) ?_
  rw [D_T_not] at h
  show Rn Y_T_not d 12 676 0 0 (some (0, x.1), x.2) 0 [(0, (2, a0)), (1, (0, a1))] [] M
  refine r_aload_n (pc := 0) 0 (n := 0) (by decide +kernel) rfl rfl ?_
  refine r_iload_n (pc := 1) 1 (n := 1) (by decide +kernel) rfl rfl ?_
  obtain ⟨_, q2c, h⟩ := bnd h
  obtain ⟨x2, q2, h⟩ := bnd h
  refine r_callV (pc := 2) (i := 98) (d2 := d - 1) (As := [(0, a1)]) (st := []) (st1 := [(0, a1), (2, a0)]) (by decide +kernel) yk_T_find (by decide) rfl ⟨ml_T_98, vk_T_find⟩ np_T_find rfl (by omega) q2c (c_T_find (d := d - 1) (by omega) q2) (Nat.le_of_ble_eq_true rfl) (Nat.le_of_ble_eq_true rfl) (Nat.le_of_ble_eq_true rfl) rfl ?_
  show Rn _ d _ _ 0 0 _ 5 [(0, (2, a0)), (1, (0, a1))] [(2, x2.1)] x2.2
  refine r_astore_n (pc := 5) (n := 2) (lv' := [(2, (2, x2.1)), (0, (2, a0)), (1, (0, a1))]) (by decide +kernel) rfl (Nat.le_of_ble_eq_true rfl) rfl ?_
  refine r_aload_n (pc := 6) 0 (n := 2) (by decide +kernel) rfl rfl ?_
  refine r_ifnonnull (pc := 7) (off := 6) (tgt := 13) (by decide +kernel) (by decide) (fun c7 => ?_) (fun c7 => ?_)
  · have h := ite_f c7 h
    refine r_aload_n (pc := 13) 1 (n := 0) (by decide +kernel) rfl rfl ?_
    obtain ⟨g14, q14, h⟩ := bnd h
    refine r_get (pc := 14) (by decide +kernel) fl_T_63.r (by decide) rfl q14 ?_
    refine r_bipush (pc := 17) (z := 16) (by decide +kernel) ⟨by decide, by decide⟩ ?_
    refine r_icmp_lt (pc := 19) (off := 6) (tgt := 25) (by decide +kernel) (by decide) (fun c19 => ?_) (fun c19 => ?_)
    · have h := ite_t c19 h
      refine r_aload_n (pc := 25) 1 (n := 0) (by decide +kernel) rfl rfl ?_
      refine r_aload_n (pc := 26) 0 (n := 2) (by decide +kernel) rfl rfl ?_
      obtain ⟨_, q27c, h⟩ := bnd h
      obtain ⟨x27, q27, h⟩ := bnd h
      refine r_callV (pc := 27) (i := 122) (d2 := d - 1) (As := [(2, x2.1)]) (st := []) (st1 := [(2, x2.1), (2, a0)]) (by decide +kernel) yk_T_isLarge (by decide) rfl ⟨ml_T_122, vk_T_isLarge⟩ np_T_isLarge rfl (by omega) q27c (c_T_isLarge (d := d - 1) (by omega) q27) (Nat.le_of_ble_eq_true rfl) (Nat.le_of_ble_eq_true rfl) (Nat.le_of_ble_eq_true rfl) rfl ?_
      show Rn _ d _ _ 0 0 _ 30 [(2, (2, x2.1)), (0, (2, a0)), (1, (0, a1))] [(0, x27.1)] x27.2
      refine r_if_eq (pc := 30) (off := 6) (tgt := 36) (by decide +kernel) (by decide) (fun c30 => ?_) (fun c30 => ?_)
      · have h := ite_t c30 h
        refine r_aload_n (pc := 36) 1 (n := 0) (by decide +kernel) rfl rfl ?_
        obtain ⟨g37, q37, h⟩ := bnd h
        refine r_get (pc := 37) (by decide +kernel) fl_T_34.r (by decide) rfl q37 ?_
        refine r_aload_n (pc := 40) 0 (n := 2) (by decide +kernel) rfl rfl ?_
        obtain ⟨g41, q41, h⟩ := bnd h
        refine r_get (pc := 41) (by decide +kernel) fl_T_126 (by decide) rfl q41 ?_
        refine r_aload_n (pc := 44) 0 (n := 2) (by decide +kernel) rfl rfl ?_
        obtain ⟨g45, q45, h⟩ := bnd h
        refine r_get (pc := 45) (by decide +kernel) fl_T_126 (by decide) rfl q45 ?_
        obtain ⟨g48, q48, h⟩ := bnd h
        refine r_get (pc := 48) (by decide +kernel) fl_T_137.r (by decide) rfl q48 ?_
        refine r_iconst (pc := 51) (z := 5) (by decide +kernel) ⟨by decide, by decide⟩ ?_
        obtain ⟨_, q52c, h⟩ := bnd h
        obtain ⟨x52, q52, h⟩ := bnd h
        refine r_callV (pc := 52) (i := 140) (d2 := d - 1) (As := [(2, g41), (0, g48), (0, 5)]) (st := []) (st1 := [(0, 5), (0, g48), (2, g41), (2, g37)]) (by decide +kernel) yk_Net_setOne (by decide) rfl ⟨ml_T_140, vk_Net_setOne⟩ np_Net_setOne rfl (by omega) q52c (c_Net_setOne (d := d - 1) (by omega) q52) (Nat.le_of_ble_eq_true rfl) (Nat.le_of_ble_eq_true rfl) (Nat.le_of_ble_eq_true rfl) rfl ?_
        show Rn _ d _ _ 0 0 _ 55 [(2, (2, x2.1)), (0, (2, a0)), (1, (0, a1))] [] x52
        refine r_aload_n (pc := 55) 1 (n := 0) (by decide +kernel) rfl rfl ?_
        obtain ⟨_, q56c, h⟩ := bnd h
        obtain ⟨x56, q56, h⟩ := bnd h
        refine r_callV (pc := 56) (i := 133) (d2 := d - 1) (As := []) (st := []) (st1 := [(2, a0)]) (by decide +kernel) yk_T_keep (by decide) rfl ⟨ml_T_133, vk_T_keep⟩ np_T_keep rfl (by omega) q56c (c_T_keep (d := d - 1) (by omega) q56) (Nat.le_of_ble_eq_true rfl) (Nat.le_of_ble_eq_true rfl) (Nat.le_of_ble_eq_true rfl) rfl ?_
        show Rn _ d _ _ 12 676 _ 59 [(2, (2, x2.1)), (0, (2, a0)), (1, (0, a1))] [(0, x56.1)] x56.2
        obtain rfl := Option.some.inj h
        exact r_ret (pc := 59) (r := some (0, x56.1)) (by decide +kernel) rfl trivial (Nat.le_of_ble_eq_true rfl) (Nat.le_of_ble_eq_true rfl)
      · have h := ite_f c30 h
        refine r_bipush (pc := 33) (z := (-5)) (by decide +kernel) ⟨by decide, by decide⟩ ?_
        obtain rfl := Option.some.inj h
        exact r_ret (pc := 35) (r := some (0, (-5))) (by decide +kernel) rfl trivial (Nat.le_of_ble_eq_true rfl) (Nat.le_of_ble_eq_true rfl)
    · have h := ite_f c19 h
      refine r_bipush (pc := 22) (z := (-4)) (by decide +kernel) ⟨by decide, by decide⟩ ?_
      obtain rfl := Option.some.inj h
      exact r_ret (pc := 24) (r := some (0, (-4))) (by decide +kernel) rfl trivial (Nat.le_of_ble_eq_true rfl) (Nat.le_of_ble_eq_true rfl)
  · have h := ite_t c7 h
    refine r_bipush (pc := 10) (z := (-2)) (by decide +kernel) ⟨by decide, by decide⟩ ?_
    obtain rfl := Option.some.inj h
    exact r_ret (pc := 12) (r := some (0, (-2))) (by decide +kernel) rfl trivial (Nat.le_of_ble_eq_true rfl) (Nat.le_of_ble_eq_true rfl)
