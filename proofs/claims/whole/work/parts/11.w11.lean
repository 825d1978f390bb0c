/-! TreeTongues$Signs.<init>()V -/
noncomputable def D_Signs_init (a0 : Int) (M : Mem) : Option (Mem) := (ck M a0 5 3).bind fun _ => (na M 10 6).bind fun x7 => (pf x7.2 a0 5 3 0 x7.1).bind fun m9 => (pf m9 a0 5 3 1 0).bind fun m14 => (pf m14 a0 5 3 2 0).bind fun m19 => some m19
theorem c_Signs_init {d : Nat} (hd : 1 ≤ d) {a0 : Int} {M : Mem} {x : Mem} (h : D_Signs_init a0 M = some x) : Ct d Y_Signs_init [(2, a0)] M (none, x) 1 6 := by
  refine ct_of yk_Signs_init (Nat.le_of_ble_eq_true rfl) ?_
  rw [D_Signs_init] at h
  show Rn Y_Signs_init d 1 6 0 0 (none, x) 0 [(0, (2, a0))] [] M
  refine r_aload_n (pc := 0) 0 (n := 0) (by decide +kernel) rfl rfl ?_
  obtain ⟨_, q1c, h⟩ := bnd h
  refine r_objinit (pc := 1) (i := 3) (by decide +kernel) (mg 106 (by decide +kernel) (by decide +kernel)) (by decide) q1c (by omega) (Nat.le_of_ble_eq_true rfl) ?_
  refine r_aload_n (pc := 4) 0 (n := 0) (by decide +kernel) rfl rfl ?_
  refine r_bipush (pc := 5) (z := 6) (by decide +kernel) ⟨by decide, by decide⟩ ?_
  obtain ⟨x7, q7, h⟩ := bnd h
  refine r_newa (pc := 7) (kd := 10) (ty := .int) (sl' := 6) (by decide) (by decide +kernel) q7 (Nat.le_of_ble_eq_true rfl) rfl (Nat.le_of_ble_eq_true rfl) ?_
  obtain ⟨m9, q9, h⟩ := bnd h
  refine r_put (pc := 9) (by decide +kernel) fl_Signs_9 (by decide) (Or.inl rfl) rfl (fun h3 => by cases h3) q9 ?_
  refine r_aload_n (pc := 12) 0 (n := 0) (by decide +kernel) rfl rfl ?_
  refine r_iconst (pc := 13) (z := 0) (by decide +kernel) ⟨by decide, by decide⟩ ?_
  obtain ⟨m14, q14, h⟩ := bnd h
  refine r_put (pc := 14) (by decide +kernel) fl_Signs_15 (by decide) (Or.inl rfl) rfl (fun h3 => by cases h3) q14 ?_
  refine r_aload_n (pc := 17) 0 (n := 0) (by decide +kernel) rfl rfl ?_
  refine r_iconst (pc := 18) (z := 0) (by decide +kernel) ⟨by decide, by decide⟩ ?_
  obtain ⟨m19, q19, h⟩ := bnd h
  refine r_put (pc := 19) (by decide +kernel) fl_Signs_19 (by decide) (Or.inl rfl) rfl (fun _ => Or.inl rfl) q19 ?_
  obtain rfl := Option.some.inj h
  exact r_ret (pc := 22) (r := none) (by decide +kernel) rfl trivial (Nat.le_of_ble_eq_true rfl) (Nat.le_of_ble_eq_true rfl)

/-! TreeTongues$Row.<init>(LTreeTongues$Signs;)V -/
noncomputable def D_Row_init (a0 a1 : Int) (M : Mem) : Option (Mem) := (ck M a0 4 5).bind fun _ => (na M 10 120).bind fun x7 => (pf x7.2 a0 4 5 1 x7.1).bind fun m9 => (na m9 10 120).bind fun x15 => (pf x15.2 a0 4 5 2 x15.1).bind fun m17 => (na m17 10 120).bind fun x23 => (pf x23.2 a0 4 5 3 x23.1).bind fun m25 => (pf m25 a0 4 5 4 0).bind fun m30 => (pf m30 a0 4 5 0 a1).bind fun m35 => some m35
theorem c_Row_init {d : Nat} (hd : 1 ≤ d) {a0 a1 : Int} {M : Mem} {x : Mem} (h : D_Row_init a0 a1 M = some x) : Ct d Y_Row_init [(2, a0), (2, a1)] M (none, x) 3 360 := by
  refine ct_of yk_Row_init (Nat.le_of_ble_eq_true rfl) ?_
  rw [D_Row_init] at h
  show Rn Y_Row_init d 3 360 0 0 (none, x) 0 [(0, (2, a0)), (1, (2, a1))] [] M
  refine r_aload_n (pc := 0) 0 (n := 0) (by decide +kernel) rfl rfl ?_
  obtain ⟨_, q1c, h⟩ := bnd h
  refine r_objinit (pc := 1) (i := 3) (by decide +kernel) (mg 129 (by decide +kernel) (by decide +kernel)) (by decide) q1c (by omega) (Nat.le_of_ble_eq_true rfl) ?_
  refine r_aload_n (pc := 4) 0 (n := 0) (by decide +kernel) rfl rfl ?_
  refine r_bipush (pc := 5) (z := 120) (by decide +kernel) ⟨by decide, by decide⟩ ?_
  obtain ⟨x7, q7, h⟩ := bnd h
  refine r_newa (pc := 7) (kd := 10) (ty := .int) (sl' := 120) (by decide) (by decide +kernel) q7 (Nat.le_of_ble_eq_true rfl) rfl (Nat.le_of_ble_eq_true rfl) ?_
  obtain ⟨m9, q9, h⟩ := bnd h
  refine r_put (pc := 9) (by decide +kernel) fl_Row_9 (by decide) (Or.inl rfl) rfl (fun h3 => by cases h3) q9 ?_
  refine r_aload_n (pc := 12) 0 (n := 0) (by decide +kernel) rfl rfl ?_
  refine r_bipush (pc := 13) (z := 120) (by decide +kernel) ⟨by decide, by decide⟩ ?_
  obtain ⟨x15, q15, h⟩ := bnd h
  refine r_newa (pc := 15) (kd := 10) (ty := .int) (sl' := 120) (by decide) (by decide +kernel) q15 (Nat.le_of_ble_eq_true rfl) rfl (Nat.le_of_ble_eq_true rfl) ?_
  obtain ⟨m17, q17, h⟩ := bnd h
  refine r_put (pc := 17) (by decide +kernel) fl_Row_15 (by decide) (Or.inl rfl) rfl (fun h3 => by cases h3) q17 ?_
  refine r_aload_n (pc := 20) 0 (n := 0) (by decide +kernel) rfl rfl ?_
  refine r_bipush (pc := 21) (z := 120) (by decide +kernel) ⟨by decide, by decide⟩ ?_
  obtain ⟨x23, q23, h⟩ := bnd h
  refine r_newa (pc := 23) (kd := 10) (ty := .int) (sl' := 120) (by decide) (by decide +kernel) q23 (Nat.le_of_ble_eq_true rfl) rfl (Nat.le_of_ble_eq_true rfl) ?_
  obtain ⟨m25, q25, h⟩ := bnd h
  refine r_put (pc := 25) (by decide +kernel) fl_Row_18 (by decide) (Or.inl rfl) rfl (fun h3 => by cases h3) q25 ?_
  refine r_aload_n (pc := 28) 0 (n := 0) (by decide +kernel) rfl rfl ?_
  refine r_iconst (pc := 29) (z := 0) (by decide +kernel) ⟨by decide, by decide⟩ ?_
  obtain ⟨m30, q30, h⟩ := bnd h
  refine r_put (pc := 30) (by decide +kernel) fl_Row_21 (by decide) (Or.inl rfl) rfl (fun h3 => by cases h3) q30 ?_
  refine r_aload_n (pc := 33) 0 (n := 0) (by decide +kernel) rfl rfl ?_
  refine r_aload_n (pc := 34) 1 (n := 1) (by decide +kernel) rfl rfl ?_
  obtain ⟨m35, q35, h⟩ := bnd h
  refine r_put (pc := 35) (by decide +kernel) fl_Row_25 (by decide) (Or.inl rfl) rfl (fun h3 => by cases h3) q35 ?_
  obtain rfl := Option.some.inj h
  exact r_ret (pc := 38) (r := none) (by decide +kernel) rfl trivial (Nat.le_of_ble_eq_true rfl) (Nat.le_of_ble_eq_true rfl)

/-! TreeTongues$Net.<init>(LTreeTongues$Signs;)V -/
noncomputable def D_Net_init (a0 a1 : Int) (M : Mem) : Option (Mem) := (ck M a0 2 6).bind fun _ => (na M 10 864).bind fun x8 => (pf x8.2 a0 2 6 1 x8.1).bind fun m10 => (pf m10 a0 2 6 2 0).bind fun m15 => (pf m15 a0 2 6 3 0).bind fun m20 => (pf m20 a0 2 6 4 0).bind fun m25 => (pf m25 a0 2 6 5 10).bind fun m31 => (pf m31 a0 2 6 0 a1).bind fun m36 => some m36
theorem c_Net_init {d : Nat} (hd : 1 ≤ d) {a0 a1 : Int} {M : Mem} {x : Mem} (h : D_Net_init a0 a1 M = some x) : Ct d Y_Net_init [(2, a0), (2, a1)] M (none, x) 1 864 := by
  refine ct_of yk_Net_init (Nat.le_of_ble_eq_true rfl) ?_
  rw [D_Net_init] at h
  show Rn Y_Net_init d 1 864 0 0 (none, x) 0 [(0, (2, a0)), (1, (2, a1))] [] M
  refine r_aload_n (pc := 0) 0 (n := 0) (by decide +kernel) rfl rfl ?_
  obtain ⟨_, q1c, h⟩ := bnd h
  refine r_objinit (pc := 1) (i := 3) (by decide +kernel) (mg 159 (by decide +kernel) (by decide +kernel)) (by decide) q1c (by omega) (Nat.le_of_ble_eq_true rfl) ?_
  refine r_aload_n (pc := 4) 0 (n := 0) (by decide +kernel) rfl rfl ?_
  refine r_sipush (pc := 5) (z := 864) (by decide +kernel) ⟨by decide, by decide⟩ ?_
  obtain ⟨x8, q8, h⟩ := bnd h
  refine r_newa (pc := 8) (kd := 10) (ty := .int) (sl' := 864) (by decide) (by decide +kernel) q8 (Nat.le_of_ble_eq_true rfl) rfl (Nat.le_of_ble_eq_true rfl) ?_
  obtain ⟨m10, q10, h⟩ := bnd h
  refine r_put (pc := 10) (by decide +kernel) fl_Net_9 (by decide) (Or.inl rfl) rfl (fun h3 => by cases h3) q10 ?_
  refine r_aload_n (pc := 13) 0 (n := 0) (by decide +kernel) rfl rfl ?_
  refine r_iconst (pc := 14) (z := 0) (by decide +kernel) ⟨by decide, by decide⟩ ?_
  obtain ⟨m15, q15, h⟩ := bnd h
  refine r_put (pc := 15) (by decide +kernel) fl_Net_15 (by decide) (Or.inl rfl) rfl (fun h3 => by cases h3) q15 ?_
  refine r_aload_n (pc := 18) 0 (n := 0) (by decide +kernel) rfl rfl ?_
  refine r_iconst (pc := 19) (z := 0) (by decide +kernel) ⟨by decide, by decide⟩ ?_
  obtain ⟨m20, q20, h⟩ := bnd h
  refine r_put (pc := 20) (by decide +kernel) fl_Net_19 (by decide) (Or.inl rfl) rfl (fun h3 => by cases h3) q20 ?_
  refine r_aload_n (pc := 23) 0 (n := 0) (by decide +kernel) rfl rfl ?_
  refine r_iconst (pc := 24) (z := 0) (by decide +kernel) ⟨by decide, by decide⟩ ?_
  obtain ⟨m25, q25, h⟩ := bnd h
  refine r_put (pc := 25) (by decide +kernel) fl_Net_22 (by decide) (Or.inl rfl) rfl (fun h3 => by cases h3) q25 ?_
  refine r_aload_n (pc := 28) 0 (n := 0) (by decide +kernel) rfl rfl ?_
  refine r_bipush (pc := 29) (z := 10) (by decide +kernel) ⟨by decide, by decide⟩ ?_
  obtain ⟨m31, q31, h⟩ := bnd h
  refine r_put (pc := 31) (by decide +kernel) fl_Net_25 (by decide) (Or.inl rfl) rfl (fun h3 => by cases h3) q31 ?_
  refine r_aload_n (pc := 34) 0 (n := 0) (by decide +kernel) rfl rfl ?_
  refine r_aload_n (pc := 35) 1 (n := 1) (by decide +kernel) rfl rfl ?_
  obtain ⟨m36, q36, h⟩ := bnd h
  refine r_put (pc := 36) (by decide +kernel) fl_Net_28 (by decide) (Or.inl rfl) rfl (fun h3 => by cases h3) q36 ?_
  obtain rfl := Option.some.inj h
  exact r_ret (pc := 39) (r := none) (by decide +kernel) rfl trivial (Nat.le_of_ble_eq_true rfl) (Nat.le_of_ble_eq_true rfl)

/-! TreeTongues$Step.<init>()V -/
noncomputable def D_Step_init (a0 : Int) (M : Mem) : Option (Mem) := (ck M a0 6 2).bind fun _ => (na M 10 64).bind fun x7 => (pf x7.2 a0 6 2 0 x7.1).bind fun m9 => (na m9 10 64).bind fun x15 => (pf x15.2 a0 6 2 1 x15.1).bind fun m17 => some m17
theorem c_Step_init {d : Nat} (hd : 1 ≤ d) {a0 : Int} {M : Mem} {x : Mem} (h : D_Step_init a0 M = some x) : Ct d Y_Step_init [(2, a0)] M (none, x) 2 128 := by
  refine ct_of yk_Step_init (Nat.le_of_ble_eq_true rfl) ?_
  rw [D_Step_init] at h
  show Rn Y_Step_init d 2 128 0 0 (none, x) 0 [(0, (2, a0))] [] M
  refine r_aload_n (pc := 0) 0 (n := 0) (by decide +kernel) rfl rfl ?_
  obtain ⟨_, q1c, h⟩ := bnd h
  refine r_objinit (pc := 1) (i := 3) (by decide +kernel) (mg 192 (by decide +kernel) (by decide +kernel)) (by decide) q1c (by omega) (Nat.le_of_ble_eq_true rfl) ?_
  refine r_aload_n (pc := 4) 0 (n := 0) (by decide +kernel) rfl rfl ?_
  refine r_bipush (pc := 5) (z := 64) (by decide +kernel) ⟨by decide, by decide⟩ ?_
  obtain ⟨x7, q7, h⟩ := bnd h
  refine r_newa (pc := 7) (kd := 10) (ty := .int) (sl' := 64) (by decide) (by decide +kernel) q7 (Nat.le_of_ble_eq_true rfl) rfl (Nat.le_of_ble_eq_true rfl) ?_
  obtain ⟨m9, q9, h⟩ := bnd h
  refine r_put (pc := 9) (by decide +kernel) fl_Step_9 (by decide) (Or.inl rfl) rfl (fun h3 => by cases h3) q9 ?_
  refine r_aload_n (pc := 12) 0 (n := 0) (by decide +kernel) rfl rfl ?_
  refine r_bipush (pc := 13) (z := 64) (by decide +kernel) ⟨by decide, by decide⟩ ?_
  obtain ⟨x15, q15, h⟩ := bnd h
  refine r_newa (pc := 15) (kd := 10) (ty := .int) (sl' := 64) (by decide) (by decide +kernel) q15 (Nat.le_of_ble_eq_true rfl) rfl (Nat.le_of_ble_eq_true rfl) ?_
  obtain ⟨m17, q17, h⟩ := bnd h
  refine r_put (pc := 17) (by decide +kernel) fl_Step_15 (by decide) (Or.inl rfl) rfl (fun h3 => by cases h3) q17 ?_
  obtain rfl := Option.some.inj h
  exact r_ret (pc := 20) (r := none) (by decide +kernel) rfl trivial (Nat.le_of_ble_eq_true rfl) (Nat.le_of_ble_eq_true rfl)

/-! TreeTongues$Reducer.<init>(LTreeTongues$Signs;LTreeTongues$Net;)V -/
noncomputable def D_Reducer_init (a0 a1 a2 : Int) (M : Mem) : Option (Mem) := (ck M a0 3 17).bind fun _ => (na M 10 384).bind fun x8 => (pf x8.2 a0 3 17 2 x8.1).bind fun m10 => (na m10 10 384).bind fun x17 => (pf x17.2 a0 3 17 3 x17.1).bind fun m19 => (na m19 10 384).bind fun x26 => (pf x26.2 a0 3 17 4 x26.1).bind fun m28 => (na m28 10 4096).bind fun x35 => (pf x35.2 a0 3 17 5 x35.1).bind fun m37 => (pf m37 a0 3 17 6 0).bind fun m42 => (na m42 10 6).bind fun x48 => (pf x48.2 a0 3 17 7 x48.1).bind fun m50 => (na m50 10 6).bind fun x56 => (pf x56.2 a0 3 17 8 x56.1).bind fun m58 => (na m58 10 216).bind fun x65 => (pf x65.2 a0 3 17 9 x65.1).bind fun m67 => (pf m67 a0 3 17 10 0).bind fun m72 => (pf m72 a0 3 17 11 0).bind fun m77 => (na m77 13 8).bind fun x83 => (pf x83.2 a0 3 17 12 x83.1).bind fun m86 => (na m86 10 8).bind fun x92 => (pf x92.2 a0 3 17 13 x92.1).bind fun m94 => (pf m94 a0 3 17 14 1).bind fun m99 => (nw m99 6 2).bind fun x103 => (ck x103.2 x103.1 6 2).bind fun _ => (D_Step_init x103.1 x103.2).bind fun x107 => (pf x107 a0 3 17 15 x103.1).bind fun m110 => (nw m110 6 2).bind fun x114 => (ck x114.2 x114.1 6 2).bind fun _ => (D_Step_init x114.1 x114.2).bind fun x118 => (pf x118 a0 3 17 16 x114.1).bind fun m121 => (pf m121 a0 3 17 0 a1).bind fun m126 => (pf m126 a0 3 17 1 a2).bind fun m131 => (gf m131 a0 3 17 12).bind fun g143 => (nw m131 6 2).bind fun x147 => (ck x147.2 x147.1 6 2).bind fun _ => (D_Step_init x147.1 x147.2).bind fun x151 => (ck x151 x147.1 6 2).bind fun _ => (wt x151 13 g143 0 x147.1).bind fun m154 => (gf m154 a0 3 17 12).bind fun g143 => (nw m154 6 2).bind fun x147 => (ck x147.2 x147.1 6 2).bind fun _ => (D_Step_init x147.1 x147.2).bind fun x151 => (ck x151 x147.1 6 2).bind fun _ => (wt x151 13 g143 1 x147.1).bind fun m154 => (gf m154 a0 3 17 12).bind fun g143 => (nw m154 6 2).bind fun x147 => (ck x147.2 x147.1 6 2).bind fun _ => (D_Step_init x147.1 x147.2).bind fun x151 => (ck x151 x147.1 6 2).bind fun _ => (wt x151 13 g143 2 x147.1).bind fun m154 => (gf m154 a0 3 17 12).bind fun g143 => (nw m154 6 2).bind fun x147 => (ck x147.2 x147.1 6 2).bind fun _ => (D_Step_init x147.1 x147.2).bind fun x151 => (ck x151 x147.1 6 2).bind fun _ => (wt x151 13 g143 3 x147.1).bind fun m154 => (gf m154 a0 3 17 12).bind fun g143 => (nw m154 6 2).bind fun x147 => (ck x147.2 x147.1 6 2).bind fun _ => (D_Step_init x147.1 x147.2).bind fun x151 => (ck x151 x147.1 6 2).bind fun _ => (wt x151 13 g143 4 x147.1).bind fun m154 => (gf m154 a0 3 17 12).bind fun g143 => (nw m154 6 2).bind fun x147 => (ck x147.2 x147.1 6 2).bind fun _ => (D_Step_init x147.1 x147.2).bind fun x151 => (ck x151 x147.1 6 2).bind fun _ => (wt x151 13 g143 5 x147.1).bind fun m154 => (gf m154 a0 3 17 12).bind fun g143 => (nw m154 6 2).bind fun x147 => (ck x147.2 x147.1 6 2).bind fun _ => (D_Step_init x147.1 x147.2).bind fun x151 => (ck x151 x147.1 6 2).bind fun _ => (wt x151 13 g143 6 x147.1).bind fun m154 => (gf m154 a0 3 17 12).bind fun g143 => (nw m154 6 2).bind fun x147 => (ck x147.2 x147.1 6 2).bind fun _ => (D_Step_init x147.1 x147.2).bind fun x151 => (ck x151 x147.1 6 2).bind fun _ => (wt x151 13 g143 7 x147.1).bind fun m154 => some m154
theorem c_Reducer_init {d : Nat} (hd : 2 ≤ d) {a0 a1 a2 : Int} {M : Mem} {x : Mem} (h : D_Reducer_init a0 a1 a2 M = some x) : Ct d Y_Reducer_init [(2, a0), (2, a1), (2, a2)] M (none, x) 39 6792 := by
  refine ct_of yk_Reducer_init (Nat.le_of_ble_eq_true rfl) ?_
  rw [D_Reducer_init] at h
  show Rn Y_Reducer_init d 39 6792 0 0 (none, x) 0 [(0, (2, a0)), (1, (2, a1)), (2, (2, a2))] [] M
  refine r_aload_n (pc := 0) 0 (n := 0) (by decide +kernel) rfl rfl ?_
  obtain ⟨_, q1c, h⟩ := bnd h
  refine r_objinit (pc := 1) (i := 3) (by decide +kernel) (mg 185 (by decide +kernel) (by decide +kernel)) (by decide) q1c (by omega) (Nat.le_of_ble_eq_true rfl) ?_
  refine r_aload_n (pc := 4) 0 (n := 0) (by decide +kernel) rfl rfl ?_
  refine r_sipush (pc := 5) (z := 384) (by decide +kernel) ⟨by decide, by decide⟩ ?_
  obtain ⟨x8, q8, h⟩ := bnd h
  refine r_newa (pc := 8) (kd := 10) (ty := .int) (sl' := 384) (by decide) (by decide +kernel) q8 (Nat.le_of_ble_eq_true rfl) rfl (Nat.le_of_ble_eq_true rfl) ?_
  obtain ⟨m10, q10, h⟩ := bnd h
  refine r_put (pc := 10) (by decide +kernel) fl_Reducer_9 (by decide) (Or.inl rfl) rfl (fun h3 => by cases h3) q10 ?_
  refine r_aload_n (pc := 13) 0 (n := 0) (by decide +kernel) rfl rfl ?_
  refine r_sipush (pc := 14) (z := 384) (by decide +kernel) ⟨by decide, by decide⟩ ?_
  obtain ⟨x17, q17, h⟩ := bnd h
  refine r_newa (pc := 17) (kd := 10) (ty := .int) (sl' := 384) (by decide) (by decide +kernel) q17 (Nat.le_of_ble_eq_true rfl) rfl (Nat.le_of_ble_eq_true rfl) ?_
  obtain ⟨m19, q19, h⟩ := bnd h
  refine r_put (pc := 19) (by decide +kernel) fl_Reducer_15 (by decide) (Or.inl rfl) rfl (fun h3 => by cases h3) q19 ?_
  refine r_aload_n (pc := 22) 0 (n := 0) (by decide +kernel) rfl rfl ?_
  refine r_sipush (pc := 23) (z := 384) (by decide +kernel) ⟨by decide, by decide⟩ ?_
  obtain ⟨x26, q26, h⟩ := bnd h
  refine r_newa (pc := 26) (kd := 10) (ty := .int) (sl' := 384) (by decide) (by decide +kernel) q26 (Nat.le_of_ble_eq_true rfl) rfl (Nat.le_of_ble_eq_true rfl) ?_
  obtain ⟨m28, q28, h⟩ := bnd h
  refine r_put (pc := 28) (by decide +kernel) fl_Reducer_18 (by decide) (Or.inl rfl) rfl (fun h3 => by cases h3) q28 ?_
  refine r_aload_n (pc := 31) 0 (n := 0) (by decide +kernel) rfl rfl ?_
  refine r_sipush (pc := 32) (z := 4096) (by decide +kernel) ⟨by decide, by decide⟩ ?_
  obtain ⟨x35, q35, h⟩ := bnd h
  refine r_newa (pc := 35) (kd := 10) (ty := .int) (sl' := 4096) (by decide) (by decide +kernel) q35 (Nat.le_of_ble_eq_true rfl) rfl (Nat.le_of_ble_eq_true rfl) ?_
  obtain ⟨m37, q37, h⟩ := bnd h
  refine r_put (pc := 37) (by decide +kernel) fl_Reducer_21 (by decide) (Or.inl rfl) rfl (fun h3 => by cases h3) q37 ?_
  refine r_aload_n (pc := 40) 0 (n := 0) (by decide +kernel) rfl rfl ?_
  refine r_iconst (pc := 41) (z := 0) (by decide +kernel) ⟨by decide, by decide⟩ ?_
  obtain ⟨m42, q42, h⟩ := bnd h
  refine r_put (pc := 42) (by decide +kernel) fl_Reducer_24 (by decide) (Or.inl rfl) rfl (fun h3 => by cases h3) q42 ?_
  refine r_aload_n (pc := 45) 0 (n := 0) (by decide +kernel) rfl rfl ?_
  refine r_bipush (pc := 46) (z := 6) (by decide +kernel) ⟨by decide, by decide⟩ ?_
  obtain ⟨x48, q48, h⟩ := bnd h
  refine r_newa (pc := 48) (kd := 10) (ty := .int) (sl' := 6) (by decide) (by decide +kernel) q48 (Nat.le_of_ble_eq_true rfl) rfl (Nat.le_of_ble_eq_true rfl) ?_
  obtain ⟨m50, q50, h⟩ := bnd h
  refine r_put (pc := 50) (by decide +kernel) fl_Reducer_28 (by decide) (Or.inl rfl) rfl (fun h3 => by cases h3) q50 ?_
  refine r_aload_n (pc := 53) 0 (n := 0) (by decide +kernel) rfl rfl ?_
  refine r_bipush (pc := 54) (z := 6) (by decide +kernel) ⟨by decide, by decide⟩ ?_
  obtain ⟨x56, q56, h⟩ := bnd h
  refine r_newa (pc := 56) (kd := 10) (ty := .int) (sl' := 6) (by decide) (by decide +kernel) q56 (Nat.le_of_ble_eq_true rfl) rfl (Nat.le_of_ble_eq_true rfl) ?_
  obtain ⟨m58, q58, h⟩ := bnd h
  refine r_put (pc := 58) (by decide +kernel) fl_Reducer_31 (by decide) (Or.inl rfl) rfl (fun h3 => by cases h3) q58 ?_
  refine r_aload_n (pc := 61) 0 (n := 0) (by decide +kernel) rfl rfl ?_
  refine r_sipush (pc := 62) (z := 216) (by decide +kernel) ⟨by decide, by decide⟩ ?_
  obtain ⟨x65, q65, h⟩ := bnd h
  refine r_newa (pc := 65) (kd := 10) (ty := .int) (sl' := 216) (by decide) (by decide +kernel) q65 (Nat.le_of_ble_eq_true rfl) rfl (Nat.le_of_ble_eq_true rfl) ?_
  obtain ⟨m67, q67, h⟩ := bnd h
  refine r_put (pc := 67) (by decide +kernel) fl_Reducer_34 (by decide) (Or.inl rfl) rfl (fun h3 => by cases h3) q67 ?_
  refine r_aload_n (pc := 70) 0 (n := 0) (by decide +kernel) rfl rfl ?_
  refine r_iconst (pc := 71) (z := 0) (by decide +kernel) ⟨by decide, by decide⟩ ?_
  obtain ⟨m72, q72, h⟩ := bnd h
  refine r_put (pc := 72) (by decide +kernel) fl_Reducer_37 (by decide) (Or.inl rfl) rfl (fun h3 => by cases h3) q72 ?_
  refine r_aload_n (pc := 75) 0 (n := 0) (by decide +kernel) rfl rfl ?_
  refine r_iconst (pc := 76) (z := 0) (by decide +kernel) ⟨by decide, by decide⟩ ?_
  obtain ⟨m77, q77, h⟩ := bnd h
  refine r_put (pc := 77) (by decide +kernel) fl_Reducer_40 (by decide) (Or.inl rfl) rfl (fun _ => Or.inl rfl) q77 ?_
  refine r_aload_n (pc := 80) 0 (n := 0) (by decide +kernel) rfl rfl ?_
  refine r_bipush (pc := 81) (z := 8) (by decide +kernel) ⟨by decide, by decide⟩ ?_
  obtain ⟨x83, q83, h⟩ := bnd h
  refine r_newq (pc := 83) (i := 44) (kd := 13) (C := "TreeTongues$Step") (sl' := 8) (by decide) (by decide +kernel) (mg 186 (by decide +kernel) (by decide +kernel)) q83 (Nat.le_of_ble_eq_true rfl) rfl (Nat.le_of_ble_eq_true rfl) ?_
  obtain ⟨m86, q86, h⟩ := bnd h
  refine r_put (pc := 86) (by decide +kernel) fl_Reducer_46 (by decide) (Or.inl rfl) rfl (fun h3 => by cases h3) q86 ?_
  refine r_aload_n (pc := 89) 0 (n := 0) (by decide +kernel) rfl rfl ?_
  refine r_bipush (pc := 90) (z := 8) (by decide +kernel) ⟨by decide, by decide⟩ ?_
  obtain ⟨x92, q92, h⟩ := bnd h
  refine r_newa (pc := 92) (kd := 10) (ty := .int) (sl' := 8) (by decide) (by decide +kernel) q92 (Nat.le_of_ble_eq_true rfl) rfl (Nat.le_of_ble_eq_true rfl) ?_
  obtain ⟨m94, q94, h⟩ := bnd h
  refine r_put (pc := 94) (by decide +kernel) fl_Reducer_50 (by decide) (Or.inl rfl) rfl (fun h3 => by cases h3) q94 ?_
  refine r_aload_n (pc := 97) 0 (n := 0) (by decide +kernel) rfl rfl ?_
  refine r_iconst (pc := 98) (z := 1) (by decide +kernel) ⟨by decide, by decide⟩ ?_
  obtain ⟨m99, q99, h⟩ := bnd h
  refine r_put (pc := 99) (by decide +kernel) fl_Reducer_53 (by decide) (Or.inl rfl) rfl (fun h3 => by cases h3) q99 ?_
  refine r_aload_n (pc := 102) 0 (n := 0) (by decide +kernel) rfl rfl ?_
  obtain ⟨x103, q103, h⟩ := bnd h
  refine r_new (pc := 103) (i := 44) (by decide +kernel) (by decide) nK6 rfl (mg 186 (by decide +kernel) (by decide +kernel)) q103 (Nat.le_of_ble_eq_true rfl) (Nat.le_of_ble_eq_true rfl) ?_
  refine r_dup (pc := 106) (by decide +kernel) rfl ?_
  obtain ⟨_, q107c, h⟩ := bnd h
  obtain ⟨x107, q107, h⟩ := bnd h
  refine r_callI (pc := 107) (i := 56) (d2 := d - 1) (As := []) (st := [(2, x103.1), (2, a0)]) (st1 := [(2, x103.1), (2, x103.1), (2, a0)]) (by decide +kernel) yk_Step_init rfl rfl (by decide) rfl ik_Step_init (Or.inr (by decide +kernel)) np_Step_init rfl (by omega) q107c (c_Step_init (d := d - 1) (by omega) q107) (Nat.le_of_ble_eq_true rfl) (Nat.le_of_ble_eq_true rfl) (Nat.le_of_ble_eq_true rfl) rfl ?_
  show Rn _ d _ _ 12 5622 _ 110 [(0, (2, a0)), (1, (2, a1)), (2, (2, a2))] [(2, x103.1), (2, a0)] x107
  obtain ⟨m110, q110, h⟩ := bnd h
  refine r_put (pc := 110) (by decide +kernel) fl_Reducer_57 (by decide) (Or.inl rfl) rfl (fun h3 => by cases h3) q110 ?_
  refine r_aload_n (pc := 113) 0 (n := 0) (by decide +kernel) rfl rfl ?_
  obtain ⟨x114, q114, h⟩ := bnd h
  refine r_new (pc := 114) (i := 44) (by decide +kernel) (by decide) nK6 rfl (mg 186 (by decide +kernel) (by decide +kernel)) q114 (Nat.le_of_ble_eq_true rfl) (Nat.le_of_ble_eq_true rfl) ?_
  refine r_dup (pc := 117) (by decide +kernel) rfl ?_
  obtain ⟨_, q118c, h⟩ := bnd h
  obtain ⟨x118, q118, h⟩ := bnd h
  refine r_callI (pc := 118) (i := 56) (d2 := d - 1) (As := []) (st := [(2, x114.1), (2, a0)]) (st1 := [(2, x114.1), (2, x114.1), (2, a0)]) (by decide +kernel) yk_Step_init rfl rfl (by decide) rfl ik_Step_init (Or.inr (by decide +kernel)) np_Step_init rfl (by omega) q118c (c_Step_init (d := d - 1) (by omega) q118) (Nat.le_of_ble_eq_true rfl) (Nat.le_of_ble_eq_true rfl) (Nat.le_of_ble_eq_true rfl) rfl ?_
  show Rn _ d _ _ 15 5752 _ 121 [(0, (2, a0)), (1, (2, a1)), (2, (2, a2))] [(2, x114.1), (2, a0)] x118
  obtain ⟨m121, q121, h⟩ := bnd h
  refine r_put (pc := 121) (by decide +kernel) fl_Reducer_61 (by decide) (Or.inl rfl) rfl (fun h3 => by cases h3) q121 ?_
  refine r_aload_n (pc := 124) 0 (n := 0) (by decide +kernel) rfl rfl ?_
  refine r_aload_n (pc := 125) 1 (n := 1) (by decide +kernel) rfl rfl ?_
  obtain ⟨m126, q126, h⟩ := bnd h
  refine r_put (pc := 126) (by decide +kernel) fl_Reducer_64 (by decide) (Or.inl rfl) rfl (fun h3 => by cases h3) q126 ?_
  refine r_aload_n (pc := 129) 0 (n := 0) (by decide +kernel) rfl rfl ?_
  refine r_aload_n (pc := 130) 2 (n := 2) (by decide +kernel) rfl rfl ?_
  obtain ⟨m131, q131, h⟩ := bnd h
  refine r_put (pc := 131) (by decide +kernel) fl_Reducer_68 (by decide) (Or.inl rfl) rfl (fun h3 => by cases h3) q131 ?_
  refine r_iconst (pc := 134) (z := 0) (by decide +kernel) ⟨by decide, by decide⟩ ?_
  refine r_istore_n (pc := 135) (n := 3) (lv' := [(3, (0, 0)), (0, (2, a0)), (1, (2, a1)), (2, (2, a2))]) (by decide +kernel) rfl (Nat.le_of_ble_eq_true rfl) rfl ?_
  refine r_iload_n (pc := 136) 0 (n := 3) (by decide +kernel) rfl rfl ?_
  refine r_bipush (pc := 137) (z := 8) (by decide +kernel) ⟨by decide, by decide⟩ ?_
  refine r_icmp_ge (pc := 139) (off := 22) (tgt := 161) (by decide +kernel) (by decide) (fun hn => absurd hn (by decide)) (fun _ => ?_)
  refine r_aload_n (pc := 142) 1 (n := 0) (by decide +kernel) rfl rfl ?_
  obtain ⟨g143, q143, h⟩ := bnd h
  refine r_get (pc := 143) (by decide +kernel) fl_Reducer_46.r (by decide) rfl q143 ?_
  refine r_iload_n (pc := 146) 0 (n := 3) (by decide +kernel) rfl rfl ?_
  obtain ⟨x147, q147, h⟩ := bnd h
  refine r_new (pc := 147) (i := 44) (by decide +kernel) (by decide) nK6 rfl (mg 186 (by decide +kernel) (by decide +kernel)) q147 (Nat.le_of_ble_eq_true rfl) (Nat.le_of_ble_eq_true rfl) ?_
  refine r_dup (pc := 150) (by decide +kernel) rfl ?_
  obtain ⟨_, q151c, h⟩ := bnd h
  obtain ⟨x151, q151, h⟩ := bnd h
  refine r_callI (pc := 151) (i := 56) (d2 := d - 1) (As := []) (st := [(2, x147.1), (0, 0), (2, g143)]) (st1 := [(2, x147.1), (2, x147.1), (0, 0), (2, g143)]) (by decide +kernel) yk_Step_init rfl rfl (by decide) rfl ik_Step_init (Or.inr (by decide +kernel)) np_Step_init rfl (by omega) q151c (c_Step_init (d := d - 1) (by omega) q151) (Nat.le_of_ble_eq_true rfl) (Nat.le_of_ble_eq_true rfl) (Nat.le_of_ble_eq_true rfl) rfl ?_
  show Rn _ d _ _ 18 5882 _ 154 [(3, (0, 0)), (0, (2, a0)), (1, (2, a1)), (2, (2, a2))] [(2, x147.1), (0, 0), (2, g143)] x151
  obtain ⟨_, q154c, h⟩ := bnd h
  obtain ⟨m154, q154, h⟩ := bnd h
  refine r_aast (pc := 154) (by decide) (by decide +kernel) q154c q154 ?_
  refine r_iinc (pc := 155) 0 (n := 1) (lv' := [(3, (0, 1)), (0, (2, a0)), (1, (2, a1)), (2, (2, a2))]) (by decide +kernel) rfl (Nat.le_of_ble_eq_true rfl) rfl ?_
  refine r_goto (pc := 158) (off := (-22)) (tgt := 136) (by decide +kernel) (by decide) ?_
  refine r_iload_n (pc := 136) 0 (n := 3) (by decide +kernel) rfl rfl ?_
  refine r_bipush (pc := 137) (z := 8) (by decide +kernel) ⟨by decide, by decide⟩ ?_
  refine r_icmp_ge (pc := 139) (off := 22) (tgt := 161) (by decide +kernel) (by decide) (fun hn => absurd hn (by decide)) (fun _ => ?_)
  refine r_aload_n (pc := 142) 1 (n := 0) (by decide +kernel) rfl rfl ?_
  obtain ⟨g143, q143, h⟩ := bnd h
  refine r_get (pc := 143) (by decide +kernel) fl_Reducer_46.r (by decide) rfl q143 ?_
  refine r_iload_n (pc := 146) 0 (n := 3) (by decide +kernel) rfl rfl ?_
  obtain ⟨x147, q147, h⟩ := bnd h
  refine r_new (pc := 147) (i := 44) (by decide +kernel) (by decide) nK6 rfl (mg 186 (by decide +kernel) (by decide +kernel)) q147 (Nat.le_of_ble_eq_true rfl) (Nat.le_of_ble_eq_true rfl) ?_
  refine r_dup (pc := 150) (by decide +kernel) rfl ?_
  obtain ⟨_, q151c, h⟩ := bnd h
  obtain ⟨x151, q151, h⟩ := bnd h
  refine r_callI (pc := 151) (i := 56) (d2 := d - 1) (As := []) (st := [(2, x147.1), (0, 1), (2, g143)]) (st1 := [(2, x147.1), (2, x147.1), (0, 1), (2, g143)]) (by decide +kernel) yk_Step_init rfl rfl (by decide) rfl ik_Step_init (Or.inr (by decide +kernel)) np_Step_init rfl (by omega) q151c (c_Step_init (d := d - 1) (by omega) q151) (Nat.le_of_ble_eq_true rfl) (Nat.le_of_ble_eq_true rfl) (Nat.le_of_ble_eq_true rfl) rfl ?_
  show Rn _ d _ _ 21 6012 _ 154 [(3, (0, 1)), (0, (2, a0)), (1, (2, a1)), (2, (2, a2))] [(2, x147.1), (0, 1), (2, g143)] x151
  obtain ⟨_, q154c, h⟩ := bnd h
  obtain ⟨m154, q154, h⟩ := bnd h
  refine r_aast (pc := 154) (by decide) (by decide +kernel) q154c q154 ?_
  refine r_iinc (pc := 155) 0 (n := 1) (lv' := [(3, (0, 2)), (0, (2, a0)), (1, (2, a1)), (2, (2, a2))]) (by decide +kernel) rfl (Nat.le_of_ble_eq_true rfl) rfl ?_
  refine r_goto (pc := 158) (off := (-22)) (tgt := 136) (by decide +kernel) (by decide) ?_
  refine r_iload_n (pc := 136) 0 (n := 3) (by decide +kernel) rfl rfl ?_
  refine r_bipush (pc := 137) (z := 8) (by decide +kernel) ⟨by decide, by decide⟩ ?_
  refine r_icmp_ge (pc := 139) (off := 22) (tgt := 161) (by decide +kernel) (by decide) (fun hn => absurd hn (by decide)) (fun _ => ?_)
  refine r_aload_n (pc := 142) 1 (n := 0) (by decide +kernel) rfl rfl ?_
  obtain ⟨g143, q143, h⟩ := bnd h
  refine r_get (pc := 143) (by decide +kernel) fl_Reducer_46.r (by decide) rfl q143 ?_
  refine r_iload_n (pc := 146) 0 (n := 3) (by decide +kernel) rfl rfl ?_
  obtain ⟨x147, q147, h⟩ := bnd h
  refine r_new (pc := 147) (i := 44) (by decide +kernel) (by decide) nK6 rfl (mg 186 (by decide +kernel) (by decide +kernel)) q147 (Nat.le_of_ble_eq_true rfl) (Nat.le_of_ble_eq_true rfl) ?_
  refine r_dup (pc := 150) (by decide +kernel) rfl ?_
  obtain ⟨_, q151c, h⟩ := bnd h
  obtain ⟨x151, q151, h⟩ := bnd h
  refine r_callI (pc := 151) (i := 56) (d2 := d - 1) (As := []) (st := [(2, x147.1), (0, 2), (2, g143)]) (st1 := [(2, x147.1), (2, x147.1), (0, 2), (2, g143)]) (by decide +kernel) yk_Step_init rfl rfl (by decide) rfl ik_Step_init (Or.inr (by decide +kernel)) np_Step_init rfl (by omega) q151c (c_Step_init (d := d - 1) (by omega) q151) (Nat.le_of_ble_eq_true rfl) (Nat.le_of_ble_eq_true rfl) (Nat.le_of_ble_eq_true rfl) rfl ?_
  show Rn _ d _ _ 24 6142 _ 154 [(3, (0, 2)), (0, (2, a0)), (1, (2, a1)), (2, (2, a2))] [(2, x147.1), (0, 2), (2, g143)] x151
  obtain ⟨_, q154c, h⟩ := bnd h
  obtain ⟨m154, q154, h⟩ := bnd h
  refine r_aast (pc := 154) (by decide) (by decide +kernel) q154c q154 ?_
  refine r_iinc (pc := 155) 0 (n := 1) (lv' := [(3, (0, 3)), (0, (2, a0)), (1, (2, a1)), (2, (2, a2))]) (by decide +kernel) rfl (Nat.le_of_ble_eq_true rfl) rfl ?_
  refine r_goto (pc := 158) (off := (-22)) (tgt := 136) (by decide +kernel) (by decide) ?_
  refine r_iload_n (pc := 136) 0 (n := 3) (by decide +kernel) rfl rfl ?_
  refine r_bipush (pc := 137) (z := 8) (by decide +kernel) ⟨by decide, by decide⟩ ?_
  refine r_icmp_ge (pc := 139) (off := 22) (tgt := 161) (by decide +kernel) (by decide) (fun hn => absurd hn (by decide)) (fun _ => ?_)
  refine r_aload_n (pc := 142) 1 (n := 0) (by decide +kernel) rfl rfl ?_
  obtain ⟨g143, q143, h⟩ := bnd h
  refine r_get (pc := 143) (by decide +kernel) fl_Reducer_46.r (by decide) rfl q143 ?_
  refine r_iload_n (pc := 146) 0 (n := 3) (by decide +kernel) rfl rfl ?_
  obtain ⟨x147, q147, h⟩ := bnd h
  refine r_new (pc := 147) (i := 44) (by decide +kernel) (by decide) nK6 rfl (mg 186 (by decide +kernel) (by decide +kernel)) q147 (Nat.le_of_ble_eq_true rfl) (Nat.le_of_ble_eq_true rfl) ?_
  refine r_dup (pc := 150) (by decide +kernel) rfl ?_
  obtain ⟨_, q151c, h⟩ := bnd h
  obtain ⟨x151, q151, h⟩ := bnd h
  refine r_callI (pc := 151) (i := 56) (d2 := d - 1) (As := []) (st := [(2, x147.1), (0, 3), (2, g143)]) (st1 := [(2, x147.1), (2, x147.1), (0, 3), (2, g143)]) (by decide +kernel) yk_Step_init rfl rfl (by decide) rfl ik_Step_init (Or.inr (by decide +kernel)) np_Step_init rfl (by omega) q151c (c_Step_init (d := d - 1) (by omega) q151) (Nat.le_of_ble_eq_true rfl) (Nat.le_of_ble_eq_true rfl) (Nat.le_of_ble_eq_true rfl) rfl ?_
  show Rn _ d _ _ 27 6272 _ 154 [(3, (0, 3)), (0, (2, a0)), (1, (2, a1)), (2, (2, a2))] [(2, x147.1), (0, 3), (2, g143)] x151
  obtain ⟨_, q154c, h⟩ := bnd h
  obtain ⟨m154, q154, h⟩ := bnd h
  refine r_aast (pc := 154) (by decide) (by decide +kernel) q154c q154 ?_
  refine r_iinc (pc := 155) 0 (n := 1) (lv' := [(3, (0, 4)), (0, (2, a0)), (1, (2, a1)), (2, (2, a2))]) (by decide +kernel) rfl (Nat.le_of_ble_eq_true rfl) rfl ?_
  refine r_goto (pc := 158) (off := (-22)) (tgt := 136) (by decide +kernel) (by decide) ?_
  refine r_iload_n (pc := 136) 0 (n := 3) (by decide +kernel) rfl rfl ?_
  refine r_bipush (pc := 137) (z := 8) (by decide +kernel) ⟨by decide, by decide⟩ ?_
  refine r_icmp_ge (pc := 139) (off := 22) (tgt := 161) (by decide +kernel) (by decide) (fun hn => absurd hn (by decide)) (fun _ => ?_)
  refine r_aload_n (pc := 142) 1 (n := 0) (by decide +kernel) rfl rfl ?_
  obtain ⟨g143, q143, h⟩ := bnd h
  refine r_get (pc := 143) (by decide +kernel) fl_Reducer_46.r (by decide) rfl q143 ?_
  refine r_iload_n (pc := 146) 0 (n := 3) (by decide +kernel) rfl rfl ?_
  obtain ⟨x147, q147, h⟩ := bnd h
  refine r_new (pc := 147) (i := 44) (by decide +kernel) (by decide) nK6 rfl (mg 186 (by decide +kernel) (by decide +kernel)) q147 (Nat.le_of_ble_eq_true rfl) (Nat.le_of_ble_eq_true rfl) ?_
  refine r_dup (pc := 150) (by decide +kernel) rfl ?_
  obtain ⟨_, q151c, h⟩ := bnd h
  obtain ⟨x151, q151, h⟩ := bnd h
  refine r_callI (pc := 151) (i := 56) (d2 := d - 1) (As := []) (st := [(2, x147.1), (0, 4), (2, g143)]) (st1 := [(2, x147.1), (2, x147.1), (0, 4), (2, g143)]) (by decide +kernel) yk_Step_init rfl rfl (by decide) rfl ik_Step_init (Or.inr (by decide +kernel)) np_Step_init rfl (by omega) q151c (c_Step_init (d := d - 1) (by omega) q151) (Nat.le_of_ble_eq_true rfl) (Nat.le_of_ble_eq_true rfl) (Nat.le_of_ble_eq_true rfl) rfl ?_
  show Rn _ d _ _ 30 6402 _ 154 [(3, (0, 4)), (0, (2, a0)), (1, (2, a1)), (2, (2, a2))] [(2, x147.1), (0, 4), (2, g143)] x151
  obtain ⟨_, q154c, h⟩ := bnd h
  obtain ⟨m154, q154, h⟩ := bnd h
  refine r_aast (pc := 154) (by decide) (by decide +kernel) q154c q154 ?_
  refine r_iinc (pc := 155) 0 (n := 1) (lv' := [(3, (0, 5)), (0, (2, a0)), (1, (2, a1)), (2, (2, a2))]) (by decide +kernel) rfl (Nat.le_of_ble_eq_true rfl) rfl ?_
  refine r_goto (pc := 158) (off := (-22)) (tgt := 136) (by decide +kernel) (by decide) ?_
  refine r_iload_n (pc := 136) 0 (n := 3) (by decide +kernel) rfl rfl ?_
  refine r_bipush (pc := 137) (z := 8) (by decide +kernel) ⟨by decide, by decide⟩ ?_
  refine r_icmp_ge (pc := 139) (off := 22) (tgt := 161) (by decide +kernel) (by decide) (fun hn => absurd hn (by decide)) (fun _ => ?_)
  refine r_aload_n (pc := 142) 1 (n := 0) (by decide +kernel) rfl rfl ?_
  obtain ⟨g143, q143, h⟩ := bnd h
  refine r_get (pc := 143) (by decide +kernel) fl_Reducer_46.r (by decide) rfl q143 ?_
  refine r_iload_n (pc := 146) 0 (n := 3) (by decide +kernel) rfl rfl ?_
  obtain ⟨x147, q147, h⟩ := bnd h
  refine r_new (pc := 147) (i := 44) (by decide +kernel) (by decide) nK6 rfl (mg 186 (by decide +kernel) (by decide +kernel)) q147 (Nat.le_of_ble_eq_true rfl) (Nat.le_of_ble_eq_true rfl) ?_
  refine r_dup (pc := 150) (by decide +kernel) rfl ?_
  obtain ⟨_, q151c, h⟩ := bnd h
  obtain ⟨x151, q151, h⟩ := bnd h
  refine r_callI (pc := 151) (i := 56) (d2 := d - 1) (As := []) (st := [(2, x147.1), (0, 5), (2, g143)]) (st1 := [(2, x147.1), (2, x147.1), (0, 5), (2, g143)]) (by decide +kernel) yk_Step_init rfl rfl (by decide) rfl ik_Step_init (Or.inr (by decide +kernel)) np_Step_init rfl (by omega) q151c (c_Step_init (d := d - 1) (by omega) q151) (Nat.le_of_ble_eq_true rfl) (Nat.le_of_ble_eq_true rfl) (Nat.le_of_ble_eq_true rfl) rfl ?_
  show Rn _ d _ _ 33 6532 _ 154 [(3, (0, 5)), (0, (2, a0)), (1, (2, a1)), (2, (2, a2))] [(2, x147.1), (0, 5), (2, g143)] x151
  obtain ⟨_, q154c, h⟩ := bnd h
  obtain ⟨m154, q154, h⟩ := bnd h
  refine r_aast (pc := 154) (by decide) (by decide +kernel) q154c q154 ?_
  refine r_iinc (pc := 155) 0 (n := 1) (lv' := [(3, (0, 6)), (0, (2, a0)), (1, (2, a1)), (2, (2, a2))]) (by decide +kernel) rfl (Nat.le_of_ble_eq_true rfl) rfl ?_
  refine r_goto (pc := 158) (off := (-22)) (tgt := 136) (by decide +kernel) (by decide) ?_
  refine r_iload_n (pc := 136) 0 (n := 3) (by decide +kernel) rfl rfl ?_
  refine r_bipush (pc := 137) (z := 8) (by decide +kernel) ⟨by decide, by decide⟩ ?_
  refine r_icmp_ge (pc := 139) (off := 22) (tgt := 161) (by decide +kernel) (by decide) (fun hn => absurd hn (by decide)) (fun _ => ?_)
  refine r_aload_n (pc := 142) 1 (n := 0) (by decide +kernel) rfl rfl ?_
  obtain ⟨g143, q143, h⟩ := bnd h
  refine r_get (pc := 143) (by decide +kernel) fl_Reducer_46.r (by decide) rfl q143 ?_
  refine r_iload_n (pc := 146) 0 (n := 3) (by decide +kernel) rfl rfl ?_
  obtain ⟨x147, q147, h⟩ := bnd h
  refine r_new (pc := 147) (i := 44) (by decide +kernel) (by decide) nK6 rfl (mg 186 (by decide +kernel) (by decide +kernel)) q147 (Nat.le_of_ble_eq_true rfl) (Nat.le_of_ble_eq_true rfl) ?_
  refine r_dup (pc := 150) (by decide +kernel) rfl ?_
  obtain ⟨_, q151c, h⟩ := bnd h
  obtain ⟨x151, q151, h⟩ := bnd h
  refine r_callI (pc := 151) (i := 56) (d2 := d - 1) (As := []) (st := [(2, x147.1), (0, 6), (2, g143)]) (st1 := [(2, x147.1), (2, x147.1), (0, 6), (2, g143)]) (by decide +kernel) yk_Step_init rfl rfl (by decide) rfl ik_Step_init (Or.inr (by decide +kernel)) np_Step_init rfl (by omega) q151c (c_Step_init (d := d - 1) (by omega) q151) (Nat.le_of_ble_eq_true rfl) (Nat.le_of_ble_eq_true rfl) (Nat.le_of_ble_eq_true rfl) rfl ?_
  show Rn _ d _ _ 36 6662 _ 154 [(3, (0, 6)), (0, (2, a0)), (1, (2, a1)), (2, (2, a2))] [(2, x147.1), (0, 6), (2, g143)] x151
  obtain ⟨_, q154c, h⟩ := bnd h
  obtain ⟨m154, q154, h⟩ := bnd h
  refine r_aast (pc := 154) (by decide) (by decide +kernel) q154c q154 ?_
  refine r_iinc (pc := 155) 0 (n := 1) (lv' := [(3, (0, 7)), (0, (2, a0)), (1, (2, a1)), (2, (2, a2))]) (by decide +kernel) rfl (Nat.le_of_ble_eq_true rfl) rfl ?_
  refine r_goto (pc := 158) (off := (-22)) (tgt := 136) (by decide +kernel) (by decide) ?_
  refine r_iload_n (pc := 136) 0 (n := 3) (by decide +kernel) rfl rfl ?_
  refine r_bipush (pc := 137) (z := 8) (by decide +kernel) ⟨by decide, by decide⟩ ?_
  refine r_icmp_ge (pc := 139) (off := 22) (tgt := 161) (by decide +kernel) (by decide) (fun hn => absurd hn (by decide)) (fun _ => ?_)
  refine r_aload_n (pc := 142) 1 (n := 0) (by decide +kernel) rfl rfl ?_
  obtain ⟨g143, q143, h⟩ := bnd h
  refine r_get (pc := 143) (by decide +kernel) fl_Reducer_46.r (by decide) rfl q143 ?_
  refine r_iload_n (pc := 146) 0 (n := 3) (by decide +kernel) rfl rfl ?_
  obtain ⟨x147, q147, h⟩ := bnd h
  refine r_new (pc := 147) (i := 44) (by decide +kernel) (by decide) nK6 rfl (mg 186 (by decide +kernel) (by decide +kernel)) q147 (Nat.le_of_ble_eq_true rfl) (Nat.le_of_ble_eq_true rfl) ?_
  refine r_dup (pc := 150) (by decide +kernel) rfl ?_
  obtain ⟨_, q151c, h⟩ := bnd h
  obtain ⟨x151, q151, h⟩ := bnd h
  refine r_callI (pc := 151) (i := 56) (d2 := d - 1) (As := []) (st := [(2, x147.1), (0, 7), (2, g143)]) (st1 := [(2, x147.1), (2, x147.1), (0, 7), (2, g143)]) (by decide +kernel) yk_Step_init rfl rfl (by decide) rfl ik_Step_init (Or.inr (by decide +kernel)) np_Step_init rfl (by omega) q151c (c_Step_init (d := d - 1) (by omega) q151) (Nat.le_of_ble_eq_true rfl) (Nat.le_of_ble_eq_true rfl) (Nat.le_of_ble_eq_true rfl) rfl ?_
  show Rn _ d _ _ 39 6792 _ 154 [(3, (0, 7)), (0, (2, a0)), (1, (2, a1)), (2, (2, a2))] [(2, x147.1), (0, 7), (2, g143)] x151
  obtain ⟨_, q154c, h⟩ := bnd h
  obtain ⟨m154, q154, h⟩ := bnd h
  refine r_aast (pc := 154) (by decide) (by decide +kernel) q154c q154 ?_
  refine r_iinc (pc := 155) 0 (n := 1) (lv' := [(3, (0, 8)), (0, (2, a0)), (1, (2, a1)), (2, (2, a2))]) (by decide +kernel) rfl (Nat.le_of_ble_eq_true rfl) rfl ?_
  refine r_goto (pc := 158) (off := (-22)) (tgt := 136) (by decide +kernel) (by decide) ?_
  refine r_iload_n (pc := 136) 0 (n := 3) (by decide +kernel) rfl rfl ?_
  refine r_bipush (pc := 137) (z := 8) (by decide +kernel) ⟨by decide, by decide⟩ ?_
  refine r_icmp_ge (pc := 139) (off := 22) (tgt := 161) (by decide +kernel) (by decide) (fun _ => ?_) (fun hn => absurd (by decide) hn)
  obtain rfl := Option.some.inj h
  exact r_ret (pc := 161) (r := none) (by decide +kernel) rfl trivial (Nat.le_of_ble_eq_true rfl) (Nat.le_of_ble_eq_true rfl)

/-! TreeTongues$Machine.<init>(LTreeTongues$Signs;)V -/
noncomputable def D_Machine_init (a0 a1 : Int) (M : Mem) : Option (Mem) := (ck M a0 1 14).bind fun _ => (na M 10 216).bind fun x8 => (pf x8.2 a0 1 14 1 x8.1).bind fun m10 => (na m10 10 6).bind fun x16 => (pf x16.2 a0 1 14 2 x16.1).bind fun m18 => (na m18 10 6).bind fun x24 => (pf x24.2 a0 1 14 3 x24.1).bind fun m26 => (na m26 10 6).bind fun x32 => (pf x32.2 a0 1 14 4 x32.1).bind fun m34 => (na m34 10 6).bind fun x40 => (pf x40.2 a0 1 14 5 x40.1).bind fun m42 => (na m42 11 246).bind fun x49 => (pf x49.2 a0 1 14 6 x49.1).bind fun m51 => (na m51 10 6).bind fun x57 => (pf x57.2 a0 1 14 7 x57.1).bind fun m59 => (na m59 10 6).bind fun x65 => (pf x65.2 a0 1 14 8 x65.1).bind fun m67 => (na m67 10 6).bind fun x73 => (pf x73.2 a0 1 14 9 x73.1).bind fun m75 => (pf m75 a0 1 14 10 0).bind fun m80 => (pf m80 a0 1 14 11 0).bind fun m85 => (pf m85 a0 1 14 12 0).bind fun m90 => (pf m90 a0 1 14 13 0).bind fun m95 => (pf m95 a0 1 14 0 a1).bind fun m100 => some m100
theorem c_Machine_init {d : Nat} (hd : 1 ≤ d) {a0 a1 : Int} {M : Mem} {x : Mem} (h : D_Machine_init a0 a1 M = some x) : Ct d Y_Machine_init [(2, a0), (2, a1)] M (none, x) 9 504 := by
  refine ct_of yk_Machine_init (Nat.le_of_ble_eq_true rfl) ?_
  rw [D_Machine_init] at h
  show Rn Y_Machine_init d 9 504 0 0 (none, x) 0 [(0, (2, a0)), (1, (2, a1))] [] M
  refine r_aload_n (pc := 0) 0 (n := 0) (by decide +kernel) rfl rfl ?_
  obtain ⟨_, q1c, h⟩ := bnd h
  refine r_objinit (pc := 1) (i := 3) (by decide +kernel) (mg 257 (by decide +kernel) (by decide +kernel)) (by decide) q1c (by omega) (Nat.le_of_ble_eq_true rfl) ?_
  refine r_aload_n (pc := 4) 0 (n := 0) (by decide +kernel) rfl rfl ?_
  refine r_sipush (pc := 5) (z := 216) (by decide +kernel) ⟨by decide, by decide⟩ ?_
  obtain ⟨x8, q8, h⟩ := bnd h
  refine r_newa (pc := 8) (kd := 10) (ty := .int) (sl' := 216) (by decide) (by decide +kernel) q8 (Nat.le_of_ble_eq_true rfl) rfl (Nat.le_of_ble_eq_true rfl) ?_
  obtain ⟨m10, q10, h⟩ := bnd h
  refine r_put (pc := 10) (by decide +kernel) fl_Machine_9 (by decide) (Or.inl rfl) rfl (fun h3 => by cases h3) q10 ?_
  refine r_aload_n (pc := 13) 0 (n := 0) (by decide +kernel) rfl rfl ?_
  refine r_bipush (pc := 14) (z := 6) (by decide +kernel) ⟨by decide, by decide⟩ ?_
  obtain ⟨x16, q16, h⟩ := bnd h
  refine r_newa (pc := 16) (kd := 10) (ty := .int) (sl' := 6) (by decide) (by decide +kernel) q16 (Nat.le_of_ble_eq_true rfl) rfl (Nat.le_of_ble_eq_true rfl) ?_
  obtain ⟨m18, q18, h⟩ := bnd h
  refine r_put (pc := 18) (by decide +kernel) fl_Machine_15 (by decide) (Or.inl rfl) rfl (fun h3 => by cases h3) q18 ?_
  refine r_aload_n (pc := 21) 0 (n := 0) (by decide +kernel) rfl rfl ?_
  refine r_bipush (pc := 22) (z := 6) (by decide +kernel) ⟨by decide, by decide⟩ ?_
  obtain ⟨x24, q24, h⟩ := bnd h
  refine r_newa (pc := 24) (kd := 10) (ty := .int) (sl' := 6) (by decide) (by decide +kernel) q24 (Nat.le_of_ble_eq_true rfl) rfl (Nat.le_of_ble_eq_true rfl) ?_
  obtain ⟨m26, q26, h⟩ := bnd h
  refine r_put (pc := 26) (by decide +kernel) fl_Machine_18 (by decide) (Or.inl rfl) rfl (fun h3 => by cases h3) q26 ?_
  refine r_aload_n (pc := 29) 0 (n := 0) (by decide +kernel) rfl rfl ?_
  refine r_bipush (pc := 30) (z := 6) (by decide +kernel) ⟨by decide, by decide⟩ ?_
  obtain ⟨x32, q32, h⟩ := bnd h
  refine r_newa (pc := 32) (kd := 10) (ty := .int) (sl' := 6) (by decide) (by decide +kernel) q32 (Nat.le_of_ble_eq_true rfl) rfl (Nat.le_of_ble_eq_true rfl) ?_
  obtain ⟨m34, q34, h⟩ := bnd h
  refine r_put (pc := 34) (by decide +kernel) fl_Machine_21 (by decide) (Or.inl rfl) rfl (fun h3 => by cases h3) q34 ?_
  refine r_aload_n (pc := 37) 0 (n := 0) (by decide +kernel) rfl rfl ?_
  refine r_bipush (pc := 38) (z := 6) (by decide +kernel) ⟨by decide, by decide⟩ ?_
  obtain ⟨x40, q40, h⟩ := bnd h
  refine r_newa (pc := 40) (kd := 10) (ty := .int) (sl' := 6) (by decide) (by decide +kernel) q40 (Nat.le_of_ble_eq_true rfl) rfl (Nat.le_of_ble_eq_true rfl) ?_
  obtain ⟨m42, q42, h⟩ := bnd h
  refine r_put (pc := 42) (by decide +kernel) fl_Machine_24 (by decide) (Or.inl rfl) rfl (fun h3 => by cases h3) q42 ?_
  refine r_aload_n (pc := 45) 0 (n := 0) (by decide +kernel) rfl rfl ?_
  refine r_sipush (pc := 46) (z := 246) (by decide +kernel) ⟨by decide, by decide⟩ ?_
  obtain ⟨x49, q49, h⟩ := bnd h
  refine r_newa (pc := 49) (kd := 11) (ty := .long) (sl' := 246) (by decide) (by decide +kernel) q49 (Nat.le_of_ble_eq_true rfl) rfl (Nat.le_of_ble_eq_true rfl) ?_
  obtain ⟨m51, q51, h⟩ := bnd h
  refine r_put (pc := 51) (by decide +kernel) fl_Machine_27 (by decide) (Or.inl rfl) rfl (fun h3 => by cases h3) q51 ?_
  refine r_aload_n (pc := 54) 0 (n := 0) (by decide +kernel) rfl rfl ?_
  refine r_bipush (pc := 55) (z := 6) (by decide +kernel) ⟨by decide, by decide⟩ ?_
  obtain ⟨x57, q57, h⟩ := bnd h
  refine r_newa (pc := 57) (kd := 10) (ty := .int) (sl' := 6) (by decide) (by decide +kernel) q57 (Nat.le_of_ble_eq_true rfl) rfl (Nat.le_of_ble_eq_true rfl) ?_
  obtain ⟨m59, q59, h⟩ := bnd h
  refine r_put (pc := 59) (by decide +kernel) fl_Machine_31 (by decide) (Or.inl rfl) rfl (fun h3 => by cases h3) q59 ?_
  refine r_aload_n (pc := 62) 0 (n := 0) (by decide +kernel) rfl rfl ?_
  refine r_bipush (pc := 63) (z := 6) (by decide +kernel) ⟨by decide, by decide⟩ ?_
  obtain ⟨x65, q65, h⟩ := bnd h
  refine r_newa (pc := 65) (kd := 10) (ty := .int) (sl' := 6) (by decide) (by decide +kernel) q65 (Nat.le_of_ble_eq_true rfl) rfl (Nat.le_of_ble_eq_true rfl) ?_
  obtain ⟨m67, q67, h⟩ := bnd h
  refine r_put (pc := 67) (by decide +kernel) fl_Machine_34 (by decide) (Or.inl rfl) rfl (fun h3 => by cases h3) q67 ?_
  refine r_aload_n (pc := 70) 0 (n := 0) (by decide +kernel) rfl rfl ?_
  refine r_bipush (pc := 71) (z := 6) (by decide +kernel) ⟨by decide, by decide⟩ ?_
  obtain ⟨x73, q73, h⟩ := bnd h
  refine r_newa (pc := 73) (kd := 10) (ty := .int) (sl' := 6) (by decide) (by decide +kernel) q73 (Nat.le_of_ble_eq_true rfl) rfl (Nat.le_of_ble_eq_true rfl) ?_
  obtain ⟨m75, q75, h⟩ := bnd h
  refine r_put (pc := 75) (by decide +kernel) fl_Machine_37 (by decide) (Or.inl rfl) rfl (fun h3 => by cases h3) q75 ?_
  refine r_aload_n (pc := 78) 0 (n := 0) (by decide +kernel) rfl rfl ?_
  refine r_iconst (pc := 79) (z := 0) (by decide +kernel) ⟨by decide, by decide⟩ ?_
  obtain ⟨m80, q80, h⟩ := bnd h
  refine r_put (pc := 80) (by decide +kernel) fl_Machine_40 (by decide) (Or.inl rfl) rfl (fun h3 => by cases h3) q80 ?_
  refine r_aload_n (pc := 83) 0 (n := 0) (by decide +kernel) rfl rfl ?_
  refine r_iconst (pc := 84) (z := 0) (by decide +kernel) ⟨by decide, by decide⟩ ?_
  obtain ⟨m85, q85, h⟩ := bnd h
  refine r_put (pc := 85) (by decide +kernel) fl_Machine_44 (by decide) (Or.inl rfl) rfl (fun h3 => by cases h3) q85 ?_
  refine r_aload_n (pc := 88) 0 (n := 0) (by decide +kernel) rfl rfl ?_
  refine r_iconst (pc := 89) (z := 0) (by decide +kernel) ⟨by decide, by decide⟩ ?_
  obtain ⟨m90, q90, h⟩ := bnd h
  refine r_put (pc := 90) (by decide +kernel) fl_Machine_47 (by decide) (Or.inl rfl) rfl (fun _ => Or.inl rfl) q90 ?_
  refine r_aload_n (pc := 93) 0 (n := 0) (by decide +kernel) rfl rfl ?_
  refine r_iconst (pc := 94) (z := 0) (by decide +kernel) ⟨by decide, by decide⟩ ?_
  obtain ⟨m95, q95, h⟩ := bnd h
  refine r_put (pc := 95) (by decide +kernel) fl_Machine_51 (by decide) (Or.inl rfl) rfl (fun _ => Or.inl rfl) q95 ?_
  refine r_aload_n (pc := 98) 0 (n := 0) (by decide +kernel) rfl rfl ?_
  refine r_aload_n (pc := 99) 1 (n := 1) (by decide +kernel) rfl rfl ?_
  obtain ⟨m100, q100, h⟩ := bnd h
  refine r_put (pc := 100) (by decide +kernel) fl_Machine_54 (by decide) (Or.inl rfl) rfl (fun h3 => by cases h3) q100 ?_
  obtain rfl := Option.some.inj h
  exact r_ret (pc := 103) (r := none) (by decide +kernel) rfl trivial (Nat.le_of_ble_eq_true rfl) (Nat.le_of_ble_eq_true rfl)

/-! TreeTongues$Census.<init>(LTreeTongues$Signs;LTreeTongues$Row;)V -/
noncomputable def D_Census_init (a0 a1 a2 : Int) (M : Mem) : Option (Mem) := (ck M a0 0 4).bind fun _ => (na M 11 246).bind fun x8 => (pf x8.2 a0 0 4 2 x8.1).bind fun m10 => (pf m10 a0 0 4 3 0).bind fun m15 => (pf m15 a0 0 4 0 a1).bind fun m20 => (pf m20 a0 0 4 1 a2).bind fun m25 => some m25
theorem c_Census_init {d : Nat} (hd : 1 ≤ d) {a0 a1 a2 : Int} {M : Mem} {x : Mem} (h : D_Census_init a0 a1 a2 M = some x) : Ct d Y_Census_init [(2, a0), (2, a1), (2, a2)] M (none, x) 1 246 := by
  refine ct_of yk_Census_init (Nat.le_of_ble_eq_true rfl) ?_
  rw [D_Census_init] at h
  show Rn Y_Census_init d 1 246 0 0 (none, x) 0 [(0, (2, a0)), (1, (2, a1)), (2, (2, a2))] [] M
  refine r_aload_n (pc := 0) 0 (n := 0) (by decide +kernel) rfl rfl ?_
  obtain ⟨_, q1c, h⟩ := bnd h
  refine r_objinit (pc := 1) (i := 3) (by decide +kernel) (mg 319 (by decide +kernel) (by decide +kernel)) (by decide) q1c (by omega) (Nat.le_of_ble_eq_true rfl) ?_
  refine r_aload_n (pc := 4) 0 (n := 0) (by decide +kernel) rfl rfl ?_
  refine r_sipush (pc := 5) (z := 246) (by decide +kernel) ⟨by decide, by decide⟩ ?_
  obtain ⟨x8, q8, h⟩ := bnd h
  refine r_newa (pc := 8) (kd := 11) (ty := .long) (sl' := 246) (by decide) (by decide +kernel) q8 (Nat.le_of_ble_eq_true rfl) rfl (Nat.le_of_ble_eq_true rfl) ?_
  obtain ⟨m10, q10, h⟩ := bnd h
  refine r_put (pc := 10) (by decide +kernel) fl_Census_9 (by decide) (Or.inl rfl) rfl (fun h3 => by cases h3) q10 ?_
  refine r_aload_n (pc := 13) 0 (n := 0) (by decide +kernel) rfl rfl ?_
  refine r_lconst (pc := 14) (n := 0) (z := 0) (by decide +kernel) rfl ?_
  obtain ⟨m15, q15, h⟩ := bnd h
  refine r_put (pc := 15) (by decide +kernel) fl_Census_15 (by decide) (Or.inl rfl) rfl (fun h3 => by cases h3) q15 ?_
  refine r_aload_n (pc := 18) 0 (n := 0) (by decide +kernel) rfl rfl ?_
  refine r_aload_n (pc := 19) 1 (n := 1) (by decide +kernel) rfl rfl ?_
  obtain ⟨m20, q20, h⟩ := bnd h
  refine r_put (pc := 20) (by decide +kernel) fl_Census_19 (by decide) (Or.inl rfl) rfl (fun h3 => by cases h3) q20 ?_
  refine r_aload_n (pc := 23) 0 (n := 0) (by decide +kernel) rfl rfl ?_
  refine r_aload_n (pc := 24) 2 (n := 2) (by decide +kernel) rfl rfl ?_
  obtain ⟨m25, q25, h⟩ := bnd h
  refine r_put (pc := 25) (by decide +kernel) fl_Census_23 (by decide) (Or.inl rfl) rfl (fun h3 => by cases h3) q25 ?_
  obtain rfl := Option.some.inj h
  exact r_ret (pc := 28) (r := none) (by decide +kernel) rfl trivial (Nat.le_of_ble_eq_true rfl) (Nat.le_of_ble_eq_true rfl)

/-! TreeTongues.<init>()V -/
noncomputable def D_T_init (a0 : Int) (M : Mem) : Option (Mem) := (ck M a0 8 8).bind fun _ => (nw M 5 3).bind fun x5 => (ck x5.2 x5.1 5 3).bind fun _ => (D_Signs_init x5.1 x5.2).bind fun x9 => (pf x9 a0 8 8 0 x5.1).bind fun m12 => (nw m12 4 5).bind fun x16 => (gf x16.2 a0 8 8 0).bind fun g21 => (ck x16.2 x16.1 4 5).bind fun _ => (D_Row_init x16.1 g21 x16.2).bind fun x24 => (pf x24 a0 8 8 1 x16.1).bind fun m27 => (na m27 14 16).bind fun x33 => (pf x33.2 a0 8 8 2 x33.1).bind fun m36 => (nw m36 2 6).bind fun x40 => (gf x40.2 a0 8 8 0).bind fun g45 => (ck x40.2 x40.1 2 6).bind fun _ => (D_Net_init x40.1 g45 x40.2).bind fun x48 => (pf x48 a0 8 8 3 x40.1).bind fun m51 => (nw m51 3 17).bind fun x55 => (gf x55.2 a0 8 8 0).bind fun g60 => (gf x55.2 a0 8 8 3).bind fun g64 => (ck x55.2 x55.1 3 17).bind fun _ => (D_Reducer_init x55.1 g60 g64 x55.2).bind fun x67 => (pf x67 a0 8 8 4 x55.1).bind fun m70 => (nw m70 1 14).bind fun x74 => (gf x74.2 a0 8 8 0).bind fun g79 => (ck x74.2 x74.1 1 14).bind fun _ => (D_Machine_init x74.1 g79 x74.2).bind fun x82 => (pf x82 a0 8 8 5 x74.1).bind fun m85 => (nw m85 0 4).bind fun x89 => (gf x89.2 a0 8 8 0).bind fun g94 => (gf x89.2 a0 8 8 1).bind fun g98 => (ck x89.2 x89.1 0 4).bind fun _ => (D_Census_init x89.1 g94 g98 x89.2).bind fun x101 => (pf x101 a0 8 8 6 x89.1).bind fun m104 => (pf m104 a0 8 8 7 0).bind fun m109 => some m109
theorem c_T_init {d : Nat} (hd : 3 ≤ d) {a0 : Int} {M : Mem} {x : Mem} (h : D_T_init a0 M = some x) : Ct d Y_T_init [(2, a0)] M (none, x) 61 8837 := by
  refine ct_of yk_T_init (Nat.le_of_ble_eq_true rfl) ?_
  rw [D_T_init] at h
  show Rn Y_T_init d 61 8837 0 0 (none, x) 0 [(0, (2, a0))] [] M
  refine r_aload_n (pc := 0) 0 (n := 0) (by decide +kernel) rfl rfl ?_
  obtain ⟨_, q1c, h⟩ := bnd h
  refine r_objinit (pc := 1) (i := 3) (by decide +kernel) (mg 98 (by decide +kernel) (by decide +kernel)) (by decide) q1c (by omega) (Nat.le_of_ble_eq_true rfl) ?_
  refine r_aload_n (pc := 4) 0 (n := 0) (by decide +kernel) rfl rfl ?_
  obtain ⟨x5, q5, h⟩ := bnd h
  refine r_new (pc := 5) (i := 9) (by decide +kernel) (by decide) nK5 rfl (mg 101 (by decide +kernel) (by decide +kernel)) q5 (Nat.le_of_ble_eq_true rfl) (Nat.le_of_ble_eq_true rfl) ?_
  refine r_dup (pc := 8) (by decide +kernel) rfl ?_
  obtain ⟨_, q9c, h⟩ := bnd h
  obtain ⟨x9, q9, h⟩ := bnd h
  refine r_callI (pc := 9) (i := 11) (d2 := d - 1) (As := []) (st := [(2, x5.1), (2, a0)]) (st1 := [(2, x5.1), (2, x5.1), (2, a0)]) (by decide +kernel) yk_Signs_init rfl rfl (by decide) rfl ik_Signs_init (Or.inr (by decide +kernel)) np_Signs_init rfl (by omega) q9c (c_Signs_init (d := d - 1) (by omega) q9) (Nat.le_of_ble_eq_true rfl) (Nat.le_of_ble_eq_true rfl) (Nat.le_of_ble_eq_true rfl) rfl ?_
  show Rn _ d _ _ 2 9 _ 12 [(0, (2, a0))] [(2, x5.1), (2, a0)] x9
  obtain ⟨m12, q12, h⟩ := bnd h
  refine r_put (pc := 12) (by decide +kernel) fl_T_12 (by decide) (Or.inl rfl) rfl (fun h3 => by cases h3) q12 ?_
  refine r_aload_n (pc := 15) 0 (n := 0) (by decide +kernel) rfl rfl ?_
  obtain ⟨x16, q16, h⟩ := bnd h
  refine r_new (pc := 16) (i := 16) (by decide +kernel) (by decide) nK4 rfl (mg 124 (by decide +kernel) (by decide +kernel)) q16 (Nat.le_of_ble_eq_true rfl) (Nat.le_of_ble_eq_true rfl) ?_
  refine r_dup (pc := 19) (by decide +kernel) rfl ?_
  refine r_aload_n (pc := 20) 0 (n := 0) (by decide +kernel) rfl rfl ?_
  obtain ⟨g21, q21, h⟩ := bnd h
  refine r_get (pc := 21) (by decide +kernel) fl_T_12.r (by decide) rfl q21 ?_
  obtain ⟨_, q24c, h⟩ := bnd h
  obtain ⟨x24, q24, h⟩ := bnd h
  refine r_callI (pc := 24) (i := 18) (d2 := d - 1) (As := [(2, g21)]) (st := [(2, x16.1), (2, a0)]) (st1 := [(2, g21), (2, x16.1), (2, x16.1), (2, a0)]) (by decide +kernel) yk_Row_init rfl rfl (by decide) rfl ik_Row_init (Or.inl ml_T_18) np_Row_init rfl (by omega) q24c (c_Row_init (d := d - 1) (by omega) q24) (Nat.le_of_ble_eq_true rfl) (Nat.le_of_ble_eq_true rfl) (Nat.le_of_ble_eq_true rfl) rfl ?_
  show Rn _ d _ _ 6 374 _ 27 [(0, (2, a0))] [(2, x16.1), (2, a0)] x24
  obtain ⟨m27, q27, h⟩ := bnd h
  refine r_put (pc := 27) (by decide +kernel) fl_T_21 (by decide) (Or.inl rfl) rfl (fun h3 => by cases h3) q27 ?_
  refine r_aload_n (pc := 30) 0 (n := 0) (by decide +kernel) rfl rfl ?_
  refine r_bipush (pc := 31) (z := 16) (by decide +kernel) ⟨by decide, by decide⟩ ?_
  obtain ⟨x33, q33, h⟩ := bnd h
  refine r_newq (pc := 33) (i := 25) (kd := 14) (C := "TreeTongues$Tongue") (sl' := 16) (by decide) (by decide +kernel) (mg 152 (by decide +kernel) (by decide +kernel)) q33 (Nat.le_of_ble_eq_true rfl) rfl (Nat.le_of_ble_eq_true rfl) ?_
  obtain ⟨m36, q36, h⟩ := bnd h
  refine r_put (pc := 36) (by decide +kernel) fl_T_27 (by decide) (Or.inl rfl) rfl (fun h3 => by cases h3) q36 ?_
  refine r_aload_n (pc := 39) 0 (n := 0) (by decide +kernel) rfl rfl ?_
  obtain ⟨x40, q40, h⟩ := bnd h
  refine r_new (pc := 40) (i := 31) (by decide +kernel) (by decide) nK2 rfl (mg 154 (by decide +kernel) (by decide +kernel)) q40 (Nat.le_of_ble_eq_true rfl) (Nat.le_of_ble_eq_true rfl) ?_
  refine r_dup (pc := 43) (by decide +kernel) rfl ?_
  refine r_aload_n (pc := 44) 0 (n := 0) (by decide +kernel) rfl rfl ?_
  obtain ⟨g45, q45, h⟩ := bnd h
  refine r_get (pc := 45) (by decide +kernel) fl_T_12.r (by decide) rfl q45 ?_
  obtain ⟨_, q48c, h⟩ := bnd h
  obtain ⟨x48, q48, h⟩ := bnd h
  refine r_callI (pc := 48) (i := 33) (d2 := d - 1) (As := [(2, g45)]) (st := [(2, x40.1), (2, a0)]) (st1 := [(2, g45), (2, x40.1), (2, x40.1), (2, a0)]) (by decide +kernel) yk_Net_init rfl rfl (by decide) rfl ik_Net_init (Or.inl ml_T_33) np_Net_init rfl (by omega) q48c (c_Net_init (d := d - 1) (by omega) q48) (Nat.le_of_ble_eq_true rfl) (Nat.le_of_ble_eq_true rfl) (Nat.le_of_ble_eq_true rfl) rfl ?_
  show Rn _ d _ _ 9 1260 _ 51 [(0, (2, a0))] [(2, x40.1), (2, a0)] x48
  obtain ⟨m51, q51, h⟩ := bnd h
  refine r_put (pc := 51) (by decide +kernel) fl_T_34 (by decide) (Or.inl rfl) rfl (fun h3 => by cases h3) q51 ?_
  refine r_aload_n (pc := 54) 0 (n := 0) (by decide +kernel) rfl rfl ?_
  obtain ⟨x55, q55, h⟩ := bnd h
  refine r_new (pc := 55) (i := 38) (by decide +kernel) (by decide) nK3 rfl (mg 180 (by decide +kernel) (by decide +kernel)) q55 (Nat.le_of_ble_eq_true rfl) (Nat.le_of_ble_eq_true rfl) ?_
  refine r_dup (pc := 58) (by decide +kernel) rfl ?_
  refine r_aload_n (pc := 59) 0 (n := 0) (by decide +kernel) rfl rfl ?_
  obtain ⟨g60, q60, h⟩ := bnd h
  refine r_get (pc := 60) (by decide +kernel) fl_T_12.r (by decide) rfl q60 ?_
  refine r_aload_n (pc := 63) 0 (n := 0) (by decide +kernel) rfl rfl ?_
  obtain ⟨g64, q64, h⟩ := bnd h
  refine r_get (pc := 64) (by decide +kernel) fl_T_34.r (by decide) rfl q64 ?_
  obtain ⟨_, q67c, h⟩ := bnd h
  obtain ⟨x67, q67, h⟩ := bnd h
  refine r_callI (pc := 67) (i := 40) (d2 := d - 1) (As := [(2, g60), (2, g64)]) (st := [(2, x55.1), (2, a0)]) (st1 := [(2, g64), (2, g60), (2, x55.1), (2, x55.1), (2, a0)]) (by decide +kernel) yk_Reducer_init rfl rfl (by decide) rfl ik_Reducer_init (Or.inl ml_T_40) np_Reducer_init rfl (by omega) q67c (c_Reducer_init (d := d - 1) (by omega) q67) (Nat.le_of_ble_eq_true rfl) (Nat.le_of_ble_eq_true rfl) (Nat.le_of_ble_eq_true rfl) rfl ?_
  show Rn _ d _ _ 49 8069 _ 70 [(0, (2, a0))] [(2, x55.1), (2, a0)] x67
  obtain ⟨m70, q70, h⟩ := bnd h
  refine r_put (pc := 70) (by decide +kernel) fl_T_43 (by decide) (Or.inl rfl) rfl (fun h3 => by cases h3) q70 ?_
  refine r_aload_n (pc := 73) 0 (n := 0) (by decide +kernel) rfl rfl ?_
  obtain ⟨x74, q74, h⟩ := bnd h
  refine r_new (pc := 74) (i := 47) (by decide +kernel) (by decide) nK1 rfl (mg 252 (by decide +kernel) (by decide +kernel)) q74 (Nat.le_of_ble_eq_true rfl) (Nat.le_of_ble_eq_true rfl) ?_
  refine r_dup (pc := 77) (by decide +kernel) rfl ?_
  refine r_aload_n (pc := 78) 0 (n := 0) (by decide +kernel) rfl rfl ?_
  obtain ⟨g79, q79, h⟩ := bnd h
  refine r_get (pc := 79) (by decide +kernel) fl_T_12.r (by decide) rfl q79 ?_
  obtain ⟨_, q82c, h⟩ := bnd h
  obtain ⟨x82, q82, h⟩ := bnd h
  refine r_callI (pc := 82) (i := 49) (d2 := d - 1) (As := [(2, g79)]) (st := [(2, x74.1), (2, a0)]) (st1 := [(2, g79), (2, x74.1), (2, x74.1), (2, a0)]) (by decide +kernel) yk_Machine_init rfl rfl (by decide) rfl ik_Machine_init (Or.inl ml_T_49) np_Machine_init rfl (by omega) q82c (c_Machine_init (d := d - 1) (by omega) q82) (Nat.le_of_ble_eq_true rfl) (Nat.le_of_ble_eq_true rfl) (Nat.le_of_ble_eq_true rfl) rfl ?_
  show Rn _ d _ _ 59 8587 _ 85 [(0, (2, a0))] [(2, x74.1), (2, a0)] x82
  obtain ⟨m85, q85, h⟩ := bnd h
  refine r_put (pc := 85) (by decide +kernel) fl_T_50 (by decide) (Or.inl rfl) rfl (fun h3 => by cases h3) q85 ?_
  refine r_aload_n (pc := 88) 0 (n := 0) (by decide +kernel) rfl rfl ?_
  obtain ⟨x89, q89, h⟩ := bnd h
  refine r_new (pc := 89) (i := 54) (by decide +kernel) (by decide) nK0 rfl (mg 314 (by decide +kernel) (by decide +kernel)) q89 (Nat.le_of_ble_eq_true rfl) (Nat.le_of_ble_eq_true rfl) ?_
  refine r_dup (pc := 92) (by decide +kernel) rfl ?_
  refine r_aload_n (pc := 93) 0 (n := 0) (by decide +kernel) rfl rfl ?_
  obtain ⟨g94, q94, h⟩ := bnd h
  refine r_get (pc := 94) (by decide +kernel) fl_T_12.r (by decide) rfl q94 ?_
  refine r_aload_n (pc := 97) 0 (n := 0) (by decide +kernel) rfl rfl ?_
  obtain ⟨g98, q98, h⟩ := bnd h
  refine r_get (pc := 98) (by decide +kernel) fl_T_21.r (by decide) rfl q98 ?_
  obtain ⟨_, q101c, h⟩ := bnd h
  obtain ⟨x101, q101, h⟩ := bnd h
  refine r_callI (pc := 101) (i := 56) (d2 := d - 1) (As := [(2, g94), (2, g98)]) (st := [(2, x89.1), (2, a0)]) (st1 := [(2, g98), (2, g94), (2, x89.1), (2, x89.1), (2, a0)]) (by decide +kernel) yk_Census_init rfl rfl (by decide) rfl ik_Census_init (Or.inl ml_T_56) np_Census_init rfl (by omega) q101c (c_Census_init (d := d - 1) (by omega) q101) (Nat.le_of_ble_eq_true rfl) (Nat.le_of_ble_eq_true rfl) (Nat.le_of_ble_eq_true rfl) rfl ?_
  show Rn _ d _ _ 61 8837 _ 104 [(0, (2, a0))] [(2, x89.1), (2, a0)] x101
  obtain ⟨m104, q104, h⟩ := bnd h
  refine r_put (pc := 104) (by decide +kernel) fl_T_59 (by decide) (Or.inl rfl) rfl (fun h3 => by cases h3) q104 ?_
  refine r_aload_n (pc := 107) 0 (n := 0) (by decide +kernel) rfl rfl ?_
  refine r_iconst (pc := 108) (z := 0) (by decide +kernel) ⟨by decide, by decide⟩ ?_
  obtain ⟨m109, q109, h⟩ := bnd h
  refine r_put (pc := 109) (by decide +kernel) fl_T_63 (by decide) (Or.inl rfl) rfl (fun h3 => by cases h3) q109 ?_
  obtain rfl := Option.some.inj h
  exact r_ret (pc := 112) (r := none) (by decide +kernel) rfl trivial (Nat.le_of_ble_eq_true rfl) (Nat.le_of_ble_eq_true rfl)

/-! TreeTongues$Signs.add(I)I -/
noncomputable def D_Signs_add (a0 a1 : Int) (M : Mem) : Option (Int × Mem) := (gf M a0 5 3 1).bind fun g1 => if g1 < 6 then ((gf M a0 5 3 0).bind fun g13 => (gf M a0 5 3 1).bind fun g17 => (wt M 10 g13 g17 a1).bind fun m21 => (gf m21 a0 5 3 2).bind fun g24 => ((if g24 = 0 then (if a1 = 2 then (some 0) else (some 1)) else (some 0)).bind fun (t27i : Int) => if t27i = 0 then (some 1) else (some 0)).bind fun (t27 : Int) => (bz t27).bind fun _ => (pf m21 a0 5 3 2 t27).bind fun m40 => (gf m40 a0 5 3 1).bind fun g45 => (pf m40 a0 5 3 1 (wr (g45 + 1))).bind fun m51 => some (g45, m51)) else (some ((-4), M))
theorem c_Signs_add {d : Nat} (hd : 1 ≤ d) {a0 a1 : Int} {M : Mem} {x : Int × Mem} (h : D_Signs_add a0 a1 M = some x) : Ct d Y_Signs_add [(2, a0), (0, a1)] M (some (0, x.1), x.2) 0 0 := by
  refine ct_of yk_Signs_add (Nat.le_of_ble_eq_true rfl) ?_
  rw [D_Signs_add] at h
  show Rn Y_Signs_add d 0 0 0 0 (some (0, x.1), x.2) 0 [(0, (2, a0)), (1, (0, a1))] [] M
  refine r_aload_n (pc := 0) 0 (n := 0) (by decide +kernel) rfl rfl ?_
  obtain ⟨g1, q1, h⟩ := bnd h
  refine r_get (pc := 1) (by decide +kernel) fl_Signs_15.r (by decide) rfl q1 ?_
  refine r_bipush (pc := 4) (z := 6) (by decide +kernel) ⟨by decide, by decide⟩ ?_
  refine r_icmp_lt (pc := 6) (off := 6) (tgt := 12) (by decide +kernel) (by decide) (fun c6 => ?_) (fun c6 => ?_)
  · have h := ite_t c6 h
    refine r_aload_n (pc := 12) 0 (n := 0) (by decide +kernel) rfl rfl ?_
    obtain ⟨g13, q13, h⟩ := bnd h
    refine r_get (pc := 13) (by decide +kernel) fl_Signs_9.r (by decide) rfl q13 ?_
    refine r_aload_n (pc := 16) 0 (n := 0) (by decide +kernel) rfl rfl ?_
    obtain ⟨g17, q17, h⟩ := bnd h
    refine r_get (pc := 17) (by decide +kernel) fl_Signs_15.r (by decide) rfl q17 ?_
    refine r_iload_n (pc := 20) 1 (n := 1) (by decide +kernel) rfl rfl ?_
    obtain ⟨m21, q21, h⟩ := bnd h
    refine r_iast (pc := 21) (by decide +kernel) q21 ?_
    refine r_aload_n (pc := 22) 0 (n := 0) (by decide +kernel) rfl rfl ?_
    refine r_aload_n (pc := 23) 0 (n := 0) (by decide +kernel) rfl rfl ?_
    obtain ⟨g24, q24, h⟩ := bnd h
    refine r_get (pc := 24) (by decide +kernel) fl_Signs_19.r (by decide) rfl q24 ?_
    obtain ⟨t27, ht27, h⟩ := bnd h
    have E27_0 : Rn Y_Signs_add d 0 0 0 0 (some (0, x.1), x.2) 40 [(0, (2, a0))] [(0, t27), (2, a0)] m21 := by
      obtain ⟨_, q40z, h⟩ := bnd h
      obtain ⟨m40, q40, h⟩ := bnd h
      refine r_put (pc := 40) (by decide +kernel) fl_Signs_19 (by decide) (Or.inr nf_5_2) rfl (fun _ => bz_s q40z) q40 ?_
      refine r_aload_n (pc := 43) 0 (n := 0) (by decide +kernel) rfl rfl ?_
      refine r_dup (pc := 44) (by decide +kernel) rfl ?_
      obtain ⟨g45, q45, h⟩ := bnd h
      refine r_get (pc := 45) (by decide +kernel) fl_Signs_15.r (by decide) rfl q45 ?_
      refine r_dup_x1 (pc := 48) (by decide +kernel) rfl rfl ?_
      refine r_iconst (pc := 49) (z := 1) (by decide +kernel) ⟨by decide, by decide⟩ ?_
      refine r_iadd (pc := 50) (by decide +kernel) ?_
      obtain ⟨m51, q51, h⟩ := bnd h
      refine r_put (pc := 51) (by decide +kernel) fl_Signs_15 (by decide) (Or.inr nf_5_1) rfl (fun h3 => by cases h3) q51 ?_
      obtain rfl := Option.some.inj h
      exact r_ret (pc := 54) (r := some (0, g45)) (by decide +kernel) rfl trivial (Nat.le_of_ble_eq_true rfl) (Nat.le_of_ble_eq_true rfl)
    obtain ⟨t27i, ht27i, ht27⟩ := bnd ht27
    have E27i_0 : t27i = 0 → Rn Y_Signs_add d 0 0 0 0 (some (0, x.1), x.2) 35 [(0, (2, a0))] [(2, a0)] m21 := by
      intro y0
      have ht27 := ite_t y0 ht27
      refine r_iconst (pc := 35) (z := 1) (by decide +kernel) ⟨by decide, by decide⟩ ?_
      refine r_goto (pc := 36) (off := 4) (tgt := 40) (by decide +kernel) (by decide) ?_
      obtain rfl := Option.some.inj ht27
      exact E27_0
    have E27i_1 : ¬ t27i = 0 → Rn Y_Signs_add d 0 0 0 0 (some (0, x.1), x.2) 39 [(0, (2, a0))] [(2, a0)] m21 := by
      intro n0
      have ht27 := ite_f n0 ht27
      refine r_iconst (pc := 39) (z := 0) (by decide +kernel) ⟨by decide, by decide⟩ ?_
      obtain rfl := Option.some.inj ht27
      exact E27_0
    refine r_if_ne (pc := 27) (off := 8) (tgt := 35) (by decide +kernel) (by decide) (fun c27 => ?_) (fun c27 => ?_)
    · have ht27i := ite_f c27 ht27i
      obtain rfl := Option.some.inj ht27i
      refine r_lv [0] rfl ?_
      exact E27i_0 rfl
    · have ht27i := ite_t c27 ht27i
      refine r_iload_n (pc := 30) 1 (n := 1) (by decide +kernel) rfl rfl ?_
      refine r_iconst (pc := 31) (z := 2) (by decide +kernel) ⟨by decide, by decide⟩ ?_
      refine r_icmp_ne (pc := 32) (off := 7) (tgt := 39) (by decide +kernel) (by decide) (fun c32 => ?_) (fun c32 => ?_)
      · have ht27i := ite_f c32 ht27i
        obtain rfl := Option.some.inj ht27i
        refine r_lv [0] rfl ?_
        exact E27i_1 (show ¬ (1 : Int) = 0 by decide)
      · have ht27i := ite_t c32 ht27i
        obtain rfl := Option.some.inj ht27i
        refine r_lv [0] rfl ?_
        exact E27i_0 rfl
  · have h := ite_f c6 h
    refine r_bipush (pc := 9) (z := (-4)) (by decide +kernel) ⟨by decide, by decide⟩ ?_
    obtain rfl := Option.some.inj h
    exact r_ret (pc := 11) (r := some (0, (-4))) (by decide +kernel) rfl trivial (Nat.le_of_ble_eq_true rfl) (Nat.le_of_ble_eq_true rfl)

/-! TreeTongues.sign(I)I -/
noncomputable def D_T_sign (a0 a1 : Int) (M : Mem) : Option (Int × Mem) := if a1 < 0 then (some ((-2), M)) else (if a1 ≤ 2 then ((gf M a0 8 8 7).bind fun g13 => if g13 ≤ 0 then ((gf M a0 8 8 0).bind fun g23 => (gf M g23 5 3 1).bind fun g26 => if g26 < 6 then ((gf M a0 8 8 0).bind fun g40 => (ck M g40 5 3).bind fun _ => (D_Signs_add g40 a1 M).bind fun x44 => some (x44.1, x44.2)) else (some ((-4), M))) else (some ((-3), M))) else (some ((-2), M)))
theorem c_T_sign {d : Nat} (hd : 2 ≤ d) {a0 a1 : Int} {M : Mem} {x : Int × Mem} (h : D_T_sign a0 a1 M = some x) : Ct d Y_T_sign [(2, a0), (0, a1)] M (some (0, x.1), x.2) 0 0 := by
  refine ct_of yk_T_sign (Nat.le_of_ble_eq_true rfl) ?_
  rw [D_T_sign] at h
  show Rn Y_T_sign d 0 0 0 0 (some (0, x.1), x.2) 0 [(0, (2, a0)), (1, (0, a1))] [] M
  refine r_iload_n (pc := 0) 1 (n := 1) (by decide +kernel) rfl rfl ?_
  refine r_if_lt (pc := 1) (off := 8) (tgt := 9) (by decide +kernel) (by decide) (fun c1 => ?_) (fun c1 => ?_)
  · have h := ite_t c1 h
    refine r_bipush (pc := 9) (z := (-2)) (by decide +kernel) ⟨by decide, by decide⟩ ?_
    obtain rfl := Option.some.inj h
    exact r_ret (pc := 11) (r := some (0, (-2))) (by decide +kernel) rfl trivial (Nat.le_of_ble_eq_true rfl) (Nat.le_of_ble_eq_true rfl)
  · have h := ite_f c1 h
    refine r_iload_n (pc := 4) 1 (n := 1) (by decide +kernel) rfl rfl ?_
    refine r_iconst (pc := 5) (z := 2) (by decide +kernel) ⟨by decide, by decide⟩ ?_
    refine r_icmp_le (pc := 6) (off := 6) (tgt := 12) (by decide +kernel) (by decide) (fun c6 => ?_) (fun c6 => ?_)
    · have h := ite_t c6 h
      refine r_aload_n (pc := 12) 0 (n := 0) (by decide +kernel) rfl rfl ?_
      obtain ⟨g13, q13, h⟩ := bnd h
      refine r_get (pc := 13) (by decide +kernel) fl_T_63.r (by decide) rfl q13 ?_
      refine r_if_le (pc := 16) (off := 6) (tgt := 22) (by decide +kernel) (by decide) (fun c16 => ?_) (fun c16 => ?_)
      · have h := ite_t c16 h
        refine r_aload_n (pc := 22) 0 (n := 0) (by decide +kernel) rfl rfl ?_
        obtain ⟨g23, q23, h⟩ := bnd h
        refine r_get (pc := 23) (by decide +kernel) fl_T_12.r (by decide) rfl q23 ?_
        obtain ⟨g26, q26, h⟩ := bnd h
        refine r_get (pc := 26) (by decide +kernel) fl_T_67.r (by decide) rfl q26 ?_
        refine r_bipush (pc := 29) (z := 6) (by decide +kernel) ⟨by decide, by decide⟩ ?_
        refine r_icmp_lt (pc := 31) (off := 8) (tgt := 39) (by decide +kernel) (by decide) (fun c31 => ?_) (fun c31 => ?_)
        · have h := ite_t c31 h
          refine r_aload_n (pc := 39) 0 (n := 0) (by decide +kernel) rfl rfl ?_
          obtain ⟨g40, q40, h⟩ := bnd h
          refine r_get (pc := 40) (by decide +kernel) fl_T_12.r (by decide) rfl q40 ?_
          refine r_iload_n (pc := 43) 1 (n := 1) (by decide +kernel) rfl rfl ?_
          obtain ⟨_, q44c, h⟩ := bnd h
          obtain ⟨x44, q44, h⟩ := bnd h
          refine r_callV (pc := 44) (i := 70) (d2 := d - 1) (As := [(0, a1)]) (st := []) (st1 := [(0, a1), (2, g40)]) (by decide +kernel) yk_Signs_add (by decide) rfl ⟨ml_T_70, vk_Signs_add⟩ np_Signs_add rfl (by omega) q44c (c_Signs_add (d := d - 1) (by omega) q44) (Nat.le_of_ble_eq_true rfl) (Nat.le_of_ble_eq_true rfl) (Nat.le_of_ble_eq_true rfl) rfl ?_
          show Rn _ d _ _ 0 0 _ 47 [(0, (2, a0)), (1, (0, a1))] [(0, x44.1)] x44.2
          obtain rfl := Option.some.inj h
          exact r_ret (pc := 47) (r := some (0, x44.1)) (by decide +kernel) rfl trivial (Nat.le_of_ble_eq_true rfl) (Nat.le_of_ble_eq_true rfl)
        · have h := ite_f c31 h
          refine r_bipush (pc := 34) (z := (-4)) (by decide +kernel) ⟨by decide, by decide⟩ ?_
          refine r_goto (pc := 36) (off := 11) (tgt := 47) (by decide +kernel) (by decide) ?_
          obtain rfl := Option.some.inj h
          exact r_ret (pc := 47) (r := some (0, (-4))) (by decide +kernel) rfl trivial (Nat.le_of_ble_eq_true rfl) (Nat.le_of_ble_eq_true rfl)
      · have h := ite_f c16 h
        refine r_bipush (pc := 19) (z := (-3)) (by decide +kernel) ⟨by decide, by decide⟩ ?_
        obtain rfl := Option.some.inj h
        exact r_ret (pc := 21) (r := some (0, (-3))) (by decide +kernel) rfl trivial (Nat.le_of_ble_eq_true rfl) (Nat.le_of_ble_eq_true rfl)
    · have h := ite_f c6 h
      refine r_bipush (pc := 9) (z := (-2)) (by decide +kernel) ⟨by decide, by decide⟩ ?_
      obtain rfl := Option.some.inj h
      exact r_ret (pc := 11) (r := some (0, (-2))) (by decide +kernel) rfl trivial (Nat.le_of_ble_eq_true rfl) (Nat.le_of_ble_eq_true rfl)

/-! TreeTongues$Signs.knows(I)Z -/
noncomputable def D_Signs_knows (a0 a1 : Int) (M : Mem) : Option (Int × Mem) := if a1 < 0 then (some (0, M)) else ((gf M a0 5 3 1).bind fun g6 => if g6 ≤ a1 then (some (0, M)) else (some (1, M)))
theorem c_Signs_knows {d : Nat} (hd : 1 ≤ d) {a0 a1 : Int} {M : Mem} {x : Int × Mem} (h : D_Signs_knows a0 a1 M = some x) : Ct d Y_Signs_knows [(2, a0), (0, a1)] M (some (0, x.1), x.2) 0 0 := by
  refine ct_of yk_Signs_knows (Nat.le_of_ble_eq_true rfl) ?_
  rw [D_Signs_knows] at h
  show Rn Y_Signs_knows d 0 0 0 0 (some (0, x.1), x.2) 0 [(0, (2, a0)), (1, (0, a1))] [] M
  refine r_iload_n (pc := 0) 1 (n := 1) (by decide +kernel) rfl rfl ?_
  refine r_if_lt (pc := 1) (off := 15) (tgt := 16) (by decide +kernel) (by decide) (fun c1 => ?_) (fun c1 => ?_)
  · have h := ite_t c1 h
    refine r_iconst (pc := 16) (z := 0) (by decide +kernel) ⟨by decide, by decide⟩ ?_
    obtain rfl := Option.some.inj h
    exact r_ret (pc := 17) (r := some (0, 0)) (by decide +kernel) rfl (Or.inl rfl) (Nat.le_of_ble_eq_true rfl) (Nat.le_of_ble_eq_true rfl)
  · have h := ite_f c1 h
    refine r_iload_n (pc := 4) 1 (n := 1) (by decide +kernel) rfl rfl ?_
    refine r_aload_n (pc := 5) 0 (n := 0) (by decide +kernel) rfl rfl ?_
    obtain ⟨g6, q6, h⟩ := bnd h
    refine r_get (pc := 6) (by decide +kernel) fl_Signs_15.r (by decide) rfl q6 ?_
    refine r_icmp_ge (pc := 9) (off := 7) (tgt := 16) (by decide +kernel) (by decide) (fun c9 => ?_) (fun c9 => ?_)
    · have h := ite_t c9 h
      refine r_iconst (pc := 16) (z := 0) (by decide +kernel) ⟨by decide, by decide⟩ ?_
      obtain rfl := Option.some.inj h
      exact r_ret (pc := 17) (r := some (0, 0)) (by decide +kernel) rfl (Or.inl rfl) (Nat.le_of_ble_eq_true rfl) (Nat.le_of_ble_eq_true rfl)
    · have h := ite_f c9 h
      refine r_iconst (pc := 12) (z := 1) (by decide +kernel) ⟨by decide, by decide⟩ ?_
      refine r_goto (pc := 13) (off := 4) (tgt := 17) (by decide +kernel) (by decide) ?_
      obtain rfl := Option.some.inj h
      exact r_ret (pc := 17) (r := some (0, 1)) (by decide +kernel) rfl (Or.inr rfl) (Nat.le_of_ble_eq_true rfl) (Nat.le_of_ble_eq_true rfl)

/-! TreeTongues$Signs.rankOf(I)I -/
noncomputable def D_Signs_rankOf (a0 a1 : Int) (M : Mem) : Option (Int × Mem) := if a1 < 0 then (some (0, M)) else ((gf M a0 5 3 1).bind fun g6 => if g6 ≤ a1 then (some (0, M)) else ((gf M a0 5 3 0).bind fun g13 => (rd M 10 g13 a1).bind fun e17 => some (e17, M)))
theorem c_Signs_rankOf {d : Nat} (hd : 1 ≤ d) {a0 a1 : Int} {M : Mem} {x : Int × Mem} (h : D_Signs_rankOf a0 a1 M = some x) : Ct d Y_Signs_rankOf [(2, a0), (0, a1)] M (some (0, x.1), x.2) 0 0 := by
  refine ct_of yk_Signs_rankOf (Nat.le_of_ble_eq_true rfl) ?_
  rw [D_Signs_rankOf] at h
  show Rn Y_Signs_rankOf d 0 0 0 0 (some (0, x.1), x.2) 0 [(0, (2, a0)), (1, (0, a1))] [] M
  refine r_iload_n (pc := 0) 1 (n := 1) (by decide +kernel) rfl rfl ?_
  refine r_if_lt (pc := 1) (off := 20) (tgt := 21) (by decide +kernel) (by decide) (fun c1 => ?_) (fun c1 => ?_)
  · have h := ite_t c1 h
    refine r_iconst (pc := 21) (z := 0) (by decide +kernel) ⟨by decide, by decide⟩ ?_
    obtain rfl := Option.some.inj h
    exact r_ret (pc := 22) (r := some (0, 0)) (by decide +kernel) rfl trivial (Nat.le_of_ble_eq_true rfl) (Nat.le_of_ble_eq_true rfl)
  · have h := ite_f c1 h
    refine r_iload_n (pc := 4) 1 (n := 1) (by decide +kernel) rfl rfl ?_
    refine r_aload_n (pc := 5) 0 (n := 0) (by decide +kernel) rfl rfl ?_
    obtain ⟨g6, q6, h⟩ := bnd h
    refine r_get (pc := 6) (by decide +kernel) fl_Signs_15.r (by decide) rfl q6 ?_
    refine r_icmp_ge (pc := 9) (off := 12) (tgt := 21) (by decide +kernel) (by decide) (fun c9 => ?_) (fun c9 => ?_)
    · have h := ite_t c9 h
      refine r_iconst (pc := 21) (z := 0) (by decide +kernel) ⟨by decide, by decide⟩ ?_
      obtain rfl := Option.some.inj h
      exact r_ret (pc := 22) (r := some (0, 0)) (by decide +kernel) rfl trivial (Nat.le_of_ble_eq_true rfl) (Nat.le_of_ble_eq_true rfl)
    · have h := ite_f c9 h
      refine r_aload_n (pc := 12) 0 (n := 0) (by decide +kernel) rfl rfl ?_
      obtain ⟨g13, q13, h⟩ := bnd h
      refine r_get (pc := 13) (by decide +kernel) fl_Signs_9.r (by decide) rfl q13 ?_
      refine r_iload_n (pc := 16) 1 (n := 1) (by decide +kernel) rfl rfl ?_
      obtain ⟨e17, q17, h⟩ := bnd h
      refine r_iald (pc := 17) (by decide +kernel) q17 ?_
      refine r_goto (pc := 18) (off := 4) (tgt := 22) (by decide +kernel) (by decide) ?_
      obtain rfl := Option.some.inj h
      exact r_ret (pc := 22) (r := some (0, e17)) (by decide +kernel) rfl trivial (Nat.le_of_ble_eq_true rfl) (Nat.le_of_ble_eq_true rfl)

/-! TreeTongues.rank(I)I -/
noncomputable def D_T_rank (a0 a1 : Int) (M : Mem) : Option (Int × Mem) := (gf M a0 8 8 0).bind fun g1 => (ck M g1 5 3).bind fun _ => (D_Signs_knows g1 a1 M).bind fun x5 => if x5.1 = 0 then (some ((-2), x5.2)) else ((gf x5.2 a0 8 8 0).bind fun g12 => (ck x5.2 g12 5 3).bind fun _ => (D_Signs_rankOf g12 a1 x5.2).bind fun x16 => some (x16.1, x16.2))
theorem c_T_rank {d : Nat} (hd : 2 ≤ d) {a0 a1 : Int} {M : Mem} {x : Int × Mem} (h : D_T_rank a0 a1 M = some x) : Ct d Y_T_rank [(2, a0), (0, a1)] M (some (0, x.1), x.2) 0 0 := by
  refine ct_of yk_T_rank (Nat.le_of_ble_eq_true rfl) ?_
  rw [D_T_rank] at h
  show Rn Y_T_rank d 0 0 0 0 (some (0, x.1), x.2) 0 [(0, (2, a0)), (1, (0, a1))] [] M
  refine r_aload_n (pc := 0) 0 (n := 0) (by decide +kernel) rfl rfl ?_
  obtain ⟨g1, q1, h⟩ := bnd h
  refine r_get (pc := 1) (by decide +kernel) fl_T_12.r (by decide) rfl q1 ?_
  refine r_iload_n (pc := 4) 1 (n := 1) (by decide +kernel) rfl rfl ?_
  obtain ⟨_, q5c, h⟩ := bnd h
  obtain ⟨x5, q5, h⟩ := bnd h
  refine r_callV (pc := 5) (i := 74) (d2 := d - 1) (As := [(0, a1)]) (st := []) (st1 := [(0, a1), (2, g1)]) (by decide +kernel) yk_Signs_knows (by decide) rfl ⟨ml_T_74, vk_Signs_knows⟩ np_Signs_knows rfl (by omega) q5c (c_Signs_knows (d := d - 1) (by omega) q5) (Nat.le_of_ble_eq_true rfl) (Nat.le_of_ble_eq_true rfl) (Nat.le_of_ble_eq_true rfl) rfl ?_
  show Rn _ d _ _ 0 0 _ 8 [(0, (2, a0)), (1, (0, a1))] [(0, x5.1)] x5.2
  refine r_if_eq (pc := 8) (off := 14) (tgt := 22) (by decide +kernel) (by decide) (fun c8 => ?_) (fun c8 => ?_)
  · have h := ite_t c8 h
    refine r_bipush (pc := 22) (z := (-2)) (by decide +kernel) ⟨by decide, by decide⟩ ?_
    obtain rfl := Option.some.inj h
    exact r_ret (pc := 24) (r := some (0, (-2))) (by decide +kernel) rfl trivial (Nat.le_of_ble_eq_true rfl) (Nat.le_of_ble_eq_true rfl)
  · have h := ite_f c8 h
    refine r_aload_n (pc := 11) 0 (n := 0) (by decide +kernel) rfl rfl ?_
    obtain ⟨g12, q12, h⟩ := bnd h
    refine r_get (pc := 12) (by decide +kernel) fl_T_12.r (by decide) rfl q12 ?_
    refine r_iload_n (pc := 15) 1 (n := 1) (by decide +kernel) rfl rfl ?_
    obtain ⟨_, q16c, h⟩ := bnd h
    obtain ⟨x16, q16, h⟩ := bnd h
    refine r_callV (pc := 16) (i := 78) (d2 := d - 1) (As := [(0, a1)]) (st := []) (st1 := [(0, a1), (2, g12)]) (by decide +kernel) yk_Signs_rankOf (by decide) rfl ⟨ml_T_78, vk_Signs_rankOf⟩ np_Signs_rankOf rfl (by omega) q16c (c_Signs_rankOf (d := d - 1) (by omega) q16) (Nat.le_of_ble_eq_true rfl) (Nat.le_of_ble_eq_true rfl) (Nat.le_of_ble_eq_true rfl) rfl ?_
    show Rn _ d _ _ 0 0 _ 19 [(0, (2, a0)), (1, (0, a1))] [(0, x16.1)] x16.2
    refine r_goto (pc := 19) (off := 5) (tgt := 24) (by decide +kernel) (by decide) ?_
    obtain rfl := Option.some.inj h
    exact r_ret (pc := 24) (r := some (0, x16.1)) (by decide +kernel) rfl trivial (Nat.le_of_ble_eq_true rfl) (Nat.le_of_ble_eq_true rfl)

/-! TreeTongues$Row.add(I)V -/
noncomputable def D_Row_add (a0 a1 : Int) (M : Mem) : Option (Mem) := (gf M a0 4 5 4).bind fun g1 => if 120 ≤ g1 then (some M) else ((gf M a0 4 5 1).bind fun g10 => (gf M a0 4 5 4).bind fun g14 => (wt M 10 g10 g14 a1).bind fun m18 => (gf m18 a0 4 5 4).bind fun g21 => (pf m18 a0 4 5 4 (wr (g21 + 1))).bind fun m26 => some m26)
theorem c_Row_add {d : Nat} (hd : 1 ≤ d) {a0 a1 : Int} {M : Mem} {x : Mem} (h : D_Row_add a0 a1 M = some x) : Ct d Y_Row_add [(2, a0), (0, a1)] M (none, x) 0 0 := by
  refine ct_of yk_Row_add (Nat.le_of_ble_eq_true rfl) ?_
  rw [D_Row_add] at h
  show Rn Y_Row_add d 0 0 0 0 (none, x) 0 [(0, (2, a0)), (1, (0, a1))] [] M
  refine r_aload_n (pc := 0) 0 (n := 0) (by decide +kernel) rfl rfl ?_
  obtain ⟨g1, q1, h⟩ := bnd h
  refine r_get (pc := 1) (by decide +kernel) fl_Row_21.r (by decide) rfl q1 ?_
  refine r_bipush (pc := 4) (z := 120) (by decide +kernel) ⟨by decide, by decide⟩ ?_
  refine r_icmp_ge (pc := 6) (off := 23) (tgt := 29) (by decide +kernel) (by decide) (fun c6 => ?_) (fun c6 => ?_)
  · have h := ite_t c6 h
    obtain rfl := Option.some.inj h
    exact r_ret (pc := 29) (r := none) (by decide +kernel) rfl trivial (Nat.le_of_ble_eq_true rfl) (Nat.le_of_ble_eq_true rfl)
  · have h := ite_f c6 h
    refine r_aload_n (pc := 9) 0 (n := 0) (by decide +kernel) rfl rfl ?_
    obtain ⟨g10, q10, h⟩ := bnd h
    refine r_get (pc := 10) (by decide +kernel) fl_Row_9.r (by decide) rfl q10 ?_
    refine r_aload_n (pc := 13) 0 (n := 0) (by decide +kernel) rfl rfl ?_
    obtain ⟨g14, q14, h⟩ := bnd h
    refine r_get (pc := 14) (by decide +kernel) fl_Row_21.r (by decide) rfl q14 ?_
    refine r_iload_n (pc := 17) 1 (n := 1) (by decide +kernel) rfl rfl ?_
    obtain ⟨m18, q18, h⟩ := bnd h
    refine r_iast (pc := 18) (by decide +kernel) q18 ?_
    refine r_aload_n (pc := 19) 0 (n := 0) (by decide +kernel) rfl rfl ?_
    refine r_dup (pc := 20) (by decide +kernel) rfl ?_
    obtain ⟨g21, q21, h⟩ := bnd h
    refine r_get (pc := 21) (by decide +kernel) fl_Row_21.r (by decide) rfl q21 ?_
    refine r_iconst (pc := 24) (z := 1) (by decide +kernel) ⟨by decide, by decide⟩ ?_
    refine r_iadd (pc := 25) (by decide +kernel) ?_
    obtain ⟨m26, q26, h⟩ := bnd h
    refine r_put (pc := 26) (by decide +kernel) fl_Row_21 (by decide) (Or.inr nf_4_4) rfl (fun h3 => by cases h3) q26 ?_
    obtain rfl := Option.some.inj h
    exact r_ret (pc := 29) (r := none) (by decide +kernel) rfl trivial (Nat.le_of_ble_eq_true rfl) (Nat.le_of_ble_eq_true rfl)

/-! TreeTongues.put(I)I -/
noncomputable def D_T_put (a0 a1 : Int) (M : Mem) : Option (Int × Mem) := (gf M a0 8 8 0).bind fun g1 => (ck M g1 5 3).bind fun _ => (D_Signs_knows g1 a1 M).bind fun x5 => if x5.1 = 0 then (some ((-2), x5.2)) else ((gf x5.2 a0 8 8 1).bind fun g15 => (gf x5.2 g15 4 5 4).bind fun g18 => if g18 < 120 then ((gf x5.2 a0 8 8 1).bind fun g30 => (ck x5.2 g30 4 5).bind fun _ => (D_Row_add g30 a1 x5.2).bind fun x34 => (gf x34 a0 8 8 1).bind fun g38 => (gf x34 g38 4 5 4).bind fun g41 => some (g41, x34)) else (some ((-4), x5.2)))
theorem c_T_put {d : Nat} (hd : 2 ≤ d) {a0 a1 : Int} {M : Mem} {x : Int × Mem} (h : D_T_put a0 a1 M = some x) : Ct d Y_T_put [(2, a0), (0, a1)] M (some (0, x.1), x.2) 0 0 := by
  refine ct_of yk_T_put (Nat.le_of_ble_eq_true rfl) ?_
  rw [D_T_put] at h
  show Rn Y_T_put d 0 0 0 0 (some (0, x.1), x.2) 0 [(0, (2, a0)), (1, (0, a1))] [] M
  refine r_aload_n (pc := 0) 0 (n := 0) (by decide +kernel) rfl rfl ?_
  obtain ⟨g1, q1, h⟩ := bnd h
  refine r_get (pc := 1) (by decide +kernel) fl_T_12.r (by decide) rfl q1 ?_
  refine r_iload_n (pc := 4) 1 (n := 1) (by decide +kernel) rfl rfl ?_
  obtain ⟨_, q5c, h⟩ := bnd h
  obtain ⟨x5, q5, h⟩ := bnd h
  refine r_callV (pc := 5) (i := 74) (d2 := d - 1) (As := [(0, a1)]) (st := []) (st1 := [(0, a1), (2, g1)]) (by decide +kernel) yk_Signs_knows (by decide) rfl ⟨ml_T_74, vk_Signs_knows⟩ np_Signs_knows rfl (by omega) q5c (c_Signs_knows (d := d - 1) (by omega) q5) (Nat.le_of_ble_eq_true rfl) (Nat.le_of_ble_eq_true rfl) (Nat.le_of_ble_eq_true rfl) rfl ?_
  show Rn _ d _ _ 0 0 _ 8 [(0, (2, a0)), (1, (0, a1))] [(0, x5.1)] x5.2
  refine r_if_ne (pc := 8) (off := 6) (tgt := 14) (by decide +kernel) (by decide) (fun c8 => ?_) (fun c8 => ?_)
  · have h := ite_f c8 h
    refine r_aload_n (pc := 14) 0 (n := 0) (by decide +kernel) rfl rfl ?_
    obtain ⟨g15, q15, h⟩ := bnd h
    refine r_get (pc := 15) (by decide +kernel) fl_T_21.r (by decide) rfl q15 ?_
    obtain ⟨g18, q18, h⟩ := bnd h
    refine r_get (pc := 18) (by decide +kernel) fl_T_81.r (by decide) rfl q18 ?_
    refine r_bipush (pc := 21) (z := 120) (by decide +kernel) ⟨by decide, by decide⟩ ?_
    refine r_icmp_lt (pc := 23) (off := 6) (tgt := 29) (by decide +kernel) (by decide) (fun c23 => ?_) (fun c23 => ?_)
    · have h := ite_t c23 h
      refine r_aload_n (pc := 29) 0 (n := 0) (by decide +kernel) rfl rfl ?_
      obtain ⟨g30, q30, h⟩ := bnd h
      refine r_get (pc := 30) (by decide +kernel) fl_T_21.r (by decide) rfl q30 ?_
      refine r_iload_n (pc := 33) 1 (n := 1) (by decide +kernel) rfl rfl ?_
      obtain ⟨_, q34c, h⟩ := bnd h
      obtain ⟨x34, q34, h⟩ := bnd h
      refine r_callV (pc := 34) (i := 84) (d2 := d - 1) (As := [(0, a1)]) (st := []) (st1 := [(0, a1), (2, g30)]) (by decide +kernel) yk_Row_add (by decide) rfl ⟨ml_T_84, vk_Row_add⟩ np_Row_add rfl (by omega) q34c (c_Row_add (d := d - 1) (by omega) q34) (Nat.le_of_ble_eq_true rfl) (Nat.le_of_ble_eq_true rfl) (Nat.le_of_ble_eq_true rfl) rfl ?_
      show Rn _ d _ _ 0 0 _ 37 [(0, (2, a0)), (1, (0, a1))] [] x34
      refine r_aload_n (pc := 37) 0 (n := 0) (by decide +kernel) rfl rfl ?_
      obtain ⟨g38, q38, h⟩ := bnd h
      refine r_get (pc := 38) (by decide +kernel) fl_T_21.r (by decide) rfl q38 ?_
      obtain ⟨g41, q41, h⟩ := bnd h
      refine r_get (pc := 41) (by decide +kernel) fl_T_81.r (by decide) rfl q41 ?_
      obtain rfl := Option.some.inj h
      exact r_ret (pc := 44) (r := some (0, g41)) (by decide +kernel) rfl trivial (Nat.le_of_ble_eq_true rfl) (Nat.le_of_ble_eq_true rfl)
    · have h := ite_f c23 h
      refine r_bipush (pc := 26) (z := (-4)) (by decide +kernel) ⟨by decide, by decide⟩ ?_
      obtain rfl := Option.some.inj h
      exact r_ret (pc := 28) (r := some (0, (-4))) (by decide +kernel) rfl trivial (Nat.le_of_ble_eq_true rfl) (Nat.le_of_ble_eq_true rfl)
  · have h := ite_t c8 h
    refine r_bipush (pc := 11) (z := (-2)) (by decide +kernel) ⟨by decide, by decide⟩ ?_
    obtain rfl := Option.some.inj h
    exact r_ret (pc := 13) (r := some (0, (-2))) (by decide +kernel) rfl trivial (Nat.le_of_ble_eq_true rfl) (Nat.le_of_ble_eq_true rfl)
