/-! TreeTongues.drop()I -/
noncomputable def D_T_drop (a0 : Int) (M : Mem) : Option (Int × Mem) := (gf M a0 8 8 1).bind fun g1 => (gf M g1 4 5 4).bind fun g4 => (gf M a0 8 8 1).bind fun g9 => (pf M g9 4 5 4 0).bind fun m13 => some (g4, m13)
theorem c_T_drop {d : Nat} (hd : 1 ≤ d) {a0 : Int} {M : Mem} {x : Int × Mem} (h : D_T_drop a0 M = some x) : Ct d Y_T_drop [(2, a0)] M (some (0, x.1), x.2) 0 0 := by
  refine ct_of yk_T_drop (Nat.le_of_ble_eq_true rfl) ?_
  rw [D_T_drop] at h
  show Rn Y_T_drop d 0 0 0 0 (some (0, x.1), x.2) 0 [(0, (2, a0))] [] M
  refine r_aload_n (pc := 0) 0 (n := 0) (by decide +kernel) rfl rfl ?_
  obtain ⟨g1, q1, h⟩ := bnd h
  refine r_get (pc := 1) (by decide +kernel) fl_T_21.r (by decide) rfl q1 ?_
  obtain ⟨g4, q4, h⟩ := bnd h
  refine r_get (pc := 4) (by decide +kernel) fl_T_81.r (by decide) rfl q4 ?_
  refine r_istore_n (pc := 7) (n := 1) (lv' := [(1, (0, g4)), (0, (2, a0))]) (by decide +kernel) rfl (Nat.le_of_ble_eq_true rfl) rfl ?_
  refine r_aload_n (pc := 8) 1 (n := 0) (by decide +kernel) rfl rfl ?_
  obtain ⟨g9, q9, h⟩ := bnd h
  refine r_get (pc := 9) (by decide +kernel) fl_T_21.r (by decide) rfl q9 ?_
  refine r_iconst (pc := 12) (z := 0) (by decide +kernel) ⟨by decide, by decide⟩ ?_
  obtain ⟨m13, q13, h⟩ := bnd h
  refine r_put (pc := 13) (by decide +kernel) fl_T_81 (by decide) (Or.inr nf_4_4) rfl (fun h3 => by cases h3) q13 ?_
  refine r_iload_n (pc := 16) 0 (n := 1) (by decide +kernel) rfl rfl ?_
  obtain rfl := Option.some.inj h
  exact r_ret (pc := 17) (r := some (0, g4)) (by decide +kernel) rfl trivial (Nat.le_of_ble_eq_true rfl) (Nat.le_of_ble_eq_true rfl)

/-! TreeTongues.at(I)I -/
noncomputable def D_T_at (a0 a1 : Int) (M : Mem) : Option (Int × Mem) := if a1 < 0 then (some ((-2), M)) else ((gf M a0 8 8 1).bind fun g6 => (gf M g6 4 5 4).bind fun g9 => if g9 ≤ a1 then (some ((-2), M)) else ((gf M a0 8 8 1).bind fun g16 => (gf M g16 4 5 1).bind fun g19 => (rd M 10 g19 a1).bind fun e23 => some (e23, M)))
theorem c_T_at {d : Nat} (hd : 1 ≤ d) {a0 a1 : Int} {M : Mem} {x : Int × Mem} (h : D_T_at a0 a1 M = some x) : Ct d Y_T_at [(2, a0), (0, a1)] M (some (0, x.1), x.2) 0 0 := by
  refine ct_of yk_T_at (Nat.le_of_ble_eq_true rfl) ?_
  rw [D_T_at] at h
  show Rn Y_T_at d 0 0 0 0 (some (0, x.1), x.2) 0 [(0, (2, a0)), (1, (0, a1))] [] M
  refine r_iload_n (pc := 0) 1 (n := 1) (by decide +kernel) rfl rfl ?_
  refine r_if_lt (pc := 1) (off := 26) (tgt := 27) (by decide +kernel) (by decide) (fun c1 => ?_) (fun c1 => ?_)
  · have h := ite_t c1 h
    refine r_bipush (pc := 27) (z := (-2)) (by decide +kernel) ⟨by decide, by decide⟩ ?_
    obtain rfl := Option.some.inj h
    exact r_ret (pc := 29) (r := some (0, (-2))) (by decide +kernel) rfl trivial (Nat.le_of_ble_eq_true rfl) (Nat.le_of_ble_eq_true rfl)
  · have h := ite_f c1 h
    refine r_iload_n (pc := 4) 1 (n := 1) (by decide +kernel) rfl rfl ?_
    refine r_aload_n (pc := 5) 0 (n := 0) (by decide +kernel) rfl rfl ?_
    obtain ⟨g6, q6, h⟩ := bnd h
    refine r_get (pc := 6) (by decide +kernel) fl_T_21.r (by decide) rfl q6 ?_
    obtain ⟨g9, q9, h⟩ := bnd h
    refine r_get (pc := 9) (by decide +kernel) fl_T_81.r (by decide) rfl q9 ?_
    refine r_icmp_ge (pc := 12) (off := 15) (tgt := 27) (by decide +kernel) (by decide) (fun c12 => ?_) (fun c12 => ?_)
    · have h := ite_t c12 h
      refine r_bipush (pc := 27) (z := (-2)) (by decide +kernel) ⟨by decide, by decide⟩ ?_
      obtain rfl := Option.some.inj h
      exact r_ret (pc := 29) (r := some (0, (-2))) (by decide +kernel) rfl trivial (Nat.le_of_ble_eq_true rfl) (Nat.le_of_ble_eq_true rfl)
    · have h := ite_f c12 h
      refine r_aload_n (pc := 15) 0 (n := 0) (by decide +kernel) rfl rfl ?_
      obtain ⟨g16, q16, h⟩ := bnd h
      refine r_get (pc := 16) (by decide +kernel) fl_T_21.r (by decide) rfl q16 ?_
      obtain ⟨g19, q19, h⟩ := bnd h
      refine r_get (pc := 19) (by decide +kernel) fl_T_87 (by decide) rfl q19 ?_
      refine r_iload_n (pc := 22) 1 (n := 1) (by decide +kernel) rfl rfl ?_
      obtain ⟨e23, q23, h⟩ := bnd h
      refine r_iald (pc := 23) (by decide +kernel) q23 ?_
      refine r_goto (pc := 24) (off := 5) (tgt := 29) (by decide +kernel) (by decide) ?_
      obtain rfl := Option.some.inj h
      exact r_ret (pc := 29) (r := some (0, e23)) (by decide +kernel) rfl trivial (Nat.le_of_ble_eq_true rfl) (Nat.le_of_ble_eq_true rfl)

/-! TreeTongues$Tongue.<init>(LTreeTongues$Signs;)V -/
noncomputable def D_Tongue_init (a0 a1 : Int) (M : Mem) : Option (Mem) := (ck M a0 7 8).bind fun _ => (na M 10 150).bind fun x8 => (pf x8.2 a0 7 8 2 x8.1).bind fun m10 => (pf m10 a0 7 8 3 0).bind fun m15 => (pf m15 a0 7 8 4 0).bind fun m20 => (pf m20 a0 7 8 5 0).bind fun m25 => (pf m25 a0 7 8 6 0).bind fun m30 => (pf m30 a0 7 8 7 0).bind fun m35 => (pf m35 a0 7 8 0 a1).bind fun m40 => (nw m40 1 14).bind fun x44 => (ck x44.2 x44.1 1 14).bind fun _ => (D_Machine_init x44.1 a1 x44.2).bind fun x49 => (pf x49 a0 7 8 1 x44.1).bind fun m52 => some m52
theorem c_Tongue_init {d : Nat} (hd : 2 ≤ d) {a0 a1 : Int} {M : Mem} {x : Mem} (h : D_Tongue_init a0 a1 M = some x) : Ct d Y_Tongue_init [(2, a0), (2, a1)] M (none, x) 11 668 := by
  refine ct_of yk_Tongue_init (Nat.le_of_ble_eq_true rfl) ?_
  rw [D_Tongue_init] at h
  show Rn Y_Tongue_init d 11 668 0 0 (none, x) 0 [(0, (2, a0)), (1, (2, a1))] [] M
  refine r_aload_n (pc := 0) 0 (n := 0) (by decide +kernel) rfl rfl ?_
  obtain ⟨_, q1c, h⟩ := bnd h
  refine r_objinit (pc := 1) (i := 3) (by decide +kernel) (mg 406 (by decide +kernel) (by decide +kernel)) (by decide) q1c (by omega) (Nat.le_of_ble_eq_true rfl) ?_
  refine r_aload_n (pc := 4) 0 (n := 0) (by decide +kernel) rfl rfl ?_
  refine r_sipush (pc := 5) (z := 150) (by decide +kernel) ⟨by decide, by decide⟩ ?_
  obtain ⟨x8, q8, h⟩ := bnd h
  refine r_newa (pc := 8) (kd := 10) (ty := .int) (sl' := 150) (by decide) (by decide +kernel) q8 (Nat.le_of_ble_eq_true rfl) rfl (Nat.le_of_ble_eq_true rfl) ?_
  obtain ⟨m10, q10, h⟩ := bnd h
  refine r_put (pc := 10) (by decide +kernel) fl_Tongue_9 (by decide) (Or.inl rfl) rfl (fun h3 => by cases h3) q10 ?_
  refine r_aload_n (pc := 13) 0 (n := 0) (by decide +kernel) rfl rfl ?_
  refine r_iconst (pc := 14) (z := 0) (by decide +kernel) ⟨by decide, by decide⟩ ?_
  obtain ⟨m15, q15, h⟩ := bnd h
  refine r_put (pc := 15) (by decide +kernel) fl_Tongue_15 (by decide) (Or.inl rfl) rfl (fun h3 => by cases h3) q15 ?_
  refine r_aload_n (pc := 18) 0 (n := 0) (by decide +kernel) rfl rfl ?_
  refine r_iconst (pc := 19) (z := 0) (by decide +kernel) ⟨by decide, by decide⟩ ?_
  obtain ⟨m20, q20, h⟩ := bnd h
  refine r_put (pc := 20) (by decide +kernel) fl_Tongue_19 (by decide) (Or.inl rfl) rfl (fun h3 => by cases h3) q20 ?_
  refine r_aload_n (pc := 23) 0 (n := 0) (by decide +kernel) rfl rfl ?_
  refine r_iconst (pc := 24) (z := 0) (by decide +kernel) ⟨by decide, by decide⟩ ?_
  obtain ⟨m25, q25, h⟩ := bnd h
  refine r_put (pc := 25) (by decide +kernel) fl_Tongue_22 (by decide) (Or.inl rfl) rfl (fun h3 => by cases h3) q25 ?_
  refine r_aload_n (pc := 28) 0 (n := 0) (by decide +kernel) rfl rfl ?_
  refine r_iconst (pc := 29) (z := 0) (by decide +kernel) ⟨by decide, by decide⟩ ?_
  obtain ⟨m30, q30, h⟩ := bnd h
  refine r_put (pc := 30) (by decide +kernel) fl_Tongue_25 (by decide) (Or.inl rfl) rfl (fun _ => Or.inl rfl) q30 ?_
  refine r_aload_n (pc := 33) 0 (n := 0) (by decide +kernel) rfl rfl ?_
  refine r_iconst (pc := 34) (z := 0) (by decide +kernel) ⟨by decide, by decide⟩ ?_
  obtain ⟨m35, q35, h⟩ := bnd h
  refine r_put (pc := 35) (by decide +kernel) fl_Tongue_29 (by decide) (Or.inl rfl) rfl (fun _ => Or.inl rfl) q35 ?_
  refine r_aload_n (pc := 38) 0 (n := 0) (by decide +kernel) rfl rfl ?_
  refine r_aload_n (pc := 39) 1 (n := 1) (by decide +kernel) rfl rfl ?_
  obtain ⟨m40, q40, h⟩ := bnd h
  refine r_put (pc := 40) (by decide +kernel) fl_Tongue_32 (by decide) (Or.inl rfl) rfl (fun h3 => by cases h3) q40 ?_
  refine r_aload_n (pc := 43) 0 (n := 0) (by decide +kernel) rfl rfl ?_
  obtain ⟨x44, q44, h⟩ := bnd h
  refine r_new (pc := 44) (i := 36) (by decide +kernel) (by decide) nK1 rfl (mg 407 (by decide +kernel) (by decide +kernel)) q44 (Nat.le_of_ble_eq_true rfl) (Nat.le_of_ble_eq_true rfl) ?_
  refine r_dup (pc := 47) (by decide +kernel) rfl ?_
  refine r_aload_n (pc := 48) 1 (n := 1) (by decide +kernel) rfl rfl ?_
  obtain ⟨_, q49c, h⟩ := bnd h
  obtain ⟨x49, q49, h⟩ := bnd h
  refine r_callI (pc := 49) (i := 38) (d2 := d - 1) (As := [(2, a1)]) (st := [(2, x44.1), (2, a0)]) (st1 := [(2, a1), (2, x44.1), (2, x44.1), (2, a0)]) (by decide +kernel) yk_Machine_init rfl rfl (by decide) rfl ik_Machine_init (Or.inl ml_Tongue_38) np_Machine_init rfl (by omega) q49c (c_Machine_init (d := d - 1) (by omega) q49) (Nat.le_of_ble_eq_true rfl) (Nat.le_of_ble_eq_true rfl) (Nat.le_of_ble_eq_true rfl) rfl ?_
  show Rn _ d _ _ 11 668 _ 52 [(0, (2, a0)), (1, (2, a1))] [(2, x44.1), (2, a0)] x49
  obtain ⟨m52, q52, h⟩ := bnd h
  refine r_put (pc := 52) (by decide +kernel) fl_Tongue_41 (by decide) (Or.inl rfl) rfl (fun h3 => by cases h3) q52 ?_
  obtain rfl := Option.some.inj h
  exact r_ret (pc := 55) (r := none) (by decide +kernel) rfl trivial (Nat.le_of_ble_eq_true rfl) (Nat.le_of_ble_eq_true rfl)

/-! TreeTongues.slot(I)LTreeTongues$Tongue; -/
noncomputable def D_T_slot (a0 a1 : Int) (M : Mem) : Option (Int × Mem) := (gf M a0 8 8 2).bind fun g1 => (rd M 14 g1 a1).bind fun e5 => (if e5 < 0 then ((gf M a0 8 8 2).bind fun g10 => (nw M 7 8).bind fun x14 => (gf x14.2 a0 8 8 0).bind fun g19 => (ck x14.2 x14.1 7 8).bind fun _ => (D_Tongue_init x14.1 g19 x14.2).bind fun x22 => (ck x22 x14.1 7 8).bind fun _ => (wt x22 14 g10 a1 x14.1).bind fun m25 => some m25) else (some M)).bind fun (t6 : Mem) => (gf t6 a0 8 8 2).bind fun g27 => (rd t6 14 g27 a1).bind fun e31 => some (e31, t6)
theorem c_T_slot {d : Nat} (hd : 3 ≤ d) {a0 a1 : Int} {M : Mem} {x : Int × Mem} (h : D_T_slot a0 a1 M = some x) : Ct d Y_T_slot [(2, a0), (0, a1)] M (some (2, x.1), x.2) 12 676 := by
  refine ct_of yk_T_slot (Nat.le_of_ble_eq_true rfl) ?_
  rw [D_T_slot] at h
  show Rn Y_T_slot d 12 676 0 0 (some (2, x.1), x.2) 0 [(0, (2, a0)), (1, (0, a1))] [] M
  refine r_aload_n (pc := 0) 0 (n := 0) (by decide +kernel) rfl rfl ?_
  obtain ⟨g1, q1, h⟩ := bnd h
  refine r_get (pc := 1) (by decide +kernel) fl_T_27.r (by decide) rfl q1 ?_
  refine r_iload_n (pc := 4) 1 (n := 1) (by decide +kernel) rfl rfl ?_
  obtain ⟨e5, q5, h⟩ := bnd h
  refine r_aald (pc := 5) (by decide) (by decide +kernel) q5 ?_
  obtain ⟨t6, ht6, h⟩ := bnd h
  have E6_0 : Rn Y_T_slot d 12 676 12 676 (some (2, x.1), x.2) 26 [(0, (2, a0)), (1, (0, a1))] [] t6 := by
    refine r_aload_n (pc := 26) 0 (n := 0) (by decide +kernel) rfl rfl ?_
    obtain ⟨g27, q27, h⟩ := bnd h
    refine r_get (pc := 27) (by decide +kernel) fl_T_27.r (by decide) rfl q27 ?_
    refine r_iload_n (pc := 30) 1 (n := 1) (by decide +kernel) rfl rfl ?_
    obtain ⟨e31, q31, h⟩ := bnd h
    refine r_aald (pc := 31) (by decide) (by decide +kernel) q31 ?_
    obtain rfl := Option.some.inj h
    exact r_ret (pc := 32) (r := some (2, e31)) (by decide +kernel) rfl trivial (Nat.le_of_ble_eq_true rfl) (Nat.le_of_ble_eq_true rfl)
  refine r_ifnonnull (pc := 6) (off := 20) (tgt := 26) (by decide +kernel) (by decide) (fun c6 => ?_) (fun c6 => ?_)
  · have ht6 := ite_f c6 ht6
    obtain rfl := Option.some.inj ht6
    refine r_wd (ca' := 12) (sl' := 676) (Nat.le_of_ble_eq_true rfl) (Nat.le_of_ble_eq_true rfl) ?_
    exact E6_0
  · have ht6 := ite_t c6 ht6
    refine r_aload_n (pc := 9) 0 (n := 0) (by decide +kernel) rfl rfl ?_
    obtain ⟨g10, q10, ht6⟩ := bnd ht6
    refine r_get (pc := 10) (by decide +kernel) fl_T_27.r (by decide) rfl q10 ?_
    refine r_iload_n (pc := 13) 1 (n := 1) (by decide +kernel) rfl rfl ?_
    obtain ⟨x14, q14, ht6⟩ := bnd ht6
    refine r_new (pc := 14) (i := 25) (by decide +kernel) (by decide) nK7 rfl (mg 152 (by decide +kernel) (by decide +kernel)) q14 (Nat.le_of_ble_eq_true rfl) (Nat.le_of_ble_eq_true rfl) ?_
    refine r_dup (pc := 17) (by decide +kernel) rfl ?_
    refine r_aload_n (pc := 18) 0 (n := 0) (by decide +kernel) rfl rfl ?_
    obtain ⟨g19, q19, ht6⟩ := bnd ht6
    refine r_get (pc := 19) (by decide +kernel) fl_T_12.r (by decide) rfl q19 ?_
    obtain ⟨_, q22c, ht6⟩ := bnd ht6
    obtain ⟨x22, q22, ht6⟩ := bnd ht6
    refine r_callI (pc := 22) (i := 216) (d2 := d - 1) (As := [(2, g19)]) (st := [(2, x14.1), (0, a1), (2, g10)]) (st1 := [(2, g19), (2, x14.1), (2, x14.1), (0, a1), (2, g10)]) (by decide +kernel) yk_Tongue_init rfl rfl (by decide) rfl ik_Tongue_init (Or.inl ml_T_216) np_Tongue_init rfl (by omega) q22c (c_Tongue_init (d := d - 1) (by omega) q22) (Nat.le_of_ble_eq_true rfl) (Nat.le_of_ble_eq_true rfl) (Nat.le_of_ble_eq_true rfl) rfl ?_
    show Rn _ d _ _ 12 676 _ 25 [(0, (2, a0)), (1, (0, a1))] [(2, x14.1), (0, a1), (2, g10)] x22
    obtain ⟨_, q25c, ht6⟩ := bnd ht6
    obtain ⟨m25, q25, ht6⟩ := bnd ht6
    refine r_aast (pc := 25) (by decide) (by decide +kernel) q25c q25 ?_
    obtain rfl := Option.some.inj ht6
    exact E6_0

/-! java/util/Arrays.fill([II)V -/
noncomputable def L_Arr_fill_IIV_5 (k : Mem → Option (Mem)) (v0 : Int) (v1 : Int) (v3 : Int) : Nat → Int → Mem → Option (Mem)
  | 0 => fun _ _ => none
  | n + 1 => fun v2 M => if v3 ≤ v2 then (k  M) else ((wt M 10 v0 v2 v1).bind fun m13 => L_Arr_fill_IIV_5 k v0 v1 v3 n (wr (v2 + 1)) m13)
noncomputable def D_Arr_fill_IIV (a0 a1 : Int) (M : Mem) : Option (Mem) := (ln M a0).bind fun e3 => L_Arr_fill_IIV_5 (fun  m5 => some m5) a0 a1 e3 FU 0 M
theorem sL_Arr_fill_IIV_5 {d mc ms : Nat} (hd : 1 ≤ d) {r : Mem} {k : Mem → Option (Mem)} {v0 : Int} {v1 : Int} {v3 : Int} (hk : ∀ (M : Mem), k M = some r → Rn Y_Arr_fill_IIV d mc ms 0 0 (none, r) 20 [] [] M) : ∀ (n : Nat) (v2 : Int) (M : Mem), L_Arr_fill_IIV_5 k v0 v1 v3 n v2 M = some r → Rn Y_Arr_fill_IIV d mc ms 0 0 (none, r) 5 [(0, (2, v0)), (1, (0, v1)), (2, (0, v2)), (3, (0, v3))] [] M := by
  intro n
  induction n with
  | zero => intro _ _ h; cases h
  | succ n ih =>
    intro v2 M h
    rw [L_Arr_fill_IIV_5] at h
    refine r_iload_n (pc := 5) 2 (n := 2) (by decide +kernel) rfl rfl ?_
    refine r_iload_n (pc := 6) 3 (n := 3) (by decide +kernel) rfl rfl ?_
    refine r_icmp_ge (pc := 7) (off := 13) (tgt := 20) (by decide +kernel) (by decide) (fun c7 => ?_) (fun c7 => ?_)
    · have h := ite_t c7 h
      refine r_lv [] rfl ?_
      exact hk  M h
    · have h := ite_f c7 h
      refine r_aload_n (pc := 10) 0 (n := 0) (by decide +kernel) rfl rfl ?_
      refine r_iload_n (pc := 11) 2 (n := 2) (by decide +kernel) rfl rfl ?_
      refine r_iload_n (pc := 12) 1 (n := 1) (by decide +kernel) rfl rfl ?_
      obtain ⟨m13, q13, h⟩ := bnd h
      refine r_iast (pc := 13) (by decide +kernel) q13 ?_
      refine r_iinc (pc := 14) 2 (n := 1) (lv' := [(2, (0, wr (v2 + 1))), (0, (2, v0)), (1, (0, v1)), (3, (0, v3))]) (by decide +kernel) rfl (Nat.le_of_ble_eq_true rfl) rfl ?_
      refine r_goto (pc := 17) (off := (-12)) (tgt := 5) (by decide +kernel) (by decide) ?_
      refine r_lv [1, 2, 0, 3] rfl ?_
      exact ih (wr (v2 + 1)) m13 h
theorem c_Arr_fill_IIV {d : Nat} (hd : 1 ≤ d) {a0 a1 : Int} {M : Mem} {x : Mem} (h : D_Arr_fill_IIV a0 a1 M = some x) : Ct d Y_Arr_fill_IIV [(2, a0), (0, a1)] M (none, x) 0 0 := by
  refine ct_of yk_Arr_fill_IIV (Nat.le_of_ble_eq_true rfl) ?_
  rw [D_Arr_fill_IIV] at h
  show Rn Y_Arr_fill_IIV d 0 0 0 0 (none, x) 0 [(0, (2, a0)), (1, (0, a1))] [] M
  refine r_iconst (pc := 0) (z := 0) (by decide +kernel) ⟨by decide, by decide⟩ ?_
  refine r_istore_n (pc := 1) (n := 2) (lv' := [(2, (0, 0)), (0, (2, a0)), (1, (0, a1))]) (by decide +kernel) rfl (Nat.le_of_ble_eq_true rfl) rfl ?_
  refine r_aload_n (pc := 2) 1 (n := 0) (by decide +kernel) rfl rfl ?_
  obtain ⟨e3, q3, h⟩ := bnd h
  refine r_len (pc := 3) (by decide +kernel) q3 ?_
  refine r_istore_n (pc := 4) (n := 3) (lv' := [(3, (0, e3)), (2, (0, 0)), (0, (2, a0)), (1, (0, a1))]) (by decide +kernel) rfl (Nat.le_of_ble_eq_true rfl) rfl ?_
  refine r_lv [2, 3, 1, 0] rfl ?_
  refine sL_Arr_fill_IIV_5 (by omega) ?_ _ _  _ h
  intro m5 h
  obtain rfl := Option.some.inj h
  exact r_ret (pc := 20) (r := none) (by decide +kernel) rfl trivial (Nat.le_of_ble_eq_true rfl) (Nat.le_of_ble_eq_true rfl)

/-! TreeTongues$Tongue.tell(I)V -/
noncomputable def D_Tongue_tell (a0 a1 : Int) (M : Mem) : Option (Mem) := (gf M a0 7 8 2).bind fun g1 => (D_Arr_fill_IIV g1 0 M).bind fun x5 => (pf x5 a0 7 8 3 a1).bind fun m10 => (pf m10 a0 7 8 4 0).bind fun m15 => (pf m15 a0 7 8 5 0).bind fun m20 => (pf m20 a0 7 8 6 1).bind fun m25 => (pf m25 a0 7 8 7 1).bind fun m30 => some m30
theorem c_Tongue_tell {d : Nat} (hd : 2 ≤ d) {a0 a1 : Int} {M : Mem} {x : Mem} (h : D_Tongue_tell a0 a1 M = some x) : Ct d Y_Tongue_tell [(2, a0), (0, a1)] M (none, x) 0 0 := by
  refine ct_of yk_Tongue_tell (Nat.le_of_ble_eq_true rfl) ?_
  rw [D_Tongue_tell] at h
  show Rn Y_Tongue_tell d 0 0 0 0 (none, x) 0 [(0, (2, a0)), (1, (0, a1))] [] M
  refine r_aload_n (pc := 0) 0 (n := 0) (by decide +kernel) rfl rfl ?_
  obtain ⟨g1, q1, h⟩ := bnd h
  refine r_get (pc := 1) (by decide +kernel) fl_Tongue_9.r (by decide) rfl q1 ?_
  refine r_iconst (pc := 4) (z := 0) (by decide +kernel) ⟨by decide, by decide⟩ ?_
  obtain ⟨x5, q5, h⟩ := bnd h
  refine r_callS (pc := 5) (i := 45) (d2 := d - 1) (As := [(2, g1), (0, 0)]) (st := []) (st1 := [(0, 0), (2, g1)]) (by decide +kernel) yk_Arr_fill_IIV ⟨ml_Tongue_45, sk_Arr_fill_IIV⟩ np_Arr_fill_IIV rfl (by omega) (c_Arr_fill_IIV (d := d - 1) (by omega) q5) (Nat.le_of_ble_eq_true rfl) (Nat.le_of_ble_eq_true rfl) (Nat.le_of_ble_eq_true rfl) rfl ?_
  show Rn _ d _ _ 0 0 _ 8 [(0, (2, a0)), (1, (0, a1))] [] x5
  refine r_aload_n (pc := 8) 0 (n := 0) (by decide +kernel) rfl rfl ?_
  refine r_iload_n (pc := 9) 1 (n := 1) (by decide +kernel) rfl rfl ?_
  obtain ⟨m10, q10, h⟩ := bnd h
  refine r_put (pc := 10) (by decide +kernel) fl_Tongue_15 (by decide) (Or.inr nf_7_3) rfl (fun h3 => by cases h3) q10 ?_
  refine r_aload_n (pc := 13) 0 (n := 0) (by decide +kernel) rfl rfl ?_
  refine r_iconst (pc := 14) (z := 0) (by decide +kernel) ⟨by decide, by decide⟩ ?_
  obtain ⟨m15, q15, h⟩ := bnd h
  refine r_put (pc := 15) (by decide +kernel) fl_Tongue_19 (by decide) (Or.inr nf_7_4) rfl (fun h3 => by cases h3) q15 ?_
  refine r_aload_n (pc := 18) 0 (n := 0) (by decide +kernel) rfl rfl ?_
  refine r_iconst (pc := 19) (z := 0) (by decide +kernel) ⟨by decide, by decide⟩ ?_
  obtain ⟨m20, q20, h⟩ := bnd h
  refine r_put (pc := 20) (by decide +kernel) fl_Tongue_22 (by decide) (Or.inr nf_7_5) rfl (fun h3 => by cases h3) q20 ?_
  refine r_aload_n (pc := 23) 0 (n := 0) (by decide +kernel) rfl rfl ?_
  refine r_iconst (pc := 24) (z := 1) (by decide +kernel) ⟨by decide, by decide⟩ ?_
  obtain ⟨m25, q25, h⟩ := bnd h
  refine r_put (pc := 25) (by decide +kernel) fl_Tongue_25 (by decide) (Or.inr nf_7_6) rfl (fun _ => Or.inr rfl) q25 ?_
  refine r_aload_n (pc := 28) 0 (n := 0) (by decide +kernel) rfl rfl ?_
  refine r_iconst (pc := 29) (z := 1) (by decide +kernel) ⟨by decide, by decide⟩ ?_
  obtain ⟨m30, q30, h⟩ := bnd h
  refine r_put (pc := 30) (by decide +kernel) fl_Tongue_29 (by decide) (Or.inr nf_7_7) rfl (fun _ => Or.inr rfl) q30 ?_
  obtain rfl := Option.some.inj h
  exact r_ret (pc := 33) (r := none) (by decide +kernel) rfl trivial (Nat.le_of_ble_eq_true rfl) (Nat.le_of_ble_eq_true rfl)

/-! TreeTongues.tongue(I)I -/
noncomputable def D_T_tongue (a0 a1 : Int) (M : Mem) : Option (Int × Mem) := if a1 < 1 then (some ((-2), M)) else (if a1 ≤ 5 then ((gf M a0 8 8 7).bind fun g14 => if g14 < 16 then ((gf M a0 8 8 7).bind fun g27 => (ck M a0 8 8).bind fun _ => (D_T_slot a0 g27 M).bind fun x30 => (ck x30.2 x30.1 7 8).bind fun _ => (D_Tongue_tell x30.1 a1 x30.2).bind fun x34 => (gf x34 a0 8 8 7).bind fun g39 => (pf x34 a0 8 8 7 (wr (g39 + 1))).bind fun m45 => some (g39, m45)) else (some ((-4), M))) else (some ((-2), M)))
theorem c_T_tongue {d : Nat} (hd : 4 ≤ d) {a0 a1 : Int} {M : Mem} {x : Int × Mem} (h : D_T_tongue a0 a1 M = some x) : Ct d Y_T_tongue [(2, a0), (0, a1)] M (some (0, x.1), x.2) 12 676 := by
  refine ct_of yk_T_tongue (Nat.le_of_ble_eq_true rfl) ?_
  rw [D_T_tongue] at h
  show Rn Y_T_tongue d 12 676 0 0 (some (0, x.1), x.2) 0 [(0, (2, a0)), (1, (0, a1))] [] M
  refine r_iload_n (pc := 0) 1 (n := 1) (by decide +kernel) rfl rfl ?_
  refine r_iconst (pc := 1) (z := 1) (by decide +kernel) ⟨by decide, by decide⟩ ?_
  refine r_icmp_lt (pc := 2) (off := 8) (tgt := 10) (by decide +kernel) (by decide) (fun c2 => ?_) (fun c2 => ?_)
  · have h := ite_t c2 h
    refine r_bipush (pc := 10) (z := (-2)) (by decide +kernel) ⟨by decide, by decide⟩ ?_
    obtain rfl := Option.some.inj h
    exact r_ret (pc := 12) (r := some (0, (-2))) (by decide +kernel) rfl trivial (Nat.le_of_ble_eq_true rfl) (Nat.le_of_ble_eq_true rfl)
  · have h := ite_f c2 h
    refine r_iload_n (pc := 5) 1 (n := 1) (by decide +kernel) rfl rfl ?_
    refine r_iconst (pc := 6) (z := 5) (by decide +kernel) ⟨by decide, by decide⟩ ?_
    refine r_icmp_le (pc := 7) (off := 6) (tgt := 13) (by decide +kernel) (by decide) (fun c7 => ?_) (fun c7 => ?_)
    · have h := ite_t c7 h
      refine r_aload_n (pc := 13) 0 (n := 0) (by decide +kernel) rfl rfl ?_
      obtain ⟨g14, q14, h⟩ := bnd h
      refine r_get (pc := 14) (by decide +kernel) fl_T_63.r (by decide) rfl q14 ?_
      refine r_bipush (pc := 17) (z := 16) (by decide +kernel) ⟨by decide, by decide⟩ ?_
      refine r_icmp_lt (pc := 19) (off := 6) (tgt := 25) (by decide +kernel) (by decide) (fun c19 => ?_) (fun c19 => ?_)
      · have h := ite_t c19 h
        refine r_aload_n (pc := 25) 0 (n := 0) (by decide +kernel) rfl rfl ?_
        refine r_aload_n (pc := 26) 0 (n := 0) (by decide +kernel) rfl rfl ?_
        obtain ⟨g27, q27, h⟩ := bnd h
        refine r_get (pc := 27) (by decide +kernel) fl_T_63.r (by decide) rfl q27 ?_
        obtain ⟨_, q30c, h⟩ := bnd h
        obtain ⟨x30, q30, h⟩ := bnd h
        refine r_callV (pc := 30) (i := 91) (d2 := d - 1) (As := [(0, g27)]) (st := []) (st1 := [(0, g27), (2, a0)]) (by decide +kernel) yk_T_slot (by decide) rfl ⟨ml_T_91, vk_T_slot⟩ np_T_slot rfl (by omega) q30c (c_T_slot (d := d - 1) (by omega) q30) (Nat.le_of_ble_eq_true rfl) (Nat.le_of_ble_eq_true rfl) (Nat.le_of_ble_eq_true rfl) rfl ?_
        show Rn _ d _ _ 12 676 _ 33 [(0, (2, a0)), (1, (0, a1))] [(2, x30.1)] x30.2
        refine r_iload_n (pc := 33) 1 (n := 1) (by decide +kernel) rfl rfl ?_
        obtain ⟨_, q34c, h⟩ := bnd h
        obtain ⟨x34, q34, h⟩ := bnd h
        refine r_callV (pc := 34) (i := 95) (d2 := d - 1) (As := [(0, a1)]) (st := []) (st1 := [(0, a1), (2, x30.1)]) (by decide +kernel) yk_Tongue_tell (by decide) rfl ⟨ml_T_95, vk_Tongue_tell⟩ np_Tongue_tell rfl (by omega) q34c (c_Tongue_tell (d := d - 1) (by omega) q34) (Nat.le_of_ble_eq_true rfl) (Nat.le_of_ble_eq_true rfl) (Nat.le_of_ble_eq_true rfl) rfl ?_
        show Rn _ d _ _ 12 676 _ 37 [(0, (2, a0)), (1, (0, a1))] [] x34
        refine r_aload_n (pc := 37) 0 (n := 0) (by decide +kernel) rfl rfl ?_
        refine r_dup (pc := 38) (by decide +kernel) rfl ?_
        obtain ⟨g39, q39, h⟩ := bnd h
        refine r_get (pc := 39) (by decide +kernel) fl_T_63.r (by decide) rfl q39 ?_
        refine r_dup_x1 (pc := 42) (by decide +kernel) rfl rfl ?_
        refine r_iconst (pc := 43) (z := 1) (by decide +kernel) ⟨by decide, by decide⟩ ?_
        refine r_iadd (pc := 44) (by decide +kernel) ?_
        obtain ⟨m45, q45, h⟩ := bnd h
        refine r_put (pc := 45) (by decide +kernel) fl_T_63 (by decide) (Or.inr nf_8_7) rfl (fun h3 => by cases h3) q45 ?_
        obtain rfl := Option.some.inj h
        exact r_ret (pc := 48) (r := some (0, g39)) (by decide +kernel) rfl trivial (Nat.le_of_ble_eq_true rfl) (Nat.le_of_ble_eq_true rfl)
      · have h := ite_f c19 h
        refine r_bipush (pc := 22) (z := (-4)) (by decide +kernel) ⟨by decide, by decide⟩ ?_
        obtain rfl := Option.some.inj h
        exact r_ret (pc := 24) (r := some (0, (-4))) (by decide +kernel) rfl trivial (Nat.le_of_ble_eq_true rfl) (Nat.le_of_ble_eq_true rfl)
    · have h := ite_f c7 h
      refine r_bipush (pc := 10) (z := (-2)) (by decide +kernel) ⟨by decide, by decide⟩ ?_
      obtain rfl := Option.some.inj h
      exact r_ret (pc := 12) (r := some (0, (-2))) (by decide +kernel) rfl trivial (Nat.le_of_ble_eq_true rfl) (Nat.le_of_ble_eq_true rfl)

/-! TreeTongues.find(I)LTreeTongues$Tongue; -/
noncomputable def D_T_find (a0 a1 : Int) (M : Mem) : Option (Int × Mem) := if a1 < 0 then (some ((-1), M)) else ((gf M a0 8 8 7).bind fun g6 => if g6 ≤ a1 then (some ((-1), M)) else (if 16 ≤ a1 then (some ((-1), M)) else ((gf M a0 8 8 2).bind fun g19 => (rd M 14 g19 a1).bind fun e23 => some (e23, M))))
theorem c_T_find {d : Nat} (hd : 1 ≤ d) {a0 a1 : Int} {M : Mem} {x : Int × Mem} (h : D_T_find a0 a1 M = some x) : Ct d Y_T_find [(2, a0), (0, a1)] M (some (2, x.1), x.2) 0 0 := by
  refine ct_of yk_T_find (Nat.le_of_ble_eq_true rfl) ?_
  rw [D_T_find] at h
  show Rn Y_T_find d 0 0 0 0 (some (2, x.1), x.2) 0 [(0, (2, a0)), (1, (0, a1))] [] M
  refine r_iload_n (pc := 0) 1 (n := 1) (by decide +kernel) rfl rfl ?_
  refine r_if_lt (pc := 1) (off := 26) (tgt := 27) (by decide +kernel) (by decide) (fun c1 => ?_) (fun c1 => ?_)
  · have h := ite_t c1 h
    refine r_null (pc := 27) (by decide +kernel) ?_
    obtain rfl := Option.some.inj h
    exact r_ret (pc := 28) (r := some (2, (-1))) (by decide +kernel) rfl trivial (Nat.le_of_ble_eq_true rfl) (Nat.le_of_ble_eq_true rfl)
  · have h := ite_f c1 h
    refine r_iload_n (pc := 4) 1 (n := 1) (by decide +kernel) rfl rfl ?_
    refine r_aload_n (pc := 5) 0 (n := 0) (by decide +kernel) rfl rfl ?_
    obtain ⟨g6, q6, h⟩ := bnd h
    refine r_get (pc := 6) (by decide +kernel) fl_T_63.r (by decide) rfl q6 ?_
    refine r_icmp_ge (pc := 9) (off := 18) (tgt := 27) (by decide +kernel) (by decide) (fun c9 => ?_) (fun c9 => ?_)
    · have h := ite_t c9 h
      refine r_null (pc := 27) (by decide +kernel) ?_
      obtain rfl := Option.some.inj h
      exact r_ret (pc := 28) (r := some (2, (-1))) (by decide +kernel) rfl trivial (Nat.le_of_ble_eq_true rfl) (Nat.le_of_ble_eq_true rfl)
    · have h := ite_f c9 h
      refine r_iload_n (pc := 12) 1 (n := 1) (by decide +kernel) rfl rfl ?_
      refine r_bipush (pc := 13) (z := 16) (by decide +kernel) ⟨by decide, by decide⟩ ?_
      refine r_icmp_ge (pc := 15) (off := 12) (tgt := 27) (by decide +kernel) (by decide) (fun c15 => ?_) (fun c15 => ?_)
      · have h := ite_t c15 h
        refine r_null (pc := 27) (by decide +kernel) ?_
        obtain rfl := Option.some.inj h
        exact r_ret (pc := 28) (r := some (2, (-1))) (by decide +kernel) rfl trivial (Nat.le_of_ble_eq_true rfl) (Nat.le_of_ble_eq_true rfl)
      · have h := ite_f c15 h
        refine r_aload_n (pc := 18) 0 (n := 0) (by decide +kernel) rfl rfl ?_
        obtain ⟨g19, q19, h⟩ := bnd h
        refine r_get (pc := 19) (by decide +kernel) fl_T_27.r (by decide) rfl q19 ?_
        refine r_iload_n (pc := 22) 1 (n := 1) (by decide +kernel) rfl rfl ?_
        obtain ⟨e23, q23, h⟩ := bnd h
        refine r_aald (pc := 23) (by decide) (by decide +kernel) q23 ?_
        refine r_goto (pc := 24) (off := 4) (tgt := 28) (by decide +kernel) (by decide) ?_
        obtain rfl := Option.some.inj h
        exact r_ret (pc := 28) (r := some (2, e23)) (by decide +kernel) rfl trivial (Nat.le_of_ble_eq_true rfl) (Nat.le_of_ble_eq_true rfl)

/-! TreeTongues$Tongue.hasState(I)Z -/
noncomputable def D_Tongue_hasState (a0 a1 : Int) (M : Mem) : Option (Int × Mem) := if a1 < 0 then (some (0, M)) else ((gf M a0 7 8 3).bind fun g6 => if g6 ≤ a1 then (some (0, M)) else (some (1, M)))
theorem c_Tongue_hasState {d : Nat} (hd : 1 ≤ d) {a0 a1 : Int} {M : Mem} {x : Int × Mem} (h : D_Tongue_hasState a0 a1 M = some x) : Ct d Y_Tongue_hasState [(2, a0), (0, a1)] M (some (0, x.1), x.2) 0 0 := by
  refine ct_of yk_Tongue_hasState (Nat.le_of_ble_eq_true rfl) ?_
  rw [D_Tongue_hasState] at h
  show Rn Y_Tongue_hasState d 0 0 0 0 (some (0, x.1), x.2) 0 [(0, (2, a0)), (1, (0, a1))] [] M
  refine r_iload_n (pc := 0) 1 (n := 1) (by decide +kernel) rfl rfl ?_
  refine r_if_lt (pc := 1) (off := 15) (tgt := 16) (by decide +kernel) (by decide) (fun c1 => ?_) (fun c1 => ?_)
  · have h := ite_t c1 h
    refine r_iconst (pc := 16) (z := 0) (by decide +kernel) ⟨by decide, by decide⟩ ?_
    obtain rfl := Option.some.inj h
    exact r_ret (pc := 17) (r := some (0, 0)) (by decide +kernel) rfl (Or.inl rfl) (Nat.le_of_ble_eq_true rfl) (Nat.le_of_ble_eq_true rfl)
  · have h := ite_f c1 h
    refine r_iload_n (pc := 4) 1 (n := 1) (by decide +kernel) rfl rfl ?_
    refine r_aload_n (pc := 5) 0 (n := 0) (by decide +kernel) rfl rfl ?_
    obtain ⟨g6, q6, h⟩ := bnd h
    refine r_get (pc := 6) (by decide +kernel) fl_Tongue_15.r (by decide) rfl q6 ?_
    refine r_icmp_ge (pc := 9) (off := 7) (tgt := 16) (by decide +kernel) (by decide) (fun c9 => ?_) (fun c9 => ?_)
    · have h := ite_t c9 h
      refine r_iconst (pc := 16) (z := 0) (by decide +kernel) ⟨by decide, by decide⟩ ?_
      obtain rfl := Option.some.inj h
      exact r_ret (pc := 17) (r := some (0, 0)) (by decide +kernel) rfl (Or.inl rfl) (Nat.le_of_ble_eq_true rfl) (Nat.le_of_ble_eq_true rfl)
    · have h := ite_f c9 h
      refine r_iconst (pc := 12) (z := 1) (by decide +kernel) ⟨by decide, by decide⟩ ?_
      refine r_goto (pc := 13) (off := 4) (tgt := 17) (by decide +kernel) (by decide) ?_
      obtain rfl := Option.some.inj h
      exact r_ret (pc := 17) (r := some (0, 1)) (by decide +kernel) rfl (Or.inr rfl) (Nat.le_of_ble_eq_true rfl) (Nat.le_of_ble_eq_true rfl)

/-! TreeTongues$Signs.cell(IIII)I -/
noncomputable def D_Signs_cell (a0 a1 a2 a3 a4 : Int) (M : Mem) : Option (Int × Mem) := (ck M a0 5 3).bind fun _ => (D_Signs_rankOf a0 a1 M).bind fun x2 => (if x2.1 ≤ 0 then (some 0) else (some a2)).bind fun (t13 : Int) => (if x2.1 ≤ 1 then (some 0) else (some a3)).bind fun (t28 : Int) => some (wr ((wr ((wr ((wr (a1 * a4)) + t13)) * a4)) + t28), x2.2)
theorem c_Signs_cell {d : Nat} (hd : 2 ≤ d) {a0 a1 a2 a3 a4 : Int} {M : Mem} {x : Int × Mem} (h : D_Signs_cell a0 a1 a2 a3 a4 M = some x) : Ct d Y_Signs_cell [(2, a0), (0, a1), (0, a2), (0, a3), (0, a4)] M (some (0, x.1), x.2) 0 0 := by
  refine ct_of yk_Signs_cell (Nat.le_of_ble_eq_true rfl) ?_
  rw [D_Signs_cell] at h
  show Rn Y_Signs_cell d 0 0 0 0 (some (0, x.1), x.2) 0 [(0, (2, a0)), (1, (0, a1)), (2, (0, a2)), (3, (0, a3)), (4, (0, a4))] [] M
  refine r_aload_n (pc := 0) 0 (n := 0) (by decide +kernel) rfl rfl ?_
  refine r_iload_n (pc := 1) 1 (n := 1) (by decide +kernel) rfl rfl ?_
  obtain ⟨_, q2c, h⟩ := bnd h
  obtain ⟨x2, q2, h⟩ := bnd h
  refine r_callV (pc := 2) (i := 23) (d2 := d - 1) (As := [(0, a1)]) (st := []) (st1 := [(0, a1), (2, a0)]) (by decide +kernel) yk_Signs_rankOf (by decide) rfl ⟨ml_Signs_23, vk_Signs_rankOf⟩ np_Signs_rankOf rfl (by omega) q2c (c_Signs_rankOf (d := d - 1) (by omega) q2) (Nat.le_of_ble_eq_true rfl) (Nat.le_of_ble_eq_true rfl) (Nat.le_of_ble_eq_true rfl) rfl ?_
  show Rn _ d _ _ 0 0 _ 5 [(0, (2, a0)), (1, (0, a1)), (2, (0, a2)), (3, (0, a3)), (4, (0, a4))] [(0, x2.1)] x2.2
  refine r_istore (pc := 5) (lv' := [(5, (0, x2.1)), (0, (2, a0)), (1, (0, a1)), (2, (0, a2)), (3, (0, a3)), (4, (0, a4))]) (by decide +kernel) (Nat.le_of_ble_eq_true rfl) rfl ?_
  refine r_iload_n (pc := 7) 2 (n := 1) (by decide +kernel) rfl rfl ?_
  refine r_iload (pc := 8) 5 (by decide +kernel) rfl ?_
  refine r_imul (pc := 10) (by decide +kernel) ?_
  refine r_iload (pc := 11) 0 (by decide +kernel) rfl ?_
  obtain ⟨t13, ht13, h⟩ := bnd h
  have E13_0 : Rn Y_Signs_cell d 0 0 0 0 (some (0, x.1), x.2) 21 [(3, (0, a3)), (4, (0, a4)), (5, (0, x2.1))] [(0, t13), (0, wr (a1 * a4))] x2.2 := by
    refine r_iadd (pc := 21) (by decide +kernel) ?_
    refine r_iload (pc := 22) 1 (by decide +kernel) rfl ?_
    refine r_imul (pc := 24) (by decide +kernel) ?_
    refine r_iload (pc := 25) 2 (by decide +kernel) rfl ?_
    refine r_iconst (pc := 27) (z := 1) (by decide +kernel) ⟨by decide, by decide⟩ ?_
    obtain ⟨t28, ht28, h⟩ := bnd h
    have E28_0 : Rn Y_Signs_cell d 0 0 0 0 (some (0, x.1), x.2) 36 [] [(0, t28), (0, wr ((wr ((wr (a1 * a4)) + t13)) * a4))] x2.2 := by
      refine r_iadd (pc := 36) (by decide +kernel) ?_
      obtain rfl := Option.some.inj h
      exact r_ret (pc := 37) (r := some (0, wr ((wr ((wr ((wr (a1 * a4)) + t13)) * a4)) + t28))) (by decide +kernel) rfl trivial (Nat.le_of_ble_eq_true rfl) (Nat.le_of_ble_eq_true rfl)
    refine r_icmp_le (pc := 28) (off := 7) (tgt := 35) (by decide +kernel) (by decide) (fun c28 => ?_) (fun c28 => ?_)
    · have ht28 := ite_t c28 ht28
      refine r_iconst (pc := 35) (z := 0) (by decide +kernel) ⟨by decide, by decide⟩ ?_
      obtain rfl := Option.some.inj ht28
      refine r_lv [] rfl ?_
      exact E28_0
    · have ht28 := ite_f c28 ht28
      refine r_iload_n (pc := 31) 0 (n := 3) (by decide +kernel) rfl rfl ?_
      refine r_goto (pc := 32) (off := 4) (tgt := 36) (by decide +kernel) (by decide) ?_
      obtain rfl := Option.some.inj ht28
      refine r_lv [] rfl ?_
      exact E28_0
  refine r_if_le (pc := 13) (off := 7) (tgt := 20) (by decide +kernel) (by decide) (fun c13 => ?_) (fun c13 => ?_)
  · have ht13 := ite_t c13 ht13
    refine r_iconst (pc := 20) (z := 0) (by decide +kernel) ⟨by decide, by decide⟩ ?_
    obtain rfl := Option.some.inj ht13
    refine r_lv [4, 5, 0] rfl ?_
    exact E13_0
  · have ht13 := ite_f c13 ht13
    refine r_iload_n (pc := 16) 3 (n := 2) (by decide +kernel) rfl rfl ?_
    refine r_goto (pc := 17) (off := 4) (tgt := 21) (by decide +kernel) (by decide) ?_
    obtain rfl := Option.some.inj ht13
    refine r_lv [4, 5, 0] rfl ?_
    exact E13_0

/-! TreeTongues$Tongue.addRule(IIII)V -/
noncomputable def D_Tongue_addRule (a0 a1 a2 a3 a4 : Int) (M : Mem) : Option (Mem) := (gf M a0 7 8 2).bind fun g1 => (gf M a0 7 8 0).bind fun g5 => (ck M g5 5 3).bind fun _ => (D_Signs_cell g5 a1 a2 a3 5 M).bind fun x12 => (rd x12.2 10 g1 x12.1).bind fun e16 => (wt x12.2 10 g1 x12.1 (ior e16 (ishl 1 a4))).bind fun m22 => (gf m22 a0 7 8 4).bind fun g25 => (pf m22 a0 7 8 4 (wr (g25 + 1))).bind fun m30 => (pf m30 a0 7 8 7 1).bind fun m35 => some m35
theorem c_Tongue_addRule {d : Nat} (hd : 3 ≤ d) {a0 a1 a2 a3 a4 : Int} {M : Mem} {x : Mem} (h : D_Tongue_addRule a0 a1 a2 a3 a4 M = some x) : Ct d Y_Tongue_addRule [(2, a0), (0, a1), (0, a2), (0, a3), (0, a4)] M (none, x) 0 0 := by
  refine ct_of yk_Tongue_addRule (Nat.le_of_ble_eq_true rfl) ?_
  rw [D_Tongue_addRule] at h
  show Rn Y_Tongue_addRule d 0 0 0 0 (none, x) 0 [(0, (2, a0)), (1, (0, a1)), (2, (0, a2)), (3, (0, a3)), (4, (0, a4))] [] M
  refine r_aload_n (pc := 0) 0 (n := 0) (by decide +kernel) rfl rfl ?_
  obtain ⟨g1, q1, h⟩ := bnd h
  refine r_get (pc := 1) (by decide +kernel) fl_Tongue_9.r (by decide) rfl q1 ?_
  refine r_aload_n (pc := 4) 0 (n := 0) (by decide +kernel) rfl rfl ?_
  obtain ⟨g5, q5, h⟩ := bnd h
  refine r_get (pc := 5) (by decide +kernel) fl_Tongue_32.r (by decide) rfl q5 ?_
  refine r_iload_n (pc := 8) 1 (n := 1) (by decide +kernel) rfl rfl ?_
  refine r_iload_n (pc := 9) 2 (n := 2) (by decide +kernel) rfl rfl ?_
  refine r_iload_n (pc := 10) 3 (n := 3) (by decide +kernel) rfl rfl ?_
  refine r_iconst (pc := 11) (z := 5) (by decide +kernel) ⟨by decide, by decide⟩ ?_
  obtain ⟨_, q12c, h⟩ := bnd h
  obtain ⟨x12, q12, h⟩ := bnd h
  refine r_callV (pc := 12) (i := 51) (d2 := d - 1) (As := [(0, a1), (0, a2), (0, a3), (0, 5)]) (st := [(2, g1)]) (st1 := [(0, 5), (0, a3), (0, a2), (0, a1), (2, g5), (2, g1)]) (by decide +kernel) yk_Signs_cell (by decide) rfl ⟨ml_Tongue_51, vk_Signs_cell⟩ np_Signs_cell rfl (by omega) q12c (c_Signs_cell (d := d - 1) (by omega) q12) (Nat.le_of_ble_eq_true rfl) (Nat.le_of_ble_eq_true rfl) (Nat.le_of_ble_eq_true rfl) rfl ?_
  show Rn _ d _ _ 0 0 _ 15 [(0, (2, a0)), (1, (0, a1)), (2, (0, a2)), (3, (0, a3)), (4, (0, a4))] [(0, x12.1), (2, g1)] x12.2
  refine r_dup2 (pc := 15) (by decide +kernel) rfl rfl ?_
  obtain ⟨e16, q16, h⟩ := bnd h
  refine r_iald (pc := 16) (by decide +kernel) q16 ?_
  refine r_iconst (pc := 17) (z := 1) (by decide +kernel) ⟨by decide, by decide⟩ ?_
  refine r_iload (pc := 18) 4 (by decide +kernel) rfl ?_
  refine r_ishl (pc := 20) (by decide +kernel) ?_
  refine r_ior (pc := 21) (by decide +kernel) ?_
  obtain ⟨m22, q22, h⟩ := bnd h
  refine r_iast (pc := 22) (by decide +kernel) q22 ?_
  refine r_aload_n (pc := 23) 0 (n := 0) (by decide +kernel) rfl rfl ?_
  refine r_dup (pc := 24) (by decide +kernel) rfl ?_
  obtain ⟨g25, q25, h⟩ := bnd h
  refine r_get (pc := 25) (by decide +kernel) fl_Tongue_19.r (by decide) rfl q25 ?_
  refine r_iconst (pc := 28) (z := 1) (by decide +kernel) ⟨by decide, by decide⟩ ?_
  refine r_iadd (pc := 29) (by decide +kernel) ?_
  obtain ⟨m30, q30, h⟩ := bnd h
  refine r_put (pc := 30) (by decide +kernel) fl_Tongue_19 (by decide) (Or.inr nf_7_4) rfl (fun h3 => by cases h3) q30 ?_
  refine r_aload_n (pc := 33) 0 (n := 0) (by decide +kernel) rfl rfl ?_
  refine r_iconst (pc := 34) (z := 1) (by decide +kernel) ⟨by decide, by decide⟩ ?_
  obtain ⟨m35, q35, h⟩ := bnd h
  refine r_put (pc := 35) (by decide +kernel) fl_Tongue_29 (by decide) (Or.inr nf_7_7) rfl (fun _ => Or.inr rfl) q35 ?_
  obtain rfl := Option.some.inj h
  exact r_ret (pc := 38) (r := none) (by decide +kernel) rfl trivial (Nat.le_of_ble_eq_true rfl) (Nat.le_of_ble_eq_true rfl)

/-! TreeTongues.rule(IIIII)I -/
noncomputable def D_T_rule (a0 a1 a2 a3 a4 a5 : Int) (M : Mem) : Option (Int × Mem) := (ck M a0 8 8).bind fun _ => (D_T_find a0 a1 M).bind fun x2 => if x2.1 < 0 then (some ((-2), x2.2)) else ((gf x2.2 a0 8 8 0).bind fun g13 => (ck x2.2 g13 5 3).bind fun _ => (D_Signs_knows g13 a2 x2.2).bind fun x17 => if x17.1 = 0 then (some ((-2), x17.2)) else ((gf x17.2 x2.1 7 8 6).bind fun g28 => if g28 = 0 then (some ((-3), x17.2)) else ((gf x17.2 a0 8 8 0).bind fun g38 => (ck x17.2 g38 5 3).bind fun _ => (D_Signs_rankOf g38 a2 x17.2).bind fun x42 => (if x42.1 ≤ 0 then (some 0) else (some a3)).bind fun (t49 : Int) => (if x42.1 ≤ 1 then (some 0) else (some a4)).bind fun (t62 : Int) => (ck x42.2 x2.1 7 8).bind fun _ => (D_Tongue_hasState x2.1 t49 x42.2).bind fun x77 => if x77.1 = 0 then (some ((-2), x77.2)) else ((ck x77.2 x2.1 7 8).bind fun _ => (D_Tongue_hasState x2.1 t62 x77.2).bind fun x87 => if x87.1 = 0 then (some ((-2), x87.2)) else ((ck x87.2 x2.1 7 8).bind fun _ => (D_Tongue_hasState x2.1 a5 x87.2).bind fun x97 => if x97.1 = 0 then (some ((-2), x97.2)) else ((gf x97.2 x2.1 7 8 4).bind fun g108 => if g108 < 40 then ((ck x97.2 x2.1 7 8).bind fun _ => (D_Tongue_addRule x2.1 a2 t49 t62 a5 x97.2).bind fun x128 => (gf x128 x2.1 7 8 4).bind fun g133 => some (g133, x128)) else (some ((-4), x97.2))))))))
theorem c_T_rule {d : Nat} (hd : 4 ≤ d) {a0 a1 a2 a3 a4 a5 : Int} {M : Mem} {x : Int × Mem} (h : D_T_rule a0 a1 a2 a3 a4 a5 M = some x) : Ct d Y_T_rule [(2, a0), (0, a1), (0, a2), (0, a3), (0, a4), (0, a5)] M (some (0, x.1), x.2) 0 0 := by
  refine ct_of yk_T_rule (Nat.le_of_ble_eq_true rfl) ?_
  rw [D_T_rule] at h
  show Rn Y_T_rule d 0 0 0 0 (some (0, x.1), x.2) 0 [(0, (2, a0)), (1, (0, a1)), (2, (0, a2)), (3, (0, a3)), (4, (0, a4)), (5, (0, a5))] [] M
  refine r_aload_n (pc := 0) 0 (n := 0) (by decide +kernel) rfl rfl ?_
  refine r_iload_n (pc := 1) 1 (n := 1) (by decide +kernel) rfl rfl ?_
  obtain ⟨_, q2c, h⟩ := bnd h
  obtain ⟨x2, q2, h⟩ := bnd h
  refine r_callV (pc := 2) (i := 98) (d2 := d - 1) (As := [(0, a1)]) (st := []) (st1 := [(0, a1), (2, a0)]) (by decide +kernel) yk_T_find (by decide) rfl ⟨ml_T_98, vk_T_find⟩ np_T_find rfl (by omega) q2c (c_T_find (d := d - 1) (by omega) q2) (Nat.le_of_ble_eq_true rfl) (Nat.le_of_ble_eq_true rfl) (Nat.le_of_ble_eq_true rfl) rfl ?_
  show Rn _ d _ _ 0 0 _ 5 [(0, (2, a0)), (1, (0, a1)), (2, (0, a2)), (3, (0, a3)), (4, (0, a4)), (5, (0, a5))] [(2, x2.1)] x2.2
  refine r_astore (pc := 5) (lv' := [(6, (2, x2.1)), (0, (2, a0)), (1, (0, a1)), (2, (0, a2)), (3, (0, a3)), (4, (0, a4)), (5, (0, a5))]) (by decide +kernel) (Nat.le_of_ble_eq_true rfl) rfl ?_
  refine r_aload (pc := 7) 0 (by decide +kernel) rfl ?_
  refine r_ifnull (pc := 9) (off := 14) (tgt := 23) (by decide +kernel) (by decide) (fun c9 => ?_) (fun c9 => ?_)
  · have h := ite_t c9 h
    refine r_bipush (pc := 23) (z := (-2)) (by decide +kernel) ⟨by decide, by decide⟩ ?_
    obtain rfl := Option.some.inj h
    exact r_ret (pc := 25) (r := some (0, (-2))) (by decide +kernel) rfl trivial (Nat.le_of_ble_eq_true rfl) (Nat.le_of_ble_eq_true rfl)
  · have h := ite_f c9 h
    refine r_aload_n (pc := 12) 1 (n := 0) (by decide +kernel) rfl rfl ?_
    obtain ⟨g13, q13, h⟩ := bnd h
    refine r_get (pc := 13) (by decide +kernel) fl_T_12.r (by decide) rfl q13 ?_
    refine r_iload_n (pc := 16) 3 (n := 2) (by decide +kernel) rfl rfl ?_
    obtain ⟨_, q17c, h⟩ := bnd h
    obtain ⟨x17, q17, h⟩ := bnd h
    refine r_callV (pc := 17) (i := 74) (d2 := d - 1) (As := [(0, a2)]) (st := []) (st1 := [(0, a2), (2, g13)]) (by decide +kernel) yk_Signs_knows (by decide) rfl ⟨ml_T_74, vk_Signs_knows⟩ np_Signs_knows rfl (by omega) q17c (c_Signs_knows (d := d - 1) (by omega) q17) (Nat.le_of_ble_eq_true rfl) (Nat.le_of_ble_eq_true rfl) (Nat.le_of_ble_eq_true rfl) rfl ?_
    show Rn _ d _ _ 0 0 _ 20 [(6, (2, x2.1)), (0, (2, a0)), (1, (0, a1)), (2, (0, a2)), (3, (0, a3)), (4, (0, a4)), (5, (0, a5))] [(0, x17.1)] x17.2
    refine r_if_ne (pc := 20) (off := 6) (tgt := 26) (by decide +kernel) (by decide) (fun c20 => ?_) (fun c20 => ?_)
    · have h := ite_f c20 h
      refine r_aload (pc := 26) 0 (by decide +kernel) rfl ?_
      obtain ⟨g28, q28, h⟩ := bnd h
      refine r_get (pc := 28) (by decide +kernel) fl_T_101.r (by decide) rfl q28 ?_
      refine r_if_ne (pc := 31) (off := 6) (tgt := 37) (by decide +kernel) (by decide) (fun c31 => ?_) (fun c31 => ?_)
      · have h := ite_f c31 h
        refine r_aload_n (pc := 37) 1 (n := 0) (by decide +kernel) rfl rfl ?_
        obtain ⟨g38, q38, h⟩ := bnd h
        refine r_get (pc := 38) (by decide +kernel) fl_T_12.r (by decide) rfl q38 ?_
        refine r_iload_n (pc := 41) 3 (n := 2) (by decide +kernel) rfl rfl ?_
        obtain ⟨_, q42c, h⟩ := bnd h
        obtain ⟨x42, q42, h⟩ := bnd h
        refine r_callV (pc := 42) (i := 78) (d2 := d - 1) (As := [(0, a2)]) (st := []) (st1 := [(0, a2), (2, g38)]) (by decide +kernel) yk_Signs_rankOf (by decide) rfl ⟨ml_T_78, vk_Signs_rankOf⟩ np_Signs_rankOf rfl (by omega) q42c (c_Signs_rankOf (d := d - 1) (by omega) q42) (Nat.le_of_ble_eq_true rfl) (Nat.le_of_ble_eq_true rfl) (Nat.le_of_ble_eq_true rfl) rfl ?_
        show Rn _ d _ _ 0 0 _ 45 [(6, (2, x2.1)), (0, (2, a0)), (1, (0, a1)), (2, (0, a2)), (3, (0, a3)), (4, (0, a4)), (5, (0, a5))] [(0, x42.1)] x42.2
        refine r_istore (pc := 45) (lv' := [(7, (0, x42.1)), (6, (2, x2.1)), (0, (2, a0)), (1, (0, a1)), (2, (0, a2)), (3, (0, a3)), (4, (0, a4)), (5, (0, a5))]) (by decide +kernel) (Nat.le_of_ble_eq_true rfl) rfl ?_
        refine r_iload (pc := 47) 0 (by decide +kernel) rfl ?_
        obtain ⟨t49, ht49, h⟩ := bnd h
        have E49_0 : Rn Y_T_rule d 0 0 0 0 (some (0, x.1), x.2) 57 [(2, (0, a2)), (4, (0, a4)), (5, (0, a5)), (6, (2, x2.1)), (7, (0, x42.1))] [(0, t49)] x42.2 := by
          refine r_istore (pc := 57) (lv' := [(8, (0, t49)), (2, (0, a2)), (4, (0, a4)), (5, (0, a5)), (6, (2, x2.1)), (7, (0, x42.1))]) (by decide +kernel) (Nat.le_of_ble_eq_true rfl) rfl ?_
          refine r_iload (pc := 59) 5 (by decide +kernel) rfl ?_
          refine r_iconst (pc := 61) (z := 1) (by decide +kernel) ⟨by decide, by decide⟩ ?_
          obtain ⟨t62, ht62, h⟩ := bnd h
          have E62_0 : Rn Y_T_rule d 0 0 0 0 (some (0, x.1), x.2) 71 [(2, (0, a2)), (5, (0, a5)), (6, (2, x2.1)), (8, (0, t49))] [(0, t62)] x42.2 := by
            refine r_istore (pc := 71) (lv' := [(9, (0, t62)), (2, (0, a2)), (5, (0, a5)), (6, (2, x2.1)), (8, (0, t49))]) (by decide +kernel) (Nat.le_of_ble_eq_true rfl) rfl ?_
            refine r_aload (pc := 73) 3 (by decide +kernel) rfl ?_
            refine r_iload (pc := 75) 4 (by decide +kernel) rfl ?_
            obtain ⟨_, q77c, h⟩ := bnd h
            obtain ⟨x77, q77, h⟩ := bnd h
            refine r_callV (pc := 77) (i := 105) (d2 := d - 1) (As := [(0, t49)]) (st := []) (st1 := [(0, t49), (2, x2.1)]) (by decide +kernel) yk_Tongue_hasState (by decide) rfl ⟨ml_T_105, vk_Tongue_hasState⟩ np_Tongue_hasState rfl (by omega) q77c (c_Tongue_hasState (d := d - 1) (by omega) q77) (Nat.le_of_ble_eq_true rfl) (Nat.le_of_ble_eq_true rfl) (Nat.le_of_ble_eq_true rfl) rfl ?_
            show Rn _ d _ _ 0 0 _ 80 [(9, (0, t62)), (2, (0, a2)), (5, (0, a5)), (6, (2, x2.1)), (8, (0, t49))] [(0, x77.1)] x77.2
            refine r_if_eq (pc := 80) (off := 23) (tgt := 103) (by decide +kernel) (by decide) (fun c80 => ?_) (fun c80 => ?_)
            · have h := ite_t c80 h
              refine r_bipush (pc := 103) (z := (-2)) (by decide +kernel) ⟨by decide, by decide⟩ ?_
              obtain rfl := Option.some.inj h
              exact r_ret (pc := 105) (r := some (0, (-2))) (by decide +kernel) rfl trivial (Nat.le_of_ble_eq_true rfl) (Nat.le_of_ble_eq_true rfl)
            · have h := ite_f c80 h
              refine r_aload (pc := 83) 3 (by decide +kernel) rfl ?_
              refine r_iload (pc := 85) 0 (by decide +kernel) rfl ?_
              obtain ⟨_, q87c, h⟩ := bnd h
              obtain ⟨x87, q87, h⟩ := bnd h
              refine r_callV (pc := 87) (i := 105) (d2 := d - 1) (As := [(0, t62)]) (st := []) (st1 := [(0, t62), (2, x2.1)]) (by decide +kernel) yk_Tongue_hasState (by decide) rfl ⟨ml_T_105, vk_Tongue_hasState⟩ np_Tongue_hasState rfl (by omega) q87c (c_Tongue_hasState (d := d - 1) (by omega) q87) (Nat.le_of_ble_eq_true rfl) (Nat.le_of_ble_eq_true rfl) (Nat.le_of_ble_eq_true rfl) rfl ?_
              show Rn _ d _ _ 0 0 _ 90 [(9, (0, t62)), (2, (0, a2)), (5, (0, a5)), (6, (2, x2.1)), (8, (0, t49))] [(0, x87.1)] x87.2
              refine r_if_eq (pc := 90) (off := 13) (tgt := 103) (by decide +kernel) (by decide) (fun c90 => ?_) (fun c90 => ?_)
              · have h := ite_t c90 h
                refine r_bipush (pc := 103) (z := (-2)) (by decide +kernel) ⟨by decide, by decide⟩ ?_
                obtain rfl := Option.some.inj h
                exact r_ret (pc := 105) (r := some (0, (-2))) (by decide +kernel) rfl trivial (Nat.le_of_ble_eq_true rfl) (Nat.le_of_ble_eq_true rfl)
              · have h := ite_f c90 h
                refine r_aload (pc := 93) 3 (by decide +kernel) rfl ?_
                refine r_iload (pc := 95) 2 (by decide +kernel) rfl ?_
                obtain ⟨_, q97c, h⟩ := bnd h
                obtain ⟨x97, q97, h⟩ := bnd h
                refine r_callV (pc := 97) (i := 105) (d2 := d - 1) (As := [(0, a5)]) (st := []) (st1 := [(0, a5), (2, x2.1)]) (by decide +kernel) yk_Tongue_hasState (by decide) rfl ⟨ml_T_105, vk_Tongue_hasState⟩ np_Tongue_hasState rfl (by omega) q97c (c_Tongue_hasState (d := d - 1) (by omega) q97) (Nat.le_of_ble_eq_true rfl) (Nat.le_of_ble_eq_true rfl) (Nat.le_of_ble_eq_true rfl) rfl ?_
                show Rn _ d _ _ 0 0 _ 100 [(9, (0, t62)), (2, (0, a2)), (5, (0, a5)), (6, (2, x2.1)), (8, (0, t49))] [(0, x97.1)] x97.2
                refine r_if_ne (pc := 100) (off := 6) (tgt := 106) (by decide +kernel) (by decide) (fun c100 => ?_) (fun c100 => ?_)
                · have h := ite_f c100 h
                  refine r_aload (pc := 106) 3 (by decide +kernel) rfl ?_
                  obtain ⟨g108, q108, h⟩ := bnd h
                  refine r_get (pc := 108) (by decide +kernel) fl_T_108.r (by decide) rfl q108 ?_
                  refine r_bipush (pc := 111) (z := 40) (by decide +kernel) ⟨by decide, by decide⟩ ?_
                  refine r_icmp_lt (pc := 113) (off := 6) (tgt := 119) (by decide +kernel) (by decide) (fun c113 => ?_) (fun c113 => ?_)
                  · have h := ite_t c113 h
                    refine r_aload (pc := 119) 3 (by decide +kernel) rfl ?_
                    refine r_iload_n (pc := 121) 1 (n := 2) (by decide +kernel) rfl rfl ?_
                    refine r_iload (pc := 122) 4 (by decide +kernel) rfl ?_
                    refine r_iload (pc := 124) 0 (by decide +kernel) rfl ?_
                    refine r_iload (pc := 126) 2 (by decide +kernel) rfl ?_
                    obtain ⟨_, q128c, h⟩ := bnd h
                    obtain ⟨x128, q128, h⟩ := bnd h
                    refine r_callV (pc := 128) (i := 111) (d2 := d - 1) (As := [(0, a2), (0, t49), (0, t62), (0, a5)]) (st := []) (st1 := [(0, a5), (0, t62), (0, t49), (0, a2), (2, x2.1)]) (by decide +kernel) yk_Tongue_addRule (by decide) rfl ⟨ml_T_111, vk_Tongue_addRule⟩ np_Tongue_addRule rfl (by omega) q128c (c_Tongue_addRule (d := d - 1) (by omega) q128) (Nat.le_of_ble_eq_true rfl) (Nat.le_of_ble_eq_true rfl) (Nat.le_of_ble_eq_true rfl) rfl ?_
                    show Rn _ d _ _ 0 0 _ 131 [(9, (0, t62)), (2, (0, a2)), (5, (0, a5)), (6, (2, x2.1)), (8, (0, t49))] [] x128
                    refine r_aload (pc := 131) 3 (by decide +kernel) rfl ?_
                    obtain ⟨g133, q133, h⟩ := bnd h
                    refine r_get (pc := 133) (by decide +kernel) fl_T_108.r (by decide) rfl q133 ?_
                    obtain rfl := Option.some.inj h
                    exact r_ret (pc := 136) (r := some (0, g133)) (by decide +kernel) rfl trivial (Nat.le_of_ble_eq_true rfl) (Nat.le_of_ble_eq_true rfl)
                  · have h := ite_f c113 h
                    refine r_bipush (pc := 116) (z := (-4)) (by decide +kernel) ⟨by decide, by decide⟩ ?_
                    obtain rfl := Option.some.inj h
                    exact r_ret (pc := 118) (r := some (0, (-4))) (by decide +kernel) rfl trivial (Nat.le_of_ble_eq_true rfl) (Nat.le_of_ble_eq_true rfl)
                · have h := ite_t c100 h
                  refine r_bipush (pc := 103) (z := (-2)) (by decide +kernel) ⟨by decide, by decide⟩ ?_
                  obtain rfl := Option.some.inj h
                  exact r_ret (pc := 105) (r := some (0, (-2))) (by decide +kernel) rfl trivial (Nat.le_of_ble_eq_true rfl) (Nat.le_of_ble_eq_true rfl)
          refine r_icmp_le (pc := 62) (off := 8) (tgt := 70) (by decide +kernel) (by decide) (fun c62 => ?_) (fun c62 => ?_)
          · have ht62 := ite_t c62 ht62
            refine r_iconst (pc := 70) (z := 0) (by decide +kernel) ⟨by decide, by decide⟩ ?_
            obtain rfl := Option.some.inj ht62
            refine r_lv [1, 3, 4, 0] rfl ?_
            exact E62_0
          · have ht62 := ite_f c62 ht62
            refine r_iload (pc := 65) 2 (by decide +kernel) rfl ?_
            refine r_goto (pc := 67) (off := 4) (tgt := 71) (by decide +kernel) (by decide) ?_
            obtain rfl := Option.some.inj ht62
            refine r_lv [1, 3, 4, 0] rfl ?_
            exact E62_0
        refine r_if_le (pc := 49) (off := 7) (tgt := 56) (by decide +kernel) (by decide) (fun c49 => ?_) (fun c49 => ?_)
        · have ht49 := ite_t c49 ht49
          refine r_iconst (pc := 56) (z := 0) (by decide +kernel) ⟨by decide, by decide⟩ ?_
          obtain rfl := Option.some.inj ht49
          refine r_lv [4, 6, 7, 1, 0] rfl ?_
          exact E49_0
        · have ht49 := ite_f c49 ht49
          refine r_iload_n (pc := 52) 5 (n := 3) (by decide +kernel) rfl rfl ?_
          refine r_goto (pc := 53) (off := 4) (tgt := 57) (by decide +kernel) (by decide) ?_
          obtain rfl := Option.some.inj ht49
          refine r_lv [4, 6, 7, 1, 0] rfl ?_
          exact E49_0
      · have h := ite_t c31 h
        refine r_bipush (pc := 34) (z := (-3)) (by decide +kernel) ⟨by decide, by decide⟩ ?_
        obtain rfl := Option.some.inj h
        exact r_ret (pc := 36) (r := some (0, (-3))) (by decide +kernel) rfl trivial (Nat.le_of_ble_eq_true rfl) (Nat.le_of_ble_eq_true rfl)
    · have h := ite_t c20 h
      refine r_bipush (pc := 23) (z := (-2)) (by decide +kernel) ⟨by decide, by decide⟩ ?_
      obtain rfl := Option.some.inj h
      exact r_ret (pc := 25) (r := some (0, (-2))) (by decide +kernel) rfl trivial (Nat.le_of_ble_eq_true rfl) (Nat.le_of_ble_eq_true rfl)

/-! TreeTongues$Tongue.setFinal(IZ)I -/
noncomputable def D_Tongue_setFinal (a0 a1 a2 : Int) (M : Mem) : Option (Int × Mem) := (gf M a0 7 8 5).bind fun g1 => lt (iand (ishr g1 a1) 1) fun u3_8 => (if a2 = 0 then ((gf M a0 7 8 5).bind fun g26 => some (iand g26 (ixor (ishl 1 a1) (-1)))) else ((gf M a0 7 8 5).bind fun g15 => some (ior g15 (ishl 1 a1)))).bind fun (t11 : Int) => (pf M a0 7 8 5 t11).bind fun m35 => (pf m35 a0 7 8 7 1).bind fun m40 => some (u3_8, m40)
theorem c_Tongue_setFinal {d : Nat} (hd : 1 ≤ d) {a0 a1 a2 : Int} {M : Mem} {x : Int × Mem} (h : D_Tongue_setFinal a0 a1 a2 M = some x) : Ct d Y_Tongue_setFinal [(2, a0), (0, a1), (0, a2)] M (some (0, x.1), x.2) 0 0 := by
  refine ct_of yk_Tongue_setFinal (Nat.le_of_ble_eq_true rfl) ?_
  rw [D_Tongue_setFinal] at h
  show Rn Y_Tongue_setFinal d 0 0 0 0 (some (0, x.1), x.2) 0 [(0, (2, a0)), (1, (0, a1)), (2, (0, a2))] [] M
  refine r_aload_n (pc := 0) 0 (n := 0) (by decide +kernel) rfl rfl ?_
  obtain ⟨g1, q1, h⟩ := bnd h
  refine r_get (pc := 1) (by decide +kernel) fl_Tongue_22.r (by decide) rfl q1 ?_
  refine r_iload_n (pc := 4) 1 (n := 1) (by decide +kernel) rfl rfl ?_
  refine r_ishr (pc := 5) (by decide +kernel) ?_
  refine r_iconst (pc := 6) (z := 1) (by decide +kernel) ⟨by decide, by decide⟩ ?_
  refine r_iand (pc := 7) (by decide +kernel) ?_
  obtain ⟨u3_8, q8, h⟩ := lt_o h
  refine r_eq q8 ?_
  refine r_istore_n (pc := 8) (n := 3) (lv' := [(3, (0, u3_8)), (0, (2, a0)), (1, (0, a1)), (2, (0, a2))]) (by decide +kernel) rfl (Nat.le_of_ble_eq_true rfl) rfl ?_
  refine r_aload_n (pc := 9) 1 (n := 0) (by decide +kernel) rfl rfl ?_
  refine r_iload_n (pc := 10) 3 (n := 2) (by decide +kernel) rfl rfl ?_
  obtain ⟨t11, ht11, h⟩ := bnd h
  have E11_0 : Rn Y_Tongue_setFinal d 0 0 0 0 (some (0, x.1), x.2) 35 [(0, (2, a0)), (3, (0, u3_8))] [(0, t11), (2, a0)] M := by
    obtain ⟨m35, q35, h⟩ := bnd h
    refine r_put (pc := 35) (by decide +kernel) fl_Tongue_22 (by decide) (Or.inr nf_7_5) rfl (fun h3 => by cases h3) q35 ?_
    refine r_aload_n (pc := 38) 0 (n := 0) (by decide +kernel) rfl rfl ?_
    refine r_iconst (pc := 39) (z := 1) (by decide +kernel) ⟨by decide, by decide⟩ ?_
    obtain ⟨m40, q40, h⟩ := bnd h
    refine r_put (pc := 40) (by decide +kernel) fl_Tongue_29 (by decide) (Or.inr nf_7_7) rfl (fun _ => Or.inr rfl) q40 ?_
    refine r_iload_n (pc := 43) 1 (n := 3) (by decide +kernel) rfl rfl ?_
    obtain rfl := Option.some.inj h
    exact r_ret (pc := 44) (r := some (0, u3_8)) (by decide +kernel) rfl trivial (Nat.le_of_ble_eq_true rfl) (Nat.le_of_ble_eq_true rfl)
  refine r_if_eq (pc := 11) (off := 14) (tgt := 25) (by decide +kernel) (by decide) (fun c11 => ?_) (fun c11 => ?_)
  · have ht11 := ite_t c11 ht11
    refine r_aload_n (pc := 25) 1 (n := 0) (by decide +kernel) rfl rfl ?_
    obtain ⟨g26, q26, ht11⟩ := bnd ht11
    refine r_get (pc := 26) (by decide +kernel) fl_Tongue_22.r (by decide) rfl q26 ?_
    refine r_iconst (pc := 29) (z := 1) (by decide +kernel) ⟨by decide, by decide⟩ ?_
    refine r_iload_n (pc := 30) 2 (n := 1) (by decide +kernel) rfl rfl ?_
    refine r_ishl (pc := 31) (by decide +kernel) ?_
    refine r_iconst (pc := 32) (z := (-1)) (by decide +kernel) ⟨by decide, by decide⟩ ?_
    refine r_ixor (pc := 33) (by decide +kernel) ?_
    refine r_iand (pc := 34) (by decide +kernel) ?_
    obtain rfl := Option.some.inj ht11
    refine r_lv [1, 0] rfl ?_
    exact E11_0
  · have ht11 := ite_f c11 ht11
    refine r_aload_n (pc := 14) 1 (n := 0) (by decide +kernel) rfl rfl ?_
    obtain ⟨g15, q15, ht11⟩ := bnd ht11
    refine r_get (pc := 15) (by decide +kernel) fl_Tongue_22.r (by decide) rfl q15 ?_
    refine r_iconst (pc := 18) (z := 1) (by decide +kernel) ⟨by decide, by decide⟩ ?_
    refine r_iload_n (pc := 19) 2 (n := 1) (by decide +kernel) rfl rfl ?_
    refine r_ishl (pc := 20) (by decide +kernel) ?_
    refine r_ior (pc := 21) (by decide +kernel) ?_
    refine r_goto (pc := 22) (off := 13) (tgt := 35) (by decide +kernel) (by decide) ?_
    obtain rfl := Option.some.inj ht11
    refine r_lv [1, 0] rfl ?_
    exact E11_0

/-! TreeTongues.last(IIZ)I -/
noncomputable def D_T_last (a0 a1 a2 a3 : Int) (M : Mem) : Option (Int × Mem) := (ck M a0 8 8).bind fun _ => (D_T_find a0 a1 M).bind fun x2 => if x2.1 < 0 then (some ((-2), x2.2)) else ((gf x2.2 x2.1 7 8 6).bind fun g17 => if g17 = 0 then (some ((-3), x2.2)) else ((ck x2.2 x2.1 7 8).bind fun _ => (D_Tongue_hasState x2.1 a2 x2.2).bind fun x29 => if x29.1 = 0 then (some ((-2), x29.2)) else ((ck x29.2 x2.1 7 8).bind fun _ => (D_Tongue_setFinal x2.1 a2 a3 x29.2).bind fun x39 => some (x39.1, x39.2))))
theorem c_T_last {d : Nat} (hd : 2 ≤ d) {a0 a1 a2 a3 : Int} {M : Mem} {x : Int × Mem} (h : D_T_last a0 a1 a2 a3 M = some x) : Ct d Y_T_last [(2, a0), (0, a1), (0, a2), (0, a3)] M (some (0, x.1), x.2) 0 0 := by
  refine ct_of yk_T_last (Nat.le_of_ble_eq_true rfl) ?_
  rw [D_T_last] at h
  show Rn Y_T_last d 0 0 0 0 (some (0, x.1), x.2) 0 [(0, (2, a0)), (1, (0, a1)), (2, (0, a2)), (3, (0, a3))] [] M
  refine r_aload_n (pc := 0) 0 (n := 0) (by decide +kernel) rfl rfl ?_
  refine r_iload_n (pc := 1) 1 (n := 1) (by decide +kernel) rfl rfl ?_
  obtain ⟨_, q2c, h⟩ := bnd h
  obtain ⟨x2, q2, h⟩ := bnd h
  refine r_callV (pc := 2) (i := 98) (d2 := d - 1) (As := [(0, a1)]) (st := []) (st1 := [(0, a1), (2, a0)]) (by decide +kernel) yk_T_find (by decide) rfl ⟨ml_T_98, vk_T_find⟩ np_T_find rfl (by omega) q2c (c_T_find (d := d - 1) (by omega) q2) (Nat.le_of_ble_eq_true rfl) (Nat.le_of_ble_eq_true rfl) (Nat.le_of_ble_eq_true rfl) rfl ?_
  show Rn _ d _ _ 0 0 _ 5 [(0, (2, a0)), (1, (0, a1)), (2, (0, a2)), (3, (0, a3))] [(2, x2.1)] x2.2
  refine r_astore (pc := 5) (lv' := [(4, (2, x2.1)), (0, (2, a0)), (1, (0, a1)), (2, (0, a2)), (3, (0, a3))]) (by decide +kernel) (Nat.le_of_ble_eq_true rfl) rfl ?_
  refine r_aload (pc := 7) 0 (by decide +kernel) rfl ?_
  refine r_ifnonnull (pc := 9) (off := 6) (tgt := 15) (by decide +kernel) (by decide) (fun c9 => ?_) (fun c9 => ?_)
  · have h := ite_f c9 h
    refine r_aload (pc := 15) 0 (by decide +kernel) rfl ?_
    obtain ⟨g17, q17, h⟩ := bnd h
    refine r_get (pc := 17) (by decide +kernel) fl_T_101.r (by decide) rfl q17 ?_
    refine r_if_ne (pc := 20) (off := 6) (tgt := 26) (by decide +kernel) (by decide) (fun c20 => ?_) (fun c20 => ?_)
    · have h := ite_f c20 h
      refine r_aload (pc := 26) 0 (by decide +kernel) rfl ?_
      refine r_iload_n (pc := 28) 3 (n := 2) (by decide +kernel) rfl rfl ?_
      obtain ⟨_, q29c, h⟩ := bnd h
      obtain ⟨x29, q29, h⟩ := bnd h
      refine r_callV (pc := 29) (i := 105) (d2 := d - 1) (As := [(0, a2)]) (st := []) (st1 := [(0, a2), (2, x2.1)]) (by decide +kernel) yk_Tongue_hasState (by decide) rfl ⟨ml_T_105, vk_Tongue_hasState⟩ np_Tongue_hasState rfl (by omega) q29c (c_Tongue_hasState (d := d - 1) (by omega) q29) (Nat.le_of_ble_eq_true rfl) (Nat.le_of_ble_eq_true rfl) (Nat.le_of_ble_eq_true rfl) rfl ?_
      show Rn _ d _ _ 0 0 _ 32 [(4, (2, x2.1)), (0, (2, a0)), (1, (0, a1)), (2, (0, a2)), (3, (0, a3))] [(0, x29.1)] x29.2
      refine r_if_eq (pc := 32) (off := 13) (tgt := 45) (by decide +kernel) (by decide) (fun c32 => ?_) (fun c32 => ?_)
      · have h := ite_t c32 h
        refine r_bipush (pc := 45) (z := (-2)) (by decide +kernel) ⟨by decide, by decide⟩ ?_
        obtain rfl := Option.some.inj h
        exact r_ret (pc := 47) (r := some (0, (-2))) (by decide +kernel) rfl trivial (Nat.le_of_ble_eq_true rfl) (Nat.le_of_ble_eq_true rfl)
      · have h := ite_f c32 h
        refine r_aload (pc := 35) 0 (by decide +kernel) rfl ?_
        refine r_iload_n (pc := 37) 3 (n := 2) (by decide +kernel) rfl rfl ?_
        refine r_iload_n (pc := 38) 4 (n := 3) (by decide +kernel) rfl rfl ?_
        obtain ⟨_, q39c, h⟩ := bnd h
        obtain ⟨x39, q39, h⟩ := bnd h
        refine r_callV (pc := 39) (i := 115) (d2 := d - 1) (As := [(0, a2), (0, a3)]) (st := []) (st1 := [(0, a3), (0, a2), (2, x2.1)]) (by decide +kernel) yk_Tongue_setFinal (by decide) rfl ⟨ml_T_115, vk_Tongue_setFinal⟩ np_Tongue_setFinal rfl (by omega) q39c (c_Tongue_setFinal (d := d - 1) (by omega) q39) (Nat.le_of_ble_eq_true rfl) (Nat.le_of_ble_eq_true rfl) (Nat.le_of_ble_eq_true rfl) rfl ?_
        show Rn _ d _ _ 0 0 _ 42 [(4, (2, x2.1)), (0, (2, a0)), (1, (0, a1)), (2, (0, a2)), (3, (0, a3))] [(0, x39.1)] x39.2
        refine r_goto (pc := 42) (off := 5) (tgt := 47) (by decide +kernel) (by decide) ?_
        obtain rfl := Option.some.inj h
        exact r_ret (pc := 47) (r := some (0, x39.1)) (by decide +kernel) rfl trivial (Nat.le_of_ble_eq_true rfl) (Nat.le_of_ble_eq_true rfl)
    · have h := ite_t c20 h
      refine r_bipush (pc := 23) (z := (-3)) (by decide +kernel) ⟨by decide, by decide⟩ ?_
      obtain rfl := Option.some.inj h
      exact r_ret (pc := 25) (r := some (0, (-3))) (by decide +kernel) rfl trivial (Nat.le_of_ble_eq_true rfl) (Nat.le_of_ble_eq_true rfl)
  · have h := ite_t c9 h
    refine r_bipush (pc := 12) (z := (-2)) (by decide +kernel) ⟨by decide, by decide⟩ ?_
    obtain rfl := Option.some.inj h
    exact r_ret (pc := 14) (r := some (0, (-2))) (by decide +kernel) rfl trivial (Nat.le_of_ble_eq_true rfl) (Nat.le_of_ble_eq_true rfl)

/-! TreeTongues$Net.begin(III)V -/
noncomputable def D_Net_begin (a0 a1 a2 a3 : Int) (M : Mem) : Option (Mem) := (gf M a0 2 6 1).bind fun g1 => (D_Arr_fill_IIV g1 0 M).bind fun x5 => (pf x5 a0 2 6 2 a1).bind fun m10 => (pf m10 a0 2 6 3 a2).bind fun m15 => (pf m15 a0 2 6 4 0).bind fun m20 => (pf m20 a0 2 6 5 a3).bind fun m25 => some m25
theorem c_Net_begin {d : Nat} (hd : 2 ≤ d) {a0 a1 a2 a3 : Int} {M : Mem} {x : Mem} (h : D_Net_begin a0 a1 a2 a3 M = some x) : Ct d Y_Net_begin [(2, a0), (0, a1), (0, a2), (0, a3)] M (none, x) 0 0 := by
  refine ct_of yk_Net_begin (Nat.le_of_ble_eq_true rfl) ?_
  rw [D_Net_begin] at h
  show Rn Y_Net_begin d 0 0 0 0 (none, x) 0 [(0, (2, a0)), (1, (0, a1)), (2, (0, a2)), (3, (0, a3))] [] M
  refine r_aload_n (pc := 0) 0 (n := 0) (by decide +kernel) rfl rfl ?_
  obtain ⟨g1, q1, h⟩ := bnd h
  refine r_get (pc := 1) (by decide +kernel) fl_Net_9.r (by decide) rfl q1 ?_
  refine r_iconst (pc := 4) (z := 0) (by decide +kernel) ⟨by decide, by decide⟩ ?_
  obtain ⟨x5, q5, h⟩ := bnd h
  refine r_callS (pc := 5) (i := 38) (d2 := d - 1) (As := [(2, g1), (0, 0)]) (st := []) (st1 := [(0, 0), (2, g1)]) (by decide +kernel) yk_Arr_fill_IIV ⟨ml_Net_38, sk_Arr_fill_IIV⟩ np_Arr_fill_IIV rfl (by omega) (c_Arr_fill_IIV (d := d - 1) (by omega) q5) (Nat.le_of_ble_eq_true rfl) (Nat.le_of_ble_eq_true rfl) (Nat.le_of_ble_eq_true rfl) rfl ?_
  show Rn _ d _ _ 0 0 _ 8 [(0, (2, a0)), (1, (0, a1)), (2, (0, a2)), (3, (0, a3))] [] x5
  refine r_aload_n (pc := 8) 0 (n := 0) (by decide +kernel) rfl rfl ?_
  refine r_iload_n (pc := 9) 1 (n := 1) (by decide +kernel) rfl rfl ?_
  obtain ⟨m10, q10, h⟩ := bnd h
  refine r_put (pc := 10) (by decide +kernel) fl_Net_15 (by decide) (Or.inr nf_2_2) rfl (fun h3 => by cases h3) q10 ?_
  refine r_aload_n (pc := 13) 0 (n := 0) (by decide +kernel) rfl rfl ?_
  refine r_iload_n (pc := 14) 2 (n := 2) (by decide +kernel) rfl rfl ?_
  obtain ⟨m15, q15, h⟩ := bnd h
  refine r_put (pc := 15) (by decide +kernel) fl_Net_19 (by decide) (Or.inr nf_2_3) rfl (fun h3 => by cases h3) q15 ?_
  refine r_aload_n (pc := 18) 0 (n := 0) (by decide +kernel) rfl rfl ?_
  refine r_iconst (pc := 19) (z := 0) (by decide +kernel) ⟨by decide, by decide⟩ ?_
  obtain ⟨m20, q20, h⟩ := bnd h
  refine r_put (pc := 20) (by decide +kernel) fl_Net_22 (by decide) (Or.inr nf_2_4) rfl (fun h3 => by cases h3) q20 ?_
  refine r_aload_n (pc := 23) 0 (n := 0) (by decide +kernel) rfl rfl ?_
  refine r_iload_n (pc := 24) 3 (n := 3) (by decide +kernel) rfl rfl ?_
  obtain ⟨m25, q25, h⟩ := bnd h
  refine r_put (pc := 25) (by decide +kernel) fl_Net_25 (by decide) (Or.inr nf_2_5) rfl (fun h3 => by cases h3) q25 ?_
  obtain rfl := Option.some.inj h
  exact r_ret (pc := 28) (r := none) (by decide +kernel) rfl trivial (Nat.le_of_ble_eq_true rfl) (Nat.le_of_ble_eq_true rfl)

/-! TreeTongues$Signs.choices(III)I -/
noncomputable def D_Signs_choices (a0 a1 a2 a3 : Int) (M : Mem) : Option (Int × Mem) := (ck M a0 5 3).bind fun _ => (D_Signs_rankOf a0 a1 M).bind fun x2 => if x2.1 ≤ a2 then (some (1, x2.2)) else (some (a3, x2.2))
theorem c_Signs_choices {d : Nat} (hd : 2 ≤ d) {a0 a1 a2 a3 : Int} {M : Mem} {x : Int × Mem} (h : D_Signs_choices a0 a1 a2 a3 M = some x) : Ct d Y_Signs_choices [(2, a0), (0, a1), (0, a2), (0, a3)] M (some (0, x.1), x.2) 0 0 := by
  refine ct_of yk_Signs_choices (Nat.le_of_ble_eq_true rfl) ?_
  rw [D_Signs_choices] at h
  show Rn Y_Signs_choices d 0 0 0 0 (some (0, x.1), x.2) 0 [(0, (2, a0)), (1, (0, a1)), (2, (0, a2)), (3, (0, a3))] [] M
  refine r_aload_n (pc := 0) 0 (n := 0) (by decide +kernel) rfl rfl ?_
  refine r_iload_n (pc := 1) 1 (n := 1) (by decide +kernel) rfl rfl ?_
  obtain ⟨_, q2c, h⟩ := bnd h
  obtain ⟨x2, q2, h⟩ := bnd h
  refine r_callV (pc := 2) (i := 23) (d2 := d - 1) (As := [(0, a1)]) (st := []) (st1 := [(0, a1), (2, a0)]) (by decide +kernel) yk_Signs_rankOf (by decide) rfl ⟨ml_Signs_23, vk_Signs_rankOf⟩ np_Signs_rankOf rfl (by omega) q2c (c_Signs_rankOf (d := d - 1) (by omega) q2) (Nat.le_of_ble_eq_true rfl) (Nat.le_of_ble_eq_true rfl) (Nat.le_of_ble_eq_true rfl) rfl ?_
  show Rn _ d _ _ 0 0 _ 5 [(0, (2, a0)), (1, (0, a1)), (2, (0, a2)), (3, (0, a3))] [(0, x2.1)] x2.2
  refine r_iload_n (pc := 5) 2 (n := 2) (by decide +kernel) rfl rfl ?_
  refine r_icmp_le (pc := 6) (off := 7) (tgt := 13) (by decide +kernel) (by decide) (fun c6 => ?_) (fun c6 => ?_)
  · have h := ite_t c6 h
    refine r_iconst (pc := 13) (z := 1) (by decide +kernel) ⟨by decide, by decide⟩ ?_
    obtain rfl := Option.some.inj h
    exact r_ret (pc := 14) (r := some (0, 1)) (by decide +kernel) rfl trivial (Nat.le_of_ble_eq_true rfl) (Nat.le_of_ble_eq_true rfl)
  · have h := ite_f c6 h
    refine r_iload_n (pc := 9) 3 (n := 3) (by decide +kernel) rfl rfl ?_
    refine r_goto (pc := 10) (off := 4) (tgt := 14) (by decide +kernel) (by decide) ?_
    obtain rfl := Option.some.inj h
    exact r_ret (pc := 14) (r := some (0, a3)) (by decide +kernel) rfl trivial (Nat.le_of_ble_eq_true rfl) (Nat.le_of_ble_eq_true rfl)

/-! TreeTongues$Tongue.targetsOf(III)I -/
noncomputable def D_Tongue_targetsOf (a0 a1 a2 a3 : Int) (M : Mem) : Option (Int × Mem) := (gf M a0 7 8 2).bind fun g1 => (gf M a0 7 8 0).bind fun g5 => (ck M g5 5 3).bind fun _ => (D_Signs_cell g5 a1 a2 a3 5 M).bind fun x12 => (rd x12.2 10 g1 x12.1).bind fun e15 => some (e15, x12.2)
theorem c_Tongue_targetsOf {d : Nat} (hd : 3 ≤ d) {a0 a1 a2 a3 : Int} {M : Mem} {x : Int × Mem} (h : D_Tongue_targetsOf a0 a1 a2 a3 M = some x) : Ct d Y_Tongue_targetsOf [(2, a0), (0, a1), (0, a2), (0, a3)] M (some (0, x.1), x.2) 0 0 := by
  refine ct_of yk_Tongue_targetsOf (Nat.le_of_ble_eq_true rfl) ?_
  rw [D_Tongue_targetsOf] at h
  show Rn Y_Tongue_targetsOf d 0 0 0 0 (some (0, x.1), x.2) 0 [(0, (2, a0)), (1, (0, a1)), (2, (0, a2)), (3, (0, a3))] [] M
  refine r_aload_n (pc := 0) 0 (n := 0) (by decide +kernel) rfl rfl ?_
  obtain ⟨g1, q1, h⟩ := bnd h
  refine r_get (pc := 1) (by decide +kernel) fl_Tongue_9.r (by decide) rfl q1 ?_
  refine r_aload_n (pc := 4) 0 (n := 0) (by decide +kernel) rfl rfl ?_
  obtain ⟨g5, q5, h⟩ := bnd h
  refine r_get (pc := 5) (by decide +kernel) fl_Tongue_32.r (by decide) rfl q5 ?_
  refine r_iload_n (pc := 8) 1 (n := 1) (by decide +kernel) rfl rfl ?_
  refine r_iload_n (pc := 9) 2 (n := 2) (by decide +kernel) rfl rfl ?_
  refine r_iload_n (pc := 10) 3 (n := 3) (by decide +kernel) rfl rfl ?_
  refine r_iconst (pc := 11) (z := 5) (by decide +kernel) ⟨by decide, by decide⟩ ?_
  obtain ⟨_, q12c, h⟩ := bnd h
  obtain ⟨x12, q12, h⟩ := bnd h
  refine r_callV (pc := 12) (i := 51) (d2 := d - 1) (As := [(0, a1), (0, a2), (0, a3), (0, 5)]) (st := [(2, g1)]) (st1 := [(0, 5), (0, a3), (0, a2), (0, a1), (2, g5), (2, g1)]) (by decide +kernel) yk_Signs_cell (by decide) rfl ⟨ml_Tongue_51, vk_Signs_cell⟩ np_Signs_cell rfl (by omega) q12c (c_Signs_cell (d := d - 1) (by omega) q12) (Nat.le_of_ble_eq_true rfl) (Nat.le_of_ble_eq_true rfl) (Nat.le_of_ble_eq_true rfl) rfl ?_
  show Rn _ d _ _ 0 0 _ 15 [(0, (2, a0)), (1, (0, a1)), (2, (0, a2)), (3, (0, a3))] [(0, x12.1), (2, g1)] x12.2
  obtain ⟨e15, q15, h⟩ := bnd h
  refine r_iald (pc := 15) (by decide +kernel) q15 ?_
  obtain rfl := Option.some.inj h
  exact r_ret (pc := 16) (r := some (0, e15)) (by decide +kernel) rfl trivial (Nat.le_of_ble_eq_true rfl) (Nat.le_of_ble_eq_true rfl)

/-! TreeTongues$Net.lead(IIII)V -/
noncomputable def D_Net_lead (a0 a1 a2 a3 a4 : Int) (M : Mem) : Option (Mem) := (gf M a0 2 6 1).bind fun g1 => (gf M a0 2 6 0).bind fun g5 => (ck M g5 5 3).bind fun _ => (D_Signs_cell g5 a1 a2 a3 12 M).bind fun x13 => (rd x13.2 10 g1 x13.1).bind fun e17 => (wt x13.2 10 g1 x13.1 (ior e17 a4)).bind fun m21 => some m21
theorem c_Net_lead {d : Nat} (hd : 3 ≤ d) {a0 a1 a2 a3 a4 : Int} {M : Mem} {x : Mem} (h : D_Net_lead a0 a1 a2 a3 a4 M = some x) : Ct d Y_Net_lead [(2, a0), (0, a1), (0, a2), (0, a3), (0, a4)] M (none, x) 0 0 := by
  refine ct_of yk_Net_lead (Nat.le_of_ble_eq_true rfl) ?_
  rw [D_Net_lead] at h
  show Rn Y_Net_lead d 0 0 0 0 (none, x) 0 [(0, (2, a0)), (1, (0, a1)), (2, (0, a2)), (3, (0, a3)), (4, (0, a4))] [] M
  refine r_aload_n (pc := 0) 0 (n := 0) (by decide +kernel) rfl rfl ?_
  obtain ⟨g1, q1, h⟩ := bnd h
  refine r_get (pc := 1) (by decide +kernel) fl_Net_9.r (by decide) rfl q1 ?_
  refine r_aload_n (pc := 4) 0 (n := 0) (by decide +kernel) rfl rfl ?_
  obtain ⟨g5, q5, h⟩ := bnd h
  refine r_get (pc := 5) (by decide +kernel) fl_Net_28.r (by decide) rfl q5 ?_
  refine r_iload_n (pc := 8) 1 (n := 1) (by decide +kernel) rfl rfl ?_
  refine r_iload_n (pc := 9) 2 (n := 2) (by decide +kernel) rfl rfl ?_
  refine r_iload_n (pc := 10) 3 (n := 3) (by decide +kernel) rfl rfl ?_
  refine r_bipush (pc := 11) (z := 12) (by decide +kernel) ⟨by decide, by decide⟩ ?_
  obtain ⟨_, q13c, h⟩ := bnd h
  obtain ⟨x13, q13, h⟩ := bnd h
  refine r_callV (pc := 13) (i := 32) (d2 := d - 1) (As := [(0, a1), (0, a2), (0, a3), (0, 12)]) (st := [(2, g1)]) (st1 := [(0, 12), (0, a3), (0, a2), (0, a1), (2, g5), (2, g1)]) (by decide +kernel) yk_Signs_cell (by decide) rfl ⟨ml_Net_32, vk_Signs_cell⟩ np_Signs_cell rfl (by omega) q13c (c_Signs_cell (d := d - 1) (by omega) q13) (Nat.le_of_ble_eq_true rfl) (Nat.le_of_ble_eq_true rfl) (Nat.le_of_ble_eq_true rfl) rfl ?_
  show Rn _ d _ _ 0 0 _ 16 [(0, (2, a0)), (1, (0, a1)), (2, (0, a2)), (3, (0, a3)), (4, (0, a4))] [(0, x13.1), (2, g1)] x13.2
  refine r_dup2 (pc := 16) (by decide +kernel) rfl rfl ?_
  obtain ⟨e17, q17, h⟩ := bnd h
  refine r_iald (pc := 17) (by decide +kernel) q17 ?_
  refine r_iload (pc := 18) 4 (by decide +kernel) rfl ?_
  refine r_ior (pc := 20) (by decide +kernel) ?_
  obtain ⟨m21, q21, h⟩ := bnd h
  refine r_iast (pc := 21) (by decide +kernel) q21 ?_
  obtain rfl := Option.some.inj h
  exact r_ret (pc := 22) (r := none) (by decide +kernel) rfl trivial (Nat.le_of_ble_eq_true rfl) (Nat.le_of_ble_eq_true rfl)

/-! TreeTongues$Net.setTold(LTreeTongues$Tongue;)V -/
noncomputable def L_Net_setTold_49 (k : Mem → Option (Mem)) (v0 : Int) (v1 : Int) (v2 : Int) (v3 : Int) : Nat → Int → Mem → Option (Mem)
  | 0 => fun _ _ => none
  | n + 1 => fun v4 M => (gf M v0 2 6 0).bind fun g52 => (gf M v1 7 8 3).bind fun g58 => (ck M g52 5 3).bind fun _ => (D_Signs_choices g52 v2 1 g58 M).bind fun x61 => if x61.1 ≤ v4 then (k  x61.2) else ((ck x61.2 v1 7 8).bind fun _ => (D_Tongue_targetsOf v1 v2 v3 v4 x61.2).bind fun x77 => (ck x77.2 v0 2 6).bind fun _ => (D_Net_lead v0 v2 v3 v4 x77.1 x77.2).bind fun x80 => L_Net_setTold_49 k v0 v1 v2 v3 n (wr (v4 + 1)) x80)
noncomputable def L_Net_setTold_29 (k : Mem → Option (Mem)) (v0 : Int) (v1 : Int) (v2 : Int) : Nat → Int → Mem → Option (Mem)
  | 0 => fun _ _ => none
  | n + 1 => fun v3 M => (gf M v0 2 6 0).bind fun g31 => (gf M v1 7 8 3).bind fun g37 => (ck M g31 5 3).bind fun _ => (D_Signs_choices g31 v2 0 g37 M).bind fun x40 => if x40.1 ≤ v3 then (k  x40.2) else (L_Net_setTold_49 (fun  m49 => L_Net_setTold_29 k v0 v1 v2 n (wr (v3 + 1)) m49) v0 v1 v2 v3 FU 0 x40.2)
noncomputable def L_Net_setTold_16 (k : Mem → Option (Mem)) (v0 : Int) (v1 : Int) : Nat → Int → Mem → Option (Mem)
  | 0 => fun _ _ => none
  | n + 1 => fun v2 M => (gf M v0 2 6 0).bind fun g18 => (gf M g18 5 3 1).bind fun g21 => if g21 ≤ v2 then (k  M) else (L_Net_setTold_29 (fun  m29 => L_Net_setTold_16 k v0 v1 n (wr (v2 + 1)) m29) v0 v1 v2 FU 0 M)
noncomputable def D_Net_setTold (a0 a1 : Int) (M : Mem) : Option (Mem) := (gf M a1 7 8 3).bind fun g2 => (gf M a1 7 8 5).bind fun g6 => (ck M a0 2 6).bind fun _ => (D_Net_begin a0 g2 g6 10 M).bind fun x11 => L_Net_setTold_16 (fun  m16 => some m16) a0 a1 FU 0 x11
theorem sL_Net_setTold_49 {d mc ms : Nat} (hd : 4 ≤ d) {r : Mem} {k : Mem → Option (Mem)} {v0 : Int} {v1 : Int} {v2 : Int} {v3 : Int} (hk : ∀ (M : Mem), k M = some r → Rn Y_Net_setTold d mc ms 0 0 (none, r) 89 [(0, (2, v0)), (1, (2, v1)), (2, (0, v2)), (3, (0, v3))] [] M) : ∀ (n : Nat) (v4 : Int) (M : Mem), L_Net_setTold_49 k v0 v1 v2 v3 n v4 M = some r → Rn Y_Net_setTold d mc ms 0 0 (none, r) 49 [(0, (2, v0)), (1, (2, v1)), (2, (0, v2)), (3, (0, v3)), (4, (0, v4))] [] M := by
  intro n
  induction n with
  | zero => intro _ _ h; cases h
  | succ n ih =>
    intro v4 M h
    rw [L_Net_setTold_49] at h
    refine r_iload (pc := 49) 4 (by decide +kernel) rfl ?_
    refine r_aload_n (pc := 51) 0 (n := 0) (by decide +kernel) rfl rfl ?_
    obtain ⟨g52, q52, h⟩ := bnd h
    refine r_get (pc := 52) (by decide +kernel) fl_Net_28.r (by decide) rfl q52 ?_
    refine r_iload_n (pc := 55) 2 (n := 2) (by decide +kernel) rfl rfl ?_
    refine r_iconst (pc := 56) (z := 1) (by decide +kernel) ⟨by decide, by decide⟩ ?_
    refine r_aload_n (pc := 57) 1 (n := 1) (by decide +kernel) rfl rfl ?_
    obtain ⟨g58, q58, h⟩ := bnd h
    refine r_get (pc := 58) (by decide +kernel) fl_Net_60.r (by decide) rfl q58 ?_
    obtain ⟨_, q61c, h⟩ := bnd h
    obtain ⟨x61, q61, h⟩ := bnd h
    refine r_callV (pc := 61) (i := 49) (d2 := d - 1) (As := [(0, v2), (0, 1), (0, g58)]) (st := [(0, v4)]) (st1 := [(0, g58), (0, 1), (0, v2), (2, g52), (0, v4)]) (by decide +kernel) yk_Signs_choices (by decide) rfl ⟨ml_Net_49, vk_Signs_choices⟩ np_Signs_choices rfl (by omega) q61c (c_Signs_choices (d := d - 1) (by omega) q61) (Nat.le_of_ble_eq_true rfl) (Nat.le_of_ble_eq_true rfl) (Nat.le_of_ble_eq_true rfl) rfl ?_
    show Rn _ d _ _ 0 0 _ 64 [(0, (2, v0)), (1, (2, v1)), (2, (0, v2)), (3, (0, v3)), (4, (0, v4))] [(0, x61.1), (0, v4)] x61.2
    refine r_icmp_ge (pc := 64) (off := 25) (tgt := 89) (by decide +kernel) (by decide) (fun c64 => ?_) (fun c64 => ?_)
    · have h := ite_t c64 h
      refine r_lv [0, 1, 2, 3] rfl ?_
      exact hk  x61.2 h
    · have h := ite_f c64 h
      refine r_aload_n (pc := 67) 0 (n := 0) (by decide +kernel) rfl rfl ?_
      refine r_iload_n (pc := 68) 2 (n := 2) (by decide +kernel) rfl rfl ?_
      refine r_iload_n (pc := 69) 3 (n := 3) (by decide +kernel) rfl rfl ?_
      refine r_iload (pc := 70) 4 (by decide +kernel) rfl ?_
      refine r_aload_n (pc := 72) 1 (n := 1) (by decide +kernel) rfl rfl ?_
      refine r_iload_n (pc := 73) 2 (n := 2) (by decide +kernel) rfl rfl ?_
      refine r_iload_n (pc := 74) 3 (n := 3) (by decide +kernel) rfl rfl ?_
      refine r_iload (pc := 75) 4 (by decide +kernel) rfl ?_
      obtain ⟨_, q77c, h⟩ := bnd h
      obtain ⟨x77, q77, h⟩ := bnd h
      refine r_callV (pc := 77) (i := 73) (d2 := d - 1) (As := [(0, v2), (0, v3), (0, v4)]) (st := [(0, v4), (0, v3), (0, v2), (2, v0)]) (st1 := [(0, v4), (0, v3), (0, v2), (2, v1), (0, v4), (0, v3), (0, v2), (2, v0)]) (by decide +kernel) yk_Tongue_targetsOf (by decide) rfl ⟨ml_Net_73, vk_Tongue_targetsOf⟩ np_Tongue_targetsOf rfl (by omega) q77c (c_Tongue_targetsOf (d := d - 1) (by omega) q77) (Nat.le_of_ble_eq_true rfl) (Nat.le_of_ble_eq_true rfl) (Nat.le_of_ble_eq_true rfl) rfl ?_
      show Rn _ d _ _ 0 0 _ 80 [(0, (2, v0)), (1, (2, v1)), (2, (0, v2)), (3, (0, v3)), (4, (0, v4))] [(0, x77.1), (0, v4), (0, v3), (0, v2), (2, v0)] x77.2
      obtain ⟨_, q80c, h⟩ := bnd h
      obtain ⟨x80, q80, h⟩ := bnd h
      refine r_callV (pc := 80) (i := 56) (d2 := d - 1) (As := [(0, v2), (0, v3), (0, v4), (0, x77.1)]) (st := []) (st1 := [(0, x77.1), (0, v4), (0, v3), (0, v2), (2, v0)]) (by decide +kernel) yk_Net_lead (by decide) rfl ⟨ml_Net_56, vk_Net_lead⟩ np_Net_lead rfl (by omega) q80c (c_Net_lead (d := d - 1) (by omega) q80) (Nat.le_of_ble_eq_true rfl) (Nat.le_of_ble_eq_true rfl) (Nat.le_of_ble_eq_true rfl) rfl ?_
      show Rn _ d _ _ 0 0 _ 83 [(0, (2, v0)), (1, (2, v1)), (2, (0, v2)), (3, (0, v3)), (4, (0, v4))] [] x80
      refine r_iinc (pc := 83) 4 (n := 1) (lv' := [(4, (0, wr (v4 + 1))), (0, (2, v0)), (1, (2, v1)), (2, (0, v2)), (3, (0, v3))]) (by decide +kernel) rfl (Nat.le_of_ble_eq_true rfl) rfl ?_
      refine r_goto (pc := 86) (off := (-37)) (tgt := 49) (by decide +kernel) (by decide) ?_
      refine r_lv [1, 2, 3, 4, 0] rfl ?_
      exact ih (wr (v4 + 1)) x80 h
theorem sL_Net_setTold_29 {d mc ms : Nat} (hd : 4 ≤ d) {r : Mem} {k : Mem → Option (Mem)} {v0 : Int} {v1 : Int} {v2 : Int} (hk : ∀ (M : Mem), k M = some r → Rn Y_Net_setTold d mc ms 0 0 (none, r) 95 [(0, (2, v0)), (1, (2, v1)), (2, (0, v2))] [] M) : ∀ (n : Nat) (v3 : Int) (M : Mem), L_Net_setTold_29 k v0 v1 v2 n v3 M = some r → Rn Y_Net_setTold d mc ms 0 0 (none, r) 29 [(0, (2, v0)), (1, (2, v1)), (2, (0, v2)), (3, (0, v3))] [] M := by
  intro n
  induction n with
  | zero => intro _ _ h; cases h
  | succ n ih =>
    intro v3 M h
    rw [L_Net_setTold_29] at h
    refine r_iload_n (pc := 29) 3 (n := 3) (by decide +kernel) rfl rfl ?_
    refine r_aload_n (pc := 30) 0 (n := 0) (by decide +kernel) rfl rfl ?_
    obtain ⟨g31, q31, h⟩ := bnd h
    refine r_get (pc := 31) (by decide +kernel) fl_Net_28.r (by decide) rfl q31 ?_
    refine r_iload_n (pc := 34) 2 (n := 2) (by decide +kernel) rfl rfl ?_
    refine r_iconst (pc := 35) (z := 0) (by decide +kernel) ⟨by decide, by decide⟩ ?_
    refine r_aload_n (pc := 36) 1 (n := 1) (by decide +kernel) rfl rfl ?_
    obtain ⟨g37, q37, h⟩ := bnd h
    refine r_get (pc := 37) (by decide +kernel) fl_Net_60.r (by decide) rfl q37 ?_
    obtain ⟨_, q40c, h⟩ := bnd h
    obtain ⟨x40, q40, h⟩ := bnd h
    refine r_callV (pc := 40) (i := 49) (d2 := d - 1) (As := [(0, v2), (0, 0), (0, g37)]) (st := [(0, v3)]) (st1 := [(0, g37), (0, 0), (0, v2), (2, g31), (0, v3)]) (by decide +kernel) yk_Signs_choices (by decide) rfl ⟨ml_Net_49, vk_Signs_choices⟩ np_Signs_choices rfl (by omega) q40c (c_Signs_choices (d := d - 1) (by omega) q40) (Nat.le_of_ble_eq_true rfl) (Nat.le_of_ble_eq_true rfl) (Nat.le_of_ble_eq_true rfl) rfl ?_
    show Rn _ d _ _ 0 0 _ 43 [(0, (2, v0)), (1, (2, v1)), (2, (0, v2)), (3, (0, v3))] [(0, x40.1), (0, v3)] x40.2
    refine r_icmp_ge (pc := 43) (off := 52) (tgt := 95) (by decide +kernel) (by decide) (fun c43 => ?_) (fun c43 => ?_)
    · have h := ite_t c43 h
      refine r_lv [0, 1, 2] rfl ?_
      exact hk  x40.2 h
    · have h := ite_f c43 h
      refine r_iconst (pc := 46) (z := 0) (by decide +kernel) ⟨by decide, by decide⟩ ?_
      refine r_istore (pc := 47) (lv' := [(4, (0, 0)), (0, (2, v0)), (1, (2, v1)), (2, (0, v2)), (3, (0, v3))]) (by decide +kernel) (Nat.le_of_ble_eq_true rfl) rfl ?_
      refine r_lv [1, 2, 3, 4, 0] rfl ?_
      refine sL_Net_setTold_49 (by omega) ?_ _ _  _ h
      intro m49 h
      refine r_iinc (pc := 89) 3 (n := 1) (lv' := [(3, (0, wr (v3 + 1))), (0, (2, v0)), (1, (2, v1)), (2, (0, v2))]) (by decide +kernel) rfl (Nat.le_of_ble_eq_true rfl) rfl ?_
      refine r_goto (pc := 92) (off := (-63)) (tgt := 29) (by decide +kernel) (by decide) ?_
      refine r_lv [1, 2, 3, 0] rfl ?_
      exact ih (wr (v3 + 1)) m49 h
theorem sL_Net_setTold_16 {d mc ms : Nat} (hd : 4 ≤ d) {r : Mem} {k : Mem → Option (Mem)} {v0 : Int} {v1 : Int} (hk : ∀ (M : Mem), k M = some r → Rn Y_Net_setTold d mc ms 0 0 (none, r) 101 [] [] M) : ∀ (n : Nat) (v2 : Int) (M : Mem), L_Net_setTold_16 k v0 v1 n v2 M = some r → Rn Y_Net_setTold d mc ms 0 0 (none, r) 16 [(0, (2, v0)), (1, (2, v1)), (2, (0, v2))] [] M := by
  intro n
  induction n with
  | zero => intro _ _ h; cases h
  | succ n ih =>
    intro v2 M h
    rw [L_Net_setTold_16] at h
    refine r_iload_n (pc := 16) 2 (n := 2) (by decide +kernel) rfl rfl ?_
    refine r_aload_n (pc := 17) 0 (n := 0) (by decide +kernel) rfl rfl ?_
    obtain ⟨g18, q18, h⟩ := bnd h
    refine r_get (pc := 18) (by decide +kernel) fl_Net_28.r (by decide) rfl q18 ?_
    obtain ⟨g21, q21, h⟩ := bnd h
    refine r_get (pc := 21) (by decide +kernel) fl_Net_70.r (by decide) rfl q21 ?_
    refine r_icmp_ge (pc := 24) (off := 77) (tgt := 101) (by decide +kernel) (by decide) (fun c24 => ?_) (fun c24 => ?_)
    · have h := ite_t c24 h
      refine r_lv [] rfl ?_
      exact hk  M h
    · have h := ite_f c24 h
      refine r_iconst (pc := 27) (z := 0) (by decide +kernel) ⟨by decide, by decide⟩ ?_
      refine r_istore_n (pc := 28) (n := 3) (lv' := [(3, (0, 0)), (0, (2, v0)), (1, (2, v1)), (2, (0, v2))]) (by decide +kernel) rfl (Nat.le_of_ble_eq_true rfl) rfl ?_
      refine r_lv [1, 2, 3, 0] rfl ?_
      refine sL_Net_setTold_29 (by omega) ?_ _ _  _ h
      intro m29 h
      refine r_iinc (pc := 95) 2 (n := 1) (lv' := [(2, (0, wr (v2 + 1))), (0, (2, v0)), (1, (2, v1))]) (by decide +kernel) rfl (Nat.le_of_ble_eq_true rfl) rfl ?_
      refine r_goto (pc := 98) (off := (-82)) (tgt := 16) (by decide +kernel) (by decide) ?_
      refine r_lv [1, 2, 0] rfl ?_
      exact ih (wr (v2 + 1)) m29 h
theorem c_Net_setTold {d : Nat} (hd : 4 ≤ d) {a0 a1 : Int} {M : Mem} {x : Mem} (h : D_Net_setTold a0 a1 M = some x) : Ct d Y_Net_setTold [(2, a0), (2, a1)] M (none, x) 0 0 := by
  refine ct_of yk_Net_setTold (Nat.le_of_ble_eq_true rfl) ?_
  rw [D_Net_setTold] at h
  show Rn Y_Net_setTold d 0 0 0 0 (none, x) 0 [(0, (2, a0)), (1, (2, a1))] [] M
  refine r_aload_n (pc := 0) 0 (n := 0) (by decide +kernel) rfl rfl ?_
  refine r_aload_n (pc := 1) 1 (n := 1) (by decide +kernel) rfl rfl ?_
  obtain ⟨g2, q2, h⟩ := bnd h
  refine r_get (pc := 2) (by decide +kernel) fl_Net_60.r (by decide) rfl q2 ?_
  refine r_aload_n (pc := 5) 1 (n := 1) (by decide +kernel) rfl rfl ?_
  obtain ⟨g6, q6, h⟩ := bnd h
  refine r_get (pc := 6) (by decide +kernel) fl_Net_63.r (by decide) rfl q6 ?_
  refine r_bipush (pc := 9) (z := 10) (by decide +kernel) ⟨by decide, by decide⟩ ?_
  obtain ⟨_, q11c, h⟩ := bnd h
  obtain ⟨x11, q11, h⟩ := bnd h
  refine r_callV (pc := 11) (i := 66) (d2 := d - 1) (As := [(0, g2), (0, g6), (0, 10)]) (st := []) (st1 := [(0, 10), (0, g6), (0, g2), (2, a0)]) (by decide +kernel) yk_Net_begin (by decide) rfl ⟨ml_Net_66, vk_Net_begin⟩ np_Net_begin rfl (by omega) q11c (c_Net_begin (d := d - 1) (by omega) q11) (Nat.le_of_ble_eq_true rfl) (Nat.le_of_ble_eq_true rfl) (Nat.le_of_ble_eq_true rfl) rfl ?_
  show Rn _ d _ _ 0 0 _ 14 [(0, (2, a0)), (1, (2, a1))] [] x11
  refine r_iconst (pc := 14) (z := 0) (by decide +kernel) ⟨by decide, by decide⟩ ?_
  refine r_istore_n (pc := 15) (n := 2) (lv' := [(2, (0, 0)), (0, (2, a0)), (1, (2, a1))]) (by decide +kernel) rfl (Nat.le_of_ble_eq_true rfl) rfl ?_
  refine r_lv [1, 2, 0] rfl ?_
  refine sL_Net_setTold_16 (by omega) ?_ _ _  _ h
  intro m16 h
  obtain rfl := Option.some.inj h
  exact r_ret (pc := 101) (r := none) (by decide +kernel) rfl trivial (Nat.le_of_ble_eq_true rfl) (Nat.le_of_ble_eq_true rfl)
