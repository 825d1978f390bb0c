/-! TreeTongues$Reducer.begin()V -/
noncomputable def L_Reducer_begin_2 (k : Mem → Option (Mem)) (v0 : Int) : Nat → Int → Mem → Option (Mem)
  | 0 => fun _ _ => none
  | n + 1 => fun v1 M => (gf M v0 3 17 6).bind fun g4 => if g4 ≤ v1 then (k  M) else ((gf M v0 3 17 5).bind fun g11 => (gf M v0 3 17 2).bind fun g15 => (rd M 10 g15 v1).bind fun e19 => (wt M 10 g11 e19 0).bind fun m21 => L_Reducer_begin_2 k v0 n (wr (v1 + 1)) m21)
noncomputable def D_Reducer_begin (a0 : Int) (M : Mem) : Option (Mem) := L_Reducer_begin_2 (fun  m2 => (pf m2 a0 3 17 6 0).bind fun m30 => (pf m30 a0 3 17 14 1).bind fun m35 => (pf m35 a0 3 17 11 0).bind fun m40 => some m40) a0 FU 0 M
theorem sL_Reducer_begin_2 {d mc ms : Nat} (hd : 1 ≤ d) {r : Mem} {k : Mem → Option (Mem)} {v0 : Int} (hk : ∀ (M : Mem), k M = some r → Rn Y_Reducer_begin d mc ms 0 0 (none, r) 28 [(0, (2, v0))] [] M) : ∀ (n : Nat) (v1 : Int) (M : Mem), L_Reducer_begin_2 k v0 n v1 M = some r → Rn Y_Reducer_begin d mc ms 0 0 (none, r) 2 [(0, (2, v0)), (1, (0, v1))] [] M := by
  intro n
  induction n with
  | zero => intro _ _ h; cases h
  | succ n ih =>
    intro v1 M h
    rw [L_Reducer_begin_2] at h
    refine r_iload_n (pc := 2) 1 (n := 1) (by decide +kernel) rfl rfl ?_
    refine r_aload_n (pc := 3) 0 (n := 0) (by decide +kernel) rfl rfl ?_
    obtain ⟨g4, q4, h⟩ := bnd h
    refine r_get (pc := 4) (by decide +kernel) fl_Reducer_24.r (by decide) rfl q4 ?_
    refine r_icmp_ge (pc := 7) (off := 21) (tgt := 28) (by decide +kernel) (by decide) (fun c7 => ?_) (fun c7 => ?_)
    · have h := ite_t c7 h
      refine r_lv [0] rfl ?_
      exact hk  M h
    · have h := ite_f c7 h
      refine r_aload_n (pc := 10) 0 (n := 0) (by decide +kernel) rfl rfl ?_
      obtain ⟨g11, q11, h⟩ := bnd h
      refine r_get (pc := 11) (by decide +kernel) fl_Reducer_21.r (by decide) rfl q11 ?_
      refine r_aload_n (pc := 14) 0 (n := 0) (by decide +kernel) rfl rfl ?_
      obtain ⟨g15, q15, h⟩ := bnd h
      refine r_get (pc := 15) (by decide +kernel) fl_Reducer_9.r (by decide) rfl q15 ?_
      refine r_iload_n (pc := 18) 1 (n := 1) (by decide +kernel) rfl rfl ?_
      obtain ⟨e19, q19, h⟩ := bnd h
      refine r_iald (pc := 19) (by decide +kernel) q19 ?_
      refine r_iconst (pc := 20) (z := 0) (by decide +kernel) ⟨by decide, by decide⟩ ?_
      obtain ⟨m21, q21, h⟩ := bnd h
      refine r_iast (pc := 21) (by decide +kernel) q21 ?_
      refine r_iinc (pc := 22) 1 (n := 1) (lv' := [(1, (0, wr (v1 + 1))), (0, (2, v0))]) (by decide +kernel) rfl (Nat.le_of_ble_eq_true rfl) rfl ?_
      refine r_goto (pc := 25) (off := (-23)) (tgt := 2) (by decide +kernel) (by decide) ?_
      refine r_lv [1, 0] rfl ?_
      exact ih (wr (v1 + 1)) m21 h
theorem c_Reducer_begin {d : Nat} (hd : 1 ≤ d) {a0 : Int} {M : Mem} {x : Mem} (h : D_Reducer_begin a0 M = some x) : Ct d Y_Reducer_begin [(2, a0)] M (none, x) 0 0 := by
  refine ct_of yk_Reducer_begin (Nat.le_of_ble_eq_true rfl) ?_
  rw [D_Reducer_begin] at h
  show Rn Y_Reducer_begin d 0 0 0 0 (none, x) 0 [(0, (2, a0))] [] M
  refine r_iconst (pc := 0) (z := 0) (by decide +kernel) ⟨by decide, by decide⟩ ?_
  refine r_istore_n (pc := 1) (n := 1) (lv' := [(1, (0, 0)), (0, (2, a0))]) (by decide +kernel) rfl (Nat.le_of_ble_eq_true rfl) rfl ?_
  refine r_lv [1, 0] rfl ?_
  refine sL_Reducer_begin_2 (by omega) ?_ _ _  _ h
  intro m2 h
  refine r_aload_n (pc := 28) 0 (n := 0) (by decide +kernel) rfl rfl ?_
  refine r_iconst (pc := 29) (z := 0) (by decide +kernel) ⟨by decide, by decide⟩ ?_
  obtain ⟨m30, q30, h⟩ := bnd h
  refine r_put (pc := 30) (by decide +kernel) fl_Reducer_24 (by decide) (Or.inr nf_3_6) rfl (fun h3 => by cases h3) q30 ?_
  refine r_aload_n (pc := 33) 0 (n := 0) (by decide +kernel) rfl rfl ?_
  refine r_iconst (pc := 34) (z := 1) (by decide +kernel) ⟨by decide, by decide⟩ ?_
  obtain ⟨m35, q35, h⟩ := bnd h
  refine r_put (pc := 35) (by decide +kernel) fl_Reducer_53 (by decide) (Or.inr nf_3_14) rfl (fun h3 => by cases h3) q35 ?_
  refine r_aload_n (pc := 38) 0 (n := 0) (by decide +kernel) rfl rfl ?_
  refine r_iconst (pc := 39) (z := 0) (by decide +kernel) ⟨by decide, by decide⟩ ?_
  obtain ⟨m40, q40, h⟩ := bnd h
  refine r_put (pc := 40) (by decide +kernel) fl_Reducer_40 (by decide) (Or.inr nf_3_11) rfl (fun _ => Or.inl rfl) q40 ?_
  obtain rfl := Option.some.inj h
  exact r_ret (pc := 43) (r := none) (by decide +kernel) rfl trivial (Nat.le_of_ble_eq_true rfl) (Nat.le_of_ble_eq_true rfl)

/-! TreeTongues$Step.from(I)I -/
noncomputable def D_Step_from (a0 a1 : Int) (M : Mem) : Option (Int × Mem) := (gf M a0 6 2 0).bind fun g1 => (rd M 10 g1 (iand a1 63)).bind fun e8 => (gf M a0 6 2 1).bind fun g10 => (rd M 10 g10 (iand (ishr a1 6) 63)).bind fun e20 => some (ior e8 e20, M)
theorem c_Step_from {d : Nat} (hd : 1 ≤ d) {a0 a1 : Int} {M : Mem} {x : Int × Mem} (h : D_Step_from a0 a1 M = some x) : Ct d Y_Step_from [(2, a0), (0, a1)] M (some (0, x.1), x.2) 0 0 := by
  refine ct_of yk_Step_from (Nat.le_of_ble_eq_true rfl) ?_
  rw [D_Step_from] at h
  show Rn Y_Step_from d 0 0 0 0 (some (0, x.1), x.2) 0 [(0, (2, a0)), (1, (0, a1))] [] M
  refine r_aload_n (pc := 0) 0 (n := 0) (by decide +kernel) rfl rfl ?_
  obtain ⟨g1, q1, h⟩ := bnd h
  refine r_get (pc := 1) (by decide +kernel) fl_Step_9.r (by decide) rfl q1 ?_
  refine r_iload_n (pc := 4) 1 (n := 1) (by decide +kernel) rfl rfl ?_
  refine r_bipush (pc := 5) (z := 63) (by decide +kernel) ⟨by decide, by decide⟩ ?_
  refine r_iand (pc := 7) (by decide +kernel) ?_
  obtain ⟨e8, q8, h⟩ := bnd h
  refine r_iald (pc := 8) (by decide +kernel) q8 ?_
  refine r_aload_n (pc := 9) 0 (n := 0) (by decide +kernel) rfl rfl ?_
  obtain ⟨g10, q10, h⟩ := bnd h
  refine r_get (pc := 10) (by decide +kernel) fl_Step_15.r (by decide) rfl q10 ?_
  refine r_iload_n (pc := 13) 1 (n := 1) (by decide +kernel) rfl rfl ?_
  refine r_bipush (pc := 14) (z := 6) (by decide +kernel) ⟨by decide, by decide⟩ ?_
  refine r_ishr (pc := 16) (by decide +kernel) ?_
  refine r_bipush (pc := 17) (z := 63) (by decide +kernel) ⟨by decide, by decide⟩ ?_
  refine r_iand (pc := 19) (by decide +kernel) ?_
  obtain ⟨e20, q20, h⟩ := bnd h
  refine r_iald (pc := 20) (by decide +kernel) q20 ?_
  refine r_ior (pc := 21) (by decide +kernel) ?_
  obtain rfl := Option.some.inj h
  exact r_ret (pc := 22) (r := some (0, ior e8 e20)) (by decide +kernel) rfl trivial (Nat.le_of_ble_eq_true rfl) (Nat.le_of_ble_eq_true rfl)

/-! TreeTongues$Net.accepts(I)Z -/
noncomputable def D_Net_accepts (a0 a1 : Int) (M : Mem) : Option (Int × Mem) := (gf M a0 2 6 3).bind fun g2 => (if (iand a1 g2) = 0 then (some 0) else (some 1)).bind fun (t6 : Int) => (gf M a0 2 6 4).bind fun g16 => (if (iand a1 g16) = 0 then (some 0) else (some 2)).bind fun (t20 : Int) => lt (wr (t6 + t20)) fun u2_29 => (gf M a0 2 6 5).bind fun g31 => if (iand (ishr g31 u2_29) 1) = 0 then (some (0, M)) else (some (1, M))
theorem c_Net_accepts {d : Nat} (hd : 1 ≤ d) {a0 a1 : Int} {M : Mem} {x : Int × Mem} (h : D_Net_accepts a0 a1 M = some x) : Ct d Y_Net_accepts [(2, a0), (0, a1)] M (some (0, x.1), x.2) 0 0 := by
  refine ct_of yk_Net_accepts (Nat.le_of_ble_eq_true rfl) ?_
  rw [D_Net_accepts] at h
  show Rn Y_Net_accepts d 0 0 0 0 (some (0, x.1), x.2) 0 [(0, (2, a0)), (1, (0, a1))] [] M
  refine r_iload_n (pc := 0) 1 (n := 1) (by decide +kernel) rfl rfl ?_
  refine r_aload_n (pc := 1) 0 (n := 0) (by decide +kernel) rfl rfl ?_
  obtain ⟨g2, q2, h⟩ := bnd h
  refine r_get (pc := 2) (by decide +kernel) fl_Net_19.r (by decide) rfl q2 ?_
  refine r_iand (pc := 5) (by decide +kernel) ?_
  obtain ⟨t6, ht6, h⟩ := bnd h
  have E6_0 : Rn Y_Net_accepts d 0 0 0 0 (some (0, x.1), x.2) 14 [(0, (2, a0)), (1, (0, a1))] [(0, t6)] M := by
    refine r_iload_n (pc := 14) 1 (n := 1) (by decide +kernel) rfl rfl ?_
    refine r_aload_n (pc := 15) 0 (n := 0) (by decide +kernel) rfl rfl ?_
    obtain ⟨g16, q16, h⟩ := bnd h
    refine r_get (pc := 16) (by decide +kernel) fl_Net_22.r (by decide) rfl q16 ?_
    refine r_iand (pc := 19) (by decide +kernel) ?_
    obtain ⟨t20, ht20, h⟩ := bnd h
    have E20_0 : Rn Y_Net_accepts d 0 0 0 0 (some (0, x.1), x.2) 28 [(0, (2, a0))] [(0, t20), (0, t6)] M := by
      refine r_iadd (pc := 28) (by decide +kernel) ?_
      obtain ⟨u2_29, q29, h⟩ := lt_o h
      refine r_eq q29 ?_
      refine r_istore_n (pc := 29) (n := 2) (lv' := [(2, (0, u2_29)), (0, (2, a0))]) (by decide +kernel) rfl (Nat.le_of_ble_eq_true rfl) rfl ?_
      refine r_aload_n (pc := 30) 1 (n := 0) (by decide +kernel) rfl rfl ?_
      obtain ⟨g31, q31, h⟩ := bnd h
      refine r_get (pc := 31) (by decide +kernel) fl_Net_25.r (by decide) rfl q31 ?_
      refine r_iload_n (pc := 34) 0 (n := 2) (by decide +kernel) rfl rfl ?_
      refine r_ishr (pc := 35) (by decide +kernel) ?_
      refine r_iconst (pc := 36) (z := 1) (by decide +kernel) ⟨by decide, by decide⟩ ?_
      refine r_iand (pc := 37) (by decide +kernel) ?_
      refine r_if_eq (pc := 38) (off := 7) (tgt := 45) (by decide +kernel) (by decide) (fun c38 => ?_) (fun c38 => ?_)
      · have h := ite_t c38 h
        refine r_iconst (pc := 45) (z := 0) (by decide +kernel) ⟨by decide, by decide⟩ ?_
        obtain rfl := Option.some.inj h
        exact r_ret (pc := 46) (r := some (0, 0)) (by decide +kernel) rfl (Or.inl rfl) (Nat.le_of_ble_eq_true rfl) (Nat.le_of_ble_eq_true rfl)
      · have h := ite_f c38 h
        refine r_iconst (pc := 41) (z := 1) (by decide +kernel) ⟨by decide, by decide⟩ ?_
        refine r_goto (pc := 42) (off := 4) (tgt := 46) (by decide +kernel) (by decide) ?_
        obtain rfl := Option.some.inj h
        exact r_ret (pc := 46) (r := some (0, 1)) (by decide +kernel) rfl (Or.inr rfl) (Nat.le_of_ble_eq_true rfl) (Nat.le_of_ble_eq_true rfl)
    refine r_if_eq (pc := 20) (off := 7) (tgt := 27) (by decide +kernel) (by decide) (fun c20 => ?_) (fun c20 => ?_)
    · have ht20 := ite_t c20 ht20
      refine r_iconst (pc := 27) (z := 0) (by decide +kernel) ⟨by decide, by decide⟩ ?_
      obtain rfl := Option.some.inj ht20
      refine r_lv [0] rfl ?_
      exact E20_0
    · have ht20 := ite_f c20 ht20
      refine r_iconst (pc := 23) (z := 2) (by decide +kernel) ⟨by decide, by decide⟩ ?_
      refine r_goto (pc := 24) (off := 4) (tgt := 28) (by decide +kernel) (by decide) ?_
      obtain rfl := Option.some.inj ht20
      refine r_lv [0] rfl ?_
      exact E20_0
  refine r_if_eq (pc := 6) (off := 7) (tgt := 13) (by decide +kernel) (by decide) (fun c6 => ?_) (fun c6 => ?_)
  · have ht6 := ite_t c6 ht6
    refine r_iconst (pc := 13) (z := 0) (by decide +kernel) ⟨by decide, by decide⟩ ?_
    obtain rfl := Option.some.inj ht6
    exact E6_0
  · have ht6 := ite_f c6 ht6
    refine r_iconst (pc := 9) (z := 1) (by decide +kernel) ⟨by decide, by decide⟩ ?_
    refine r_goto (pc := 10) (off := 4) (tgt := 14) (by decide +kernel) (by decide) ?_
    obtain rfl := Option.some.inj ht6
    exact E6_0

/-! TreeTongues$Reducer.marksOf(I)I -/
noncomputable def L_Reducer_marksOf_21 (k : Int → Mem → Option (Int × Mem)) (v0 : Int) (v1 : Int) (v2 : Int) (v3 : Int) : Nat → Int → Int → Int → Mem → Option (Int × Mem)
  | 0 => fun _ _ _ _ => none
  | n + 1 => fun v4 v5 v6 M => (if 8 ≤ v6 then (some 0) else (if v5 ≤ 0 then (some 0) else (some 1))).bind fun (t25 : Int) => if t25 = 0 then (k v4 M) else ((gf M v0 3 17 12).bind fun g34 => (rd M 13 g34 v5).bind fun e39 => (ck M e39 6 2).bind fun _ => (D_Step_from e39 v4 M).bind fun x42 => (gf x42.2 v0 3 17 13).bind fun g48 => (rd x42.2 10 g48 v5).bind fun e53 => L_Reducer_marksOf_21 k v0 v1 v2 v3 n x42.1 e53 (wr (v6 + 1)) x42.2)
noncomputable def L_Reducer_marksOf_4 (k : Int → Mem → Option (Int × Mem)) (v0 : Int) (v1 : Int) : Nat → Int → Int → Mem → Option (Int × Mem)
  | 0 => fun _ _ _ => none
  | n + 1 => fun v2 v3 M => (gf M v0 3 17 14).bind fun g6 => if g6 ≤ v3 then (k v2 M) else (L_Reducer_marksOf_21 (fun w4_21 m21 => (gf m21 v0 3 17 1).bind fun g64 => (ck m21 g64 2 6).bind fun _ => (D_Net_accepts g64 w4_21 m21).bind fun x69 => (if x69.1 = 0 then (some 0) else (some (ishl 1 v3))).bind fun (t72 : Int) => lt (ior v2 t72) fun u2_83 => L_Reducer_marksOf_4 k v0 v1 n u2_83 (wr (v3 + 1)) x69.2) v0 v1 v2 v3 FU v1 v3 0 M)
noncomputable def D_Reducer_marksOf (a0 a1 : Int) (M : Mem) : Option (Int × Mem) := L_Reducer_marksOf_4 (fun w2_4 m4 => some (w2_4, m4)) a0 a1 FU 0 0 M
theorem sL_Reducer_marksOf_21 {d mc ms : Nat} (hd : 2 ≤ d) {r : Int × Mem} {k : Int → Mem → Option (Int × Mem)} {v0 : Int} {v1 : Int} {v2 : Int} {v3 : Int} (hk : ∀ (v4 : Int) (M : Mem), k v4 M = some r → Rn Y_Reducer_marksOf d mc ms 0 0 (some (0, r.1), r.2) 62 [(0, (2, v0)), (1, (0, v1)), (2, (0, v2)), (3, (0, v3)), (4, (0, v4))] [] M) : ∀ (n : Nat) (v4 : Int) (v5 : Int) (v6 : Int) (M : Mem), L_Reducer_marksOf_21 k v0 v1 v2 v3 n v4 v5 v6 M = some r → Rn Y_Reducer_marksOf d mc ms 0 0 (some (0, r.1), r.2) 21 [(0, (2, v0)), (1, (0, v1)), (2, (0, v2)), (3, (0, v3)), (4, (0, v4)), (5, (0, v5)), (6, (0, v6))] [] M := by
  intro n
  induction n with
  | zero => intro _ _ _ _ h; cases h
  | succ n ih =>
    intro v4 v5 v6 M h
    rw [L_Reducer_marksOf_21] at h
    refine r_iload (pc := 21) 6 (by decide +kernel) rfl ?_
    refine r_bipush (pc := 23) (z := 8) (by decide +kernel) ⟨by decide, by decide⟩ ?_
    obtain ⟨t25, ht25, h⟩ := bnd h
    have E25_0 : t25 = 0 → Rn Y_Reducer_marksOf d mc ms 0 0 (some (0, r.1), r.2) 62 [(0, (2, v0)), (1, (0, v1)), (2, (0, v2)), (3, (0, v3)), (4, (0, v4))] [] M := by
      intro y0
      have h := ite_t y0 h
      exact hk v4 M h
    have E25_1 : ¬ t25 = 0 → Rn Y_Reducer_marksOf d mc ms 0 0 (some (0, r.1), r.2) 33 [(0, (2, v0)), (1, (0, v1)), (2, (0, v2)), (3, (0, v3)), (4, (0, v4)), (5, (0, v5)), (6, (0, v6))] [] M := by
      intro n0
      have h := ite_f n0 h
      refine r_aload_n (pc := 33) 0 (n := 0) (by decide +kernel) rfl rfl ?_
      obtain ⟨g34, q34, h⟩ := bnd h
      refine r_get (pc := 34) (by decide +kernel) fl_Reducer_46.r (by decide) rfl q34 ?_
      refine r_iload (pc := 37) 5 (by decide +kernel) rfl ?_
      obtain ⟨e39, q39, h⟩ := bnd h
      refine r_aald (pc := 39) (by decide) (by decide +kernel) q39 ?_
      refine r_iload (pc := 40) 4 (by decide +kernel) rfl ?_
      obtain ⟨_, q42c, h⟩ := bnd h
      obtain ⟨x42, q42, h⟩ := bnd h
      refine r_callV (pc := 42) (i := 112) (d2 := d - 1) (As := [(0, v4)]) (st := []) (st1 := [(0, v4), (2, e39)]) (by decide +kernel) yk_Step_from (by decide) rfl ⟨ml_Reducer_112, vk_Step_from⟩ np_Step_from rfl (by omega) q42c (c_Step_from (d := d - 1) (by omega) q42) (Nat.le_of_ble_eq_true rfl) (Nat.le_of_ble_eq_true rfl) (Nat.le_of_ble_eq_true rfl) rfl ?_
      show Rn _ d _ _ 0 0 _ 45 [(0, (2, v0)), (1, (0, v1)), (2, (0, v2)), (3, (0, v3)), (4, (0, v4)), (5, (0, v5)), (6, (0, v6))] [(0, x42.1)] x42.2
      refine r_istore (pc := 45) (lv' := [(4, (0, x42.1)), (0, (2, v0)), (1, (0, v1)), (2, (0, v2)), (3, (0, v3)), (5, (0, v5)), (6, (0, v6))]) (by decide +kernel) (Nat.le_of_ble_eq_true rfl) rfl ?_
      refine r_aload_n (pc := 47) 1 (n := 0) (by decide +kernel) rfl rfl ?_
      obtain ⟨g48, q48, h⟩ := bnd h
      refine r_get (pc := 48) (by decide +kernel) fl_Reducer_50.r (by decide) rfl q48 ?_
      refine r_iload (pc := 51) 5 (by decide +kernel) rfl ?_
      obtain ⟨e53, q53, h⟩ := bnd h
      refine r_iald (pc := 53) (by decide +kernel) q53 ?_
      refine r_istore (pc := 54) (lv' := [(5, (0, e53)), (4, (0, x42.1)), (0, (2, v0)), (1, (0, v1)), (2, (0, v2)), (3, (0, v3)), (6, (0, v6))]) (by decide +kernel) (Nat.le_of_ble_eq_true rfl) rfl ?_
      refine r_iinc (pc := 56) 6 (n := 1) (lv' := [(6, (0, wr (v6 + 1))), (5, (0, e53)), (4, (0, x42.1)), (0, (2, v0)), (1, (0, v1)), (2, (0, v2)), (3, (0, v3))]) (by decide +kernel) rfl (Nat.le_of_ble_eq_true rfl) rfl ?_
      refine r_goto (pc := 59) (off := (-38)) (tgt := 21) (by decide +kernel) (by decide) ?_
      refine r_lv [3, 4, 5, 6, 2, 1, 0] rfl ?_
      exact ih x42.1 e53 (wr (v6 + 1)) x42.2 h
    refine r_icmp_ge (pc := 25) (off := 37) (tgt := 62) (by decide +kernel) (by decide) (fun c25 => ?_) (fun c25 => ?_)
    · have ht25 := ite_t c25 ht25
      obtain rfl := Option.some.inj ht25
      refine r_lv [0, 1, 2, 3, 4] rfl ?_
      exact E25_0 rfl
    · have ht25 := ite_f c25 ht25
      refine r_iload (pc := 28) 5 (by decide +kernel) rfl ?_
      refine r_if_le (pc := 30) (off := 32) (tgt := 62) (by decide +kernel) (by decide) (fun c30 => ?_) (fun c30 => ?_)
      · have ht25 := ite_t c30 ht25
        obtain rfl := Option.some.inj ht25
        refine r_lv [0, 1, 2, 3, 4] rfl ?_
        exact E25_0 rfl
      · have ht25 := ite_f c30 ht25
        obtain rfl := Option.some.inj ht25
        exact E25_1 (show ¬ (1 : Int) = 0 by decide)
theorem sL_Reducer_marksOf_4 {d mc ms : Nat} (hd : 2 ≤ d) {r : Int × Mem} {k : Int → Mem → Option (Int × Mem)} {v0 : Int} {v1 : Int} (hk : ∀ (v2 : Int) (M : Mem), k v2 M = some r → Rn Y_Reducer_marksOf d mc ms 0 0 (some (0, r.1), r.2) 90 [(2, (0, v2))] [] M) : ∀ (n : Nat) (v2 : Int) (v3 : Int) (M : Mem), L_Reducer_marksOf_4 k v0 v1 n v2 v3 M = some r → Rn Y_Reducer_marksOf d mc ms 0 0 (some (0, r.1), r.2) 4 [(0, (2, v0)), (1, (0, v1)), (2, (0, v2)), (3, (0, v3))] [] M := by
  intro n
  induction n with
  | zero => intro _ _ _ h; cases h
  | succ n ih =>
    intro v2 v3 M h
    rw [L_Reducer_marksOf_4] at h
    refine r_iload_n (pc := 4) 3 (n := 3) (by decide +kernel) rfl rfl ?_
    refine r_aload_n (pc := 5) 0 (n := 0) (by decide +kernel) rfl rfl ?_
    obtain ⟨g6, q6, h⟩ := bnd h
    refine r_get (pc := 6) (by decide +kernel) fl_Reducer_53.r (by decide) rfl q6 ?_
    refine r_icmp_ge (pc := 9) (off := 81) (tgt := 90) (by decide +kernel) (by decide) (fun c9 => ?_) (fun c9 => ?_)
    · have h := ite_t c9 h
      refine r_lv [2] rfl ?_
      exact hk v2 M h
    · have h := ite_f c9 h
      refine r_iload_n (pc := 12) 1 (n := 1) (by decide +kernel) rfl rfl ?_
      refine r_istore (pc := 13) (lv' := [(4, (0, v1)), (0, (2, v0)), (1, (0, v1)), (2, (0, v2)), (3, (0, v3))]) (by decide +kernel) (Nat.le_of_ble_eq_true rfl) rfl ?_
      refine r_iload_n (pc := 15) 4 (n := 3) (by decide +kernel) rfl rfl ?_
      refine r_istore (pc := 16) (lv' := [(5, (0, v3)), (4, (0, v1)), (0, (2, v0)), (1, (0, v1)), (2, (0, v2)), (3, (0, v3))]) (by decide +kernel) (Nat.le_of_ble_eq_true rfl) rfl ?_
      refine r_iconst (pc := 18) (z := 0) (by decide +kernel) ⟨by decide, by decide⟩ ?_
      refine r_istore (pc := 19) (lv' := [(6, (0, 0)), (5, (0, v3)), (4, (0, v1)), (0, (2, v0)), (1, (0, v1)), (2, (0, v2)), (3, (0, v3))]) (by decide +kernel) (Nat.le_of_ble_eq_true rfl) rfl ?_
      refine r_lv [3, 4, 5, 6, 2, 1, 0] rfl ?_
      refine sL_Reducer_marksOf_21 (by omega) ?_ _ _ _ _  _ h
      intro w4_21 m21 h
      refine r_iload_n (pc := 62) 2 (n := 2) (by decide +kernel) rfl rfl ?_
      refine r_aload_n (pc := 63) 0 (n := 0) (by decide +kernel) rfl rfl ?_
      obtain ⟨g64, q64, h⟩ := bnd h
      refine r_get (pc := 64) (by decide +kernel) fl_Reducer_68.r (by decide) rfl q64 ?_
      refine r_iload (pc := 67) 4 (by decide +kernel) rfl ?_
      obtain ⟨_, q69c, h⟩ := bnd h
      obtain ⟨x69, q69, h⟩ := bnd h
      refine r_callV (pc := 69) (i := 115) (d2 := d - 1) (As := [(0, w4_21)]) (st := [(0, v2)]) (st1 := [(0, w4_21), (2, g64), (0, v2)]) (by decide +kernel) yk_Net_accepts (by decide) rfl ⟨ml_Reducer_115, vk_Net_accepts⟩ np_Net_accepts rfl (by omega) q69c (c_Net_accepts (d := d - 1) (by omega) q69) (Nat.le_of_ble_eq_true rfl) (Nat.le_of_ble_eq_true rfl) (Nat.le_of_ble_eq_true rfl) rfl ?_
      show Rn _ d _ _ 0 0 _ 72 [(0, (2, v0)), (1, (0, v1)), (2, (0, v2)), (3, (0, v3)), (4, (0, w4_21))] [(0, x69.1), (0, v2)] x69.2
      obtain ⟨t72, ht72, h⟩ := bnd h
      have E72_0 : Rn Y_Reducer_marksOf d mc ms 0 0 (some (0, r.1), r.2) 82 [(0, (2, v0)), (1, (0, v1)), (3, (0, v3))] [(0, t72), (0, v2)] x69.2 := by
        refine r_ior (pc := 82) (by decide +kernel) ?_
        obtain ⟨u2_83, q83, h⟩ := lt_o h
        refine r_eq q83 ?_
        refine r_istore_n (pc := 83) (n := 2) (lv' := [(2, (0, u2_83)), (0, (2, v0)), (1, (0, v1)), (3, (0, v3))]) (by decide +kernel) rfl (Nat.le_of_ble_eq_true rfl) rfl ?_
        refine r_iinc (pc := 84) 3 (n := 1) (lv' := [(3, (0, wr (v3 + 1))), (2, (0, u2_83)), (0, (2, v0)), (1, (0, v1))]) (by decide +kernel) rfl (Nat.le_of_ble_eq_true rfl) rfl ?_
        refine r_goto (pc := 87) (off := (-83)) (tgt := 4) (by decide +kernel) (by decide) ?_
        refine r_lv [2, 3, 1, 0] rfl ?_
        exact ih u2_83 (wr (v3 + 1)) x69.2 h
      refine r_if_eq (pc := 72) (off := 9) (tgt := 81) (by decide +kernel) (by decide) (fun c72 => ?_) (fun c72 => ?_)
      · have ht72 := ite_t c72 ht72
        refine r_iconst (pc := 81) (z := 0) (by decide +kernel) ⟨by decide, by decide⟩ ?_
        obtain rfl := Option.some.inj ht72
        refine r_lv [0, 1, 3] rfl ?_
        exact E72_0
      · have ht72 := ite_f c72 ht72
        refine r_iconst (pc := 75) (z := 1) (by decide +kernel) ⟨by decide, by decide⟩ ?_
        refine r_iload_n (pc := 76) 3 (n := 3) (by decide +kernel) rfl rfl ?_
        refine r_ishl (pc := 77) (by decide +kernel) ?_
        refine r_goto (pc := 78) (off := 4) (tgt := 82) (by decide +kernel) (by decide) ?_
        obtain rfl := Option.some.inj ht72
        refine r_lv [0, 1, 3] rfl ?_
        exact E72_0
theorem c_Reducer_marksOf {d : Nat} (hd : 2 ≤ d) {a0 a1 : Int} {M : Mem} {x : Int × Mem} (h : D_Reducer_marksOf a0 a1 M = some x) : Ct d Y_Reducer_marksOf [(2, a0), (0, a1)] M (some (0, x.1), x.2) 0 0 := by
  refine ct_of yk_Reducer_marksOf (Nat.le_of_ble_eq_true rfl) ?_
  rw [D_Reducer_marksOf] at h
  show Rn Y_Reducer_marksOf d 0 0 0 0 (some (0, x.1), x.2) 0 [(0, (2, a0)), (1, (0, a1))] [] M
  refine r_iconst (pc := 0) (z := 0) (by decide +kernel) ⟨by decide, by decide⟩ ?_
  refine r_istore_n (pc := 1) (n := 2) (lv' := [(2, (0, 0)), (0, (2, a0)), (1, (0, a1))]) (by decide +kernel) rfl (Nat.le_of_ble_eq_true rfl) rfl ?_
  refine r_iconst (pc := 2) (z := 0) (by decide +kernel) ⟨by decide, by decide⟩ ?_
  refine r_istore_n (pc := 3) (n := 3) (lv' := [(3, (0, 0)), (2, (0, 0)), (0, (2, a0)), (1, (0, a1))]) (by decide +kernel) rfl (Nat.le_of_ble_eq_true rfl) rfl ?_
  refine r_lv [2, 3, 1, 0] rfl ?_
  refine sL_Reducer_marksOf_4 (by omega) ?_ _ _ _  _ h
  intro w2_4 m4 h
  refine r_iload_n (pc := 90) 0 (n := 2) (by decide +kernel) rfl rfl ?_
  obtain rfl := Option.some.inj h
  exact r_ret (pc := 91) (r := some (0, w2_4)) (by decide +kernel) rfl trivial (Nat.le_of_ble_eq_true rfl) (Nat.le_of_ble_eq_true rfl)

/-! TreeTongues$Reducer.kindWith(II)I -/
noncomputable def L_Reducer_kindWith_2 (k : Mem → Option (Int × Mem)) (v0 : Int) (v1 : Int) (v2 : Int) : Nat → Int → Mem → Option (Int × Mem)
  | 0 => fun _ _ => none
  | n + 1 => fun v3 M => (gf M v0 3 17 10).bind fun g4 => if g4 ≤ v3 then (k  M) else ((gf M v0 3 17 8).bind fun g11 => (rd M 10 g11 v3).bind fun e15 => if e15 = v1 then (some (v3, M)) else (L_Reducer_kindWith_2 k v0 v1 v2 n (wr (v3 + 1)) M))
noncomputable def D_Reducer_kindWith (a0 a1 a2 : Int) (M : Mem) : Option (Int × Mem) := L_Reducer_kindWith_2 (fun  m2 => (gf m2 a0 3 17 10).bind fun g29 => if g29 < 6 then ((gf m2 a0 3 17 8).bind fun g45 => (gf m2 a0 3 17 10).bind fun g49 => (wt m2 10 g45 g49 a1).bind fun m53 => (gf m53 a0 3 17 7).bind fun g55 => (gf m53 a0 3 17 10).bind fun g59 => (wt m53 10 g55 g59 a2).bind fun m63 => (gf m63 a0 3 17 10).bind fun g66 => (pf m63 a0 3 17 10 (wr (g66 + 1))).bind fun m72 => some (g66, m72)) else ((pf m2 a0 3 17 11 1).bind fun m39 => some ((-1), m39))) a0 a1 a2 FU 0 M
theorem sL_Reducer_kindWith_2 {d mc ms : Nat} (hd : 1 ≤ d) {r : Int × Mem} {k : Mem → Option (Int × Mem)} {v0 : Int} {v1 : Int} {v2 : Int} (hk : ∀ (M : Mem), k M = some r → Rn Y_Reducer_kindWith d mc ms 0 0 (some (0, r.1), r.2) 28 [(0, (2, v0)), (1, (0, v1)), (2, (0, v2))] [] M) : ∀ (n : Nat) (v3 : Int) (M : Mem), L_Reducer_kindWith_2 k v0 v1 v2 n v3 M = some r → Rn Y_Reducer_kindWith d mc ms 0 0 (some (0, r.1), r.2) 2 [(0, (2, v0)), (1, (0, v1)), (2, (0, v2)), (3, (0, v3))] [] M := by
  intro n
  induction n with
  | zero => intro _ _ h; cases h
  | succ n ih =>
    intro v3 M h
    rw [L_Reducer_kindWith_2] at h
    refine r_iload_n (pc := 2) 3 (n := 3) (by decide +kernel) rfl rfl ?_
    refine r_aload_n (pc := 3) 0 (n := 0) (by decide +kernel) rfl rfl ?_
    obtain ⟨g4, q4, h⟩ := bnd h
    refine r_get (pc := 4) (by decide +kernel) fl_Reducer_37.r (by decide) rfl q4 ?_
    refine r_icmp_ge (pc := 7) (off := 21) (tgt := 28) (by decide +kernel) (by decide) (fun c7 => ?_) (fun c7 => ?_)
    · have h := ite_t c7 h
      refine r_lv [0, 1, 2] rfl ?_
      exact hk  M h
    · have h := ite_f c7 h
      refine r_aload_n (pc := 10) 0 (n := 0) (by decide +kernel) rfl rfl ?_
      obtain ⟨g11, q11, h⟩ := bnd h
      refine r_get (pc := 11) (by decide +kernel) fl_Reducer_31.r (by decide) rfl q11 ?_
      refine r_iload_n (pc := 14) 3 (n := 3) (by decide +kernel) rfl rfl ?_
      obtain ⟨e15, q15, h⟩ := bnd h
      refine r_iald (pc := 15) (by decide +kernel) q15 ?_
      refine r_iload_n (pc := 16) 1 (n := 1) (by decide +kernel) rfl rfl ?_
      refine r_icmp_ne (pc := 17) (off := 5) (tgt := 22) (by decide +kernel) (by decide) (fun c17 => ?_) (fun c17 => ?_)
      · have h := ite_f c17 h
        refine r_iinc (pc := 22) 3 (n := 1) (lv' := [(3, (0, wr (v3 + 1))), (0, (2, v0)), (1, (0, v1)), (2, (0, v2))]) (by decide +kernel) rfl (Nat.le_of_ble_eq_true rfl) rfl ?_
        refine r_goto (pc := 25) (off := (-23)) (tgt := 2) (by decide +kernel) (by decide) ?_
        refine r_lv [1, 2, 3, 0] rfl ?_
        exact ih (wr (v3 + 1)) M h
      · have h := ite_t c17 h
        refine r_iload_n (pc := 20) 3 (n := 3) (by decide +kernel) rfl rfl ?_
        obtain rfl := Option.some.inj h
        exact r_ret (pc := 21) (r := some (0, v3)) (by decide +kernel) rfl trivial (Nat.le_of_ble_eq_true rfl) (Nat.le_of_ble_eq_true rfl)
theorem c_Reducer_kindWith {d : Nat} (hd : 1 ≤ d) {a0 a1 a2 : Int} {M : Mem} {x : Int × Mem} (h : D_Reducer_kindWith a0 a1 a2 M = some x) : Ct d Y_Reducer_kindWith [(2, a0), (0, a1), (0, a2)] M (some (0, x.1), x.2) 0 0 := by
  refine ct_of yk_Reducer_kindWith (Nat.le_of_ble_eq_true rfl) ?_
  rw [D_Reducer_kindWith] at h
  show Rn Y_Reducer_kindWith d 0 0 0 0 (some (0, x.1), x.2) 0 [(0, (2, a0)), (1, (0, a1)), (2, (0, a2))] [] M
  refine r_iconst (pc := 0) (z := 0) (by decide +kernel) ⟨by decide, by decide⟩ ?_
  refine r_istore_n (pc := 1) (n := 3) (lv' := [(3, (0, 0)), (0, (2, a0)), (1, (0, a1)), (2, (0, a2))]) (by decide +kernel) rfl (Nat.le_of_ble_eq_true rfl) rfl ?_
  refine r_lv [1, 2, 3, 0] rfl ?_
  refine sL_Reducer_kindWith_2 (by omega) ?_ _ _  _ h
  intro m2 h
  refine r_aload_n (pc := 28) 0 (n := 0) (by decide +kernel) rfl rfl ?_
  obtain ⟨g29, q29, h⟩ := bnd h
  refine r_get (pc := 29) (by decide +kernel) fl_Reducer_37.r (by decide) rfl q29 ?_
  refine r_bipush (pc := 32) (z := 6) (by decide +kernel) ⟨by decide, by decide⟩ ?_
  refine r_icmp_lt (pc := 34) (off := 10) (tgt := 44) (by decide +kernel) (by decide) (fun c34 => ?_) (fun c34 => ?_)
  · have h := ite_t c34 h
    refine r_aload_n (pc := 44) 0 (n := 0) (by decide +kernel) rfl rfl ?_
    obtain ⟨g45, q45, h⟩ := bnd h
    refine r_get (pc := 45) (by decide +kernel) fl_Reducer_31.r (by decide) rfl q45 ?_
    refine r_aload_n (pc := 48) 0 (n := 0) (by decide +kernel) rfl rfl ?_
    obtain ⟨g49, q49, h⟩ := bnd h
    refine r_get (pc := 49) (by decide +kernel) fl_Reducer_37.r (by decide) rfl q49 ?_
    refine r_iload_n (pc := 52) 1 (n := 1) (by decide +kernel) rfl rfl ?_
    obtain ⟨m53, q53, h⟩ := bnd h
    refine r_iast (pc := 53) (by decide +kernel) q53 ?_
    refine r_aload_n (pc := 54) 0 (n := 0) (by decide +kernel) rfl rfl ?_
    obtain ⟨g55, q55, h⟩ := bnd h
    refine r_get (pc := 55) (by decide +kernel) fl_Reducer_28.r (by decide) rfl q55 ?_
    refine r_aload_n (pc := 58) 0 (n := 0) (by decide +kernel) rfl rfl ?_
    obtain ⟨g59, q59, h⟩ := bnd h
    refine r_get (pc := 59) (by decide +kernel) fl_Reducer_37.r (by decide) rfl q59 ?_
    refine r_iload_n (pc := 62) 2 (n := 2) (by decide +kernel) rfl rfl ?_
    obtain ⟨m63, q63, h⟩ := bnd h
    refine r_iast (pc := 63) (by decide +kernel) q63 ?_
    refine r_aload_n (pc := 64) 0 (n := 0) (by decide +kernel) rfl rfl ?_
    refine r_dup (pc := 65) (by decide +kernel) rfl ?_
    obtain ⟨g66, q66, h⟩ := bnd h
    refine r_get (pc := 66) (by decide +kernel) fl_Reducer_37.r (by decide) rfl q66 ?_
    refine r_dup_x1 (pc := 69) (by decide +kernel) rfl rfl ?_
    refine r_iconst (pc := 70) (z := 1) (by decide +kernel) ⟨by decide, by decide⟩ ?_
    refine r_iadd (pc := 71) (by decide +kernel) ?_
    obtain ⟨m72, q72, h⟩ := bnd h
    refine r_put (pc := 72) (by decide +kernel) fl_Reducer_37 (by decide) (Or.inr nf_3_10) rfl (fun h3 => by cases h3) q72 ?_
    obtain rfl := Option.some.inj h
    exact r_ret (pc := 75) (r := some (0, g66)) (by decide +kernel) rfl trivial (Nat.le_of_ble_eq_true rfl) (Nat.le_of_ble_eq_true rfl)
  · have h := ite_f c34 h
    refine r_aload_n (pc := 37) 0 (n := 0) (by decide +kernel) rfl rfl ?_
    refine r_iconst (pc := 38) (z := 1) (by decide +kernel) ⟨by decide, by decide⟩ ?_
    obtain ⟨m39, q39, h⟩ := bnd h
    refine r_put (pc := 39) (by decide +kernel) fl_Reducer_40 (by decide) (Or.inr nf_3_11) rfl (fun _ => Or.inr rfl) q39 ?_
    refine r_iconst (pc := 42) (z := (-1)) (by decide +kernel) ⟨by decide, by decide⟩ ?_
    obtain rfl := Option.some.inj h
    exact r_ret (pc := 43) (r := some (0, (-1))) (by decide +kernel) rfl trivial (Nat.le_of_ble_eq_true rfl) (Nat.le_of_ble_eq_true rfl)

/-! TreeTongues$Reducer.sortKinds()Z -/
noncomputable def L_Reducer_sortKinds_7 (k : Mem → Option (Int × Mem)) (v0 : Int) : Nat → Int → Mem → Option (Int × Mem)
  | 0 => fun _ _ => none
  | n + 1 => fun v1 M => (gf M v0 3 17 6).bind fun g9 => if g9 ≤ v1 then (k  M) else ((gf M v0 3 17 3).bind fun g16 => (gf M v0 3 17 2).bind fun g22 => (rd M 10 g22 v1).bind fun e26 => (ck M v0 3 17).bind fun _ => (D_Reducer_marksOf v0 e26 M).bind fun x27 => (wt x27.2 10 g16 v1 x27.1).bind fun m30 => (gf m30 v0 3 17 4).bind fun g32 => (gf m30 v0 3 17 3).bind fun g38 => (rd m30 10 g38 v1).bind fun e42 => (gf m30 v0 3 17 2).bind fun g44 => (rd m30 10 g44 v1).bind fun e48 => (ck m30 v0 3 17).bind fun _ => (D_Reducer_kindWith v0 e42 e48 m30).bind fun x49 => (wt x49.2 10 g32 v1 x49.1).bind fun m52 => (gf m52 v0 3 17 4).bind fun g54 => (rd m52 10 g54 v1).bind fun e58 => if e58 = (-1) then (some (0, m52)) else (L_Reducer_sortKinds_7 k v0 n (wr (v1 + 1)) m52))
noncomputable def D_Reducer_sortKinds (a0 : Int) (M : Mem) : Option (Int × Mem) := (pf M a0 3 17 10 0).bind fun m2 => L_Reducer_sortKinds_7 (fun  m7 => some (1, m7)) a0 FU 0 m2
theorem sL_Reducer_sortKinds_7 {d mc ms : Nat} (hd : 3 ≤ d) {r : Int × Mem} {k : Mem → Option (Int × Mem)} {v0 : Int} (hk : ∀ (M : Mem), k M = some r → Rn Y_Reducer_sortKinds d mc ms 0 0 (some (0, r.1), r.2) 71 [] [] M) : ∀ (n : Nat) (v1 : Int) (M : Mem), L_Reducer_sortKinds_7 k v0 n v1 M = some r → Rn Y_Reducer_sortKinds d mc ms 0 0 (some (0, r.1), r.2) 7 [(0, (2, v0)), (1, (0, v1))] [] M := by
  intro n
  induction n with
  | zero => intro _ _ h; cases h
  | succ n ih =>
    intro v1 M h
    rw [L_Reducer_sortKinds_7] at h
    refine r_iload_n (pc := 7) 1 (n := 1) (by decide +kernel) rfl rfl ?_
    refine r_aload_n (pc := 8) 0 (n := 0) (by decide +kernel) rfl rfl ?_
    obtain ⟨g9, q9, h⟩ := bnd h
    refine r_get (pc := 9) (by decide +kernel) fl_Reducer_24.r (by decide) rfl q9 ?_
    refine r_icmp_ge (pc := 12) (off := 59) (tgt := 71) (by decide +kernel) (by decide) (fun c12 => ?_) (fun c12 => ?_)
    · have h := ite_t c12 h
      refine r_lv [] rfl ?_
      exact hk  M h
    · have h := ite_f c12 h
      refine r_aload_n (pc := 15) 0 (n := 0) (by decide +kernel) rfl rfl ?_
      obtain ⟨g16, q16, h⟩ := bnd h
      refine r_get (pc := 16) (by decide +kernel) fl_Reducer_15.r (by decide) rfl q16 ?_
      refine r_iload_n (pc := 19) 1 (n := 1) (by decide +kernel) rfl rfl ?_
      refine r_aload_n (pc := 20) 0 (n := 0) (by decide +kernel) rfl rfl ?_
      refine r_aload_n (pc := 21) 0 (n := 0) (by decide +kernel) rfl rfl ?_
      obtain ⟨g22, q22, h⟩ := bnd h
      refine r_get (pc := 22) (by decide +kernel) fl_Reducer_9.r (by decide) rfl q22 ?_
      refine r_iload_n (pc := 25) 1 (n := 1) (by decide +kernel) rfl rfl ?_
      obtain ⟨e26, q26, h⟩ := bnd h
      refine r_iald (pc := 26) (by decide +kernel) q26 ?_
      obtain ⟨_, q27c, h⟩ := bnd h
      obtain ⟨x27, q27, h⟩ := bnd h
      refine r_callV (pc := 27) (i := 104) (d2 := d - 1) (As := [(0, e26)]) (st := [(0, v1), (2, g16)]) (st1 := [(0, e26), (2, v0), (0, v1), (2, g16)]) (by decide +kernel) yk_Reducer_marksOf (by decide) rfl ⟨ml_Reducer_104, vk_Reducer_marksOf⟩ np_Reducer_marksOf rfl (by omega) q27c (c_Reducer_marksOf (d := d - 1) (by omega) q27) (Nat.le_of_ble_eq_true rfl) (Nat.le_of_ble_eq_true rfl) (Nat.le_of_ble_eq_true rfl) rfl ?_
      show Rn _ d _ _ 0 0 _ 30 [(0, (2, v0)), (1, (0, v1))] [(0, x27.1), (0, v1), (2, g16)] x27.2
      obtain ⟨m30, q30, h⟩ := bnd h
      refine r_iast (pc := 30) (by decide +kernel) q30 ?_
      refine r_aload_n (pc := 31) 0 (n := 0) (by decide +kernel) rfl rfl ?_
      obtain ⟨g32, q32, h⟩ := bnd h
      refine r_get (pc := 32) (by decide +kernel) fl_Reducer_18.r (by decide) rfl q32 ?_
      refine r_iload_n (pc := 35) 1 (n := 1) (by decide +kernel) rfl rfl ?_
      refine r_aload_n (pc := 36) 0 (n := 0) (by decide +kernel) rfl rfl ?_
      refine r_aload_n (pc := 37) 0 (n := 0) (by decide +kernel) rfl rfl ?_
      obtain ⟨g38, q38, h⟩ := bnd h
      refine r_get (pc := 38) (by decide +kernel) fl_Reducer_15.r (by decide) rfl q38 ?_
      refine r_iload_n (pc := 41) 1 (n := 1) (by decide +kernel) rfl rfl ?_
      obtain ⟨e42, q42, h⟩ := bnd h
      refine r_iald (pc := 42) (by decide +kernel) q42 ?_
      refine r_aload_n (pc := 43) 0 (n := 0) (by decide +kernel) rfl rfl ?_
      obtain ⟨g44, q44, h⟩ := bnd h
      refine r_get (pc := 44) (by decide +kernel) fl_Reducer_9.r (by decide) rfl q44 ?_
      refine r_iload_n (pc := 47) 1 (n := 1) (by decide +kernel) rfl rfl ?_
      obtain ⟨e48, q48, h⟩ := bnd h
      refine r_iald (pc := 48) (by decide +kernel) q48 ?_
      obtain ⟨_, q49c, h⟩ := bnd h
      obtain ⟨x49, q49, h⟩ := bnd h
      refine r_callV (pc := 49) (i := 108) (d2 := d - 1) (As := [(0, e42), (0, e48)]) (st := [(0, v1), (2, g32)]) (st1 := [(0, e48), (0, e42), (2, v0), (0, v1), (2, g32)]) (by decide +kernel) yk_Reducer_kindWith (by decide) rfl ⟨ml_Reducer_108, vk_Reducer_kindWith⟩ np_Reducer_kindWith rfl (by omega) q49c (c_Reducer_kindWith (d := d - 1) (by omega) q49) (Nat.le_of_ble_eq_true rfl) (Nat.le_of_ble_eq_true rfl) (Nat.le_of_ble_eq_true rfl) rfl ?_
      show Rn _ d _ _ 0 0 _ 52 [(0, (2, v0)), (1, (0, v1))] [(0, x49.1), (0, v1), (2, g32)] x49.2
      obtain ⟨m52, q52, h⟩ := bnd h
      refine r_iast (pc := 52) (by decide +kernel) q52 ?_
      refine r_aload_n (pc := 53) 0 (n := 0) (by decide +kernel) rfl rfl ?_
      obtain ⟨g54, q54, h⟩ := bnd h
      refine r_get (pc := 54) (by decide +kernel) fl_Reducer_18.r (by decide) rfl q54 ?_
      refine r_iload_n (pc := 57) 1 (n := 1) (by decide +kernel) rfl rfl ?_
      obtain ⟨e58, q58, h⟩ := bnd h
      refine r_iald (pc := 58) (by decide +kernel) q58 ?_
      refine r_iconst (pc := 59) (z := (-1)) (by decide +kernel) ⟨by decide, by decide⟩ ?_
      refine r_icmp_ne (pc := 60) (off := 5) (tgt := 65) (by decide +kernel) (by decide) (fun c60 => ?_) (fun c60 => ?_)
      · have h := ite_f c60 h
        refine r_iinc (pc := 65) 1 (n := 1) (lv' := [(1, (0, wr (v1 + 1))), (0, (2, v0))]) (by decide +kernel) rfl (Nat.le_of_ble_eq_true rfl) rfl ?_
        refine r_goto (pc := 68) (off := (-61)) (tgt := 7) (by decide +kernel) (by decide) ?_
        refine r_lv [1, 0] rfl ?_
        exact ih (wr (v1 + 1)) m52 h
      · have h := ite_t c60 h
        refine r_iconst (pc := 63) (z := 0) (by decide +kernel) ⟨by decide, by decide⟩ ?_
        obtain rfl := Option.some.inj h
        exact r_ret (pc := 64) (r := some (0, 0)) (by decide +kernel) rfl (Or.inl rfl) (Nat.le_of_ble_eq_true rfl) (Nat.le_of_ble_eq_true rfl)
theorem c_Reducer_sortKinds {d : Nat} (hd : 3 ≤ d) {a0 : Int} {M : Mem} {x : Int × Mem} (h : D_Reducer_sortKinds a0 M = some x) : Ct d Y_Reducer_sortKinds [(2, a0)] M (some (0, x.1), x.2) 0 0 := by
  refine ct_of yk_Reducer_sortKinds (Nat.le_of_ble_eq_true rfl) ?_
  rw [D_Reducer_sortKinds] at h
  show Rn Y_Reducer_sortKinds d 0 0 0 0 (some (0, x.1), x.2) 0 [(0, (2, a0))] [] M
  refine r_aload_n (pc := 0) 0 (n := 0) (by decide +kernel) rfl rfl ?_
  refine r_iconst (pc := 1) (z := 0) (by decide +kernel) ⟨by decide, by decide⟩ ?_
  obtain ⟨m2, q2, h⟩ := bnd h
  refine r_put (pc := 2) (by decide +kernel) fl_Reducer_37 (by decide) (Or.inr nf_3_10) rfl (fun h3 => by cases h3) q2 ?_
  refine r_iconst (pc := 5) (z := 0) (by decide +kernel) ⟨by decide, by decide⟩ ?_
  refine r_istore_n (pc := 6) (n := 1) (lv' := [(1, (0, 0)), (0, (2, a0))]) (by decide +kernel) rfl (Nat.le_of_ble_eq_true rfl) rfl ?_
  refine r_lv [1, 0] rfl ?_
  refine sL_Reducer_sortKinds_7 (by omega) ?_ _ _  _ h
  intro m7 h
  refine r_iconst (pc := 71) (z := 1) (by decide +kernel) ⟨by decide, by decide⟩ ?_
  obtain rfl := Option.some.inj h
  exact r_ret (pc := 72) (r := some (0, 1)) (by decide +kernel) rfl (Or.inr rfl) (Nat.le_of_ble_eq_true rfl) (Nat.le_of_ble_eq_true rfl)

/-! TreeTongues$Net.leafImage(I)I -/
noncomputable def D_Net_leafImage (a0 a1 : Int) (M : Mem) : Option (Int × Mem) := (gf M a0 2 6 1).bind fun g1 => (rd M 10 g1 (wr ((wr (a1 * 12)) * 12))).bind fun e11 => some (e11, M)
theorem c_Net_leafImage {d : Nat} (hd : 1 ≤ d) {a0 a1 : Int} {M : Mem} {x : Int × Mem} (h : D_Net_leafImage a0 a1 M = some x) : Ct d Y_Net_leafImage [(2, a0), (0, a1)] M (some (0, x.1), x.2) 0 0 := by
  refine ct_of yk_Net_leafImage (Nat.le_of_ble_eq_true rfl) ?_
  rw [D_Net_leafImage] at h
  show Rn Y_Net_leafImage d 0 0 0 0 (some (0, x.1), x.2) 0 [(0, (2, a0)), (1, (0, a1))] [] M
  refine r_aload_n (pc := 0) 0 (n := 0) (by decide +kernel) rfl rfl ?_
  obtain ⟨g1, q1, h⟩ := bnd h
  refine r_get (pc := 1) (by decide +kernel) fl_Net_9.r (by decide) rfl q1 ?_
  refine r_iload_n (pc := 4) 1 (n := 1) (by decide +kernel) rfl rfl ?_
  refine r_bipush (pc := 5) (z := 12) (by decide +kernel) ⟨by decide, by decide⟩ ?_
  refine r_imul (pc := 7) (by decide +kernel) ?_
  refine r_bipush (pc := 8) (z := 12) (by decide +kernel) ⟨by decide, by decide⟩ ?_
  refine r_imul (pc := 10) (by decide +kernel) ?_
  obtain ⟨e11, q11, h⟩ := bnd h
  refine r_iald (pc := 11) (by decide +kernel) q11 ?_
  obtain rfl := Option.some.inj h
  exact r_ret (pc := 12) (r := some (0, e11)) (by decide +kernel) rfl trivial (Nat.le_of_ble_eq_true rfl) (Nat.le_of_ble_eq_true rfl)

/-! TreeTongues$Reducer.reach(I)I -/
noncomputable def D_Reducer_reach (a0 a1 : Int) (M : Mem) : Option (Int × Mem) := (gf M a0 3 17 5).bind fun g1 => (rd M 10 g1 a1).bind fun e5 => if e5 ≤ 0 then ((ck M a0 3 17).bind fun _ => (D_Reducer_marksOf a0 a1 M).bind fun x20 => (ck x20.2 a0 3 17).bind fun _ => (D_Reducer_kindWith a0 x20.1 a1 x20.2).bind fun x27 => if x27.1 = (-1) then (some ((-1), x27.2)) else ((gf x27.2 a0 3 17 6).bind fun g37 => if g37 < 384 then ((gf x27.2 a0 3 17 2).bind fun g49 => (gf x27.2 a0 3 17 6).bind fun g53 => (wt x27.2 10 g49 g53 a1).bind fun m57 => (gf m57 a0 3 17 3).bind fun g59 => (gf m57 a0 3 17 6).bind fun g63 => (wt m57 10 g59 g63 x20.1).bind fun m67 => (gf m67 a0 3 17 4).bind fun g69 => (gf m67 a0 3 17 6).bind fun g73 => (wt m67 10 g69 g73 x27.1).bind fun m77 => (gf m77 a0 3 17 6).bind fun g80 => (pf m77 a0 3 17 6 (wr (g80 + 1))).bind fun m85 => (gf m85 a0 3 17 5).bind fun g89 => (gf m85 a0 3 17 6).bind fun g94 => (wt m85 10 g89 a1 g94).bind fun m97 => (gf m97 a0 3 17 6).bind fun g99 => some (wr (g99 - 1), m97)) else (some ((-1), x27.2)))) else ((gf M a0 3 17 5).bind fun g10 => (rd M 10 g10 a1).bind fun e14 => some (wr (e14 - 1), M))
theorem c_Reducer_reach {d : Nat} (hd : 3 ≤ d) {a0 a1 : Int} {M : Mem} {x : Int × Mem} (h : D_Reducer_reach a0 a1 M = some x) : Ct d Y_Reducer_reach [(2, a0), (0, a1)] M (some (0, x.1), x.2) 0 0 := by
  refine ct_of yk_Reducer_reach (Nat.le_of_ble_eq_true rfl) ?_
  rw [D_Reducer_reach] at h
  show Rn Y_Reducer_reach d 0 0 0 0 (some (0, x.1), x.2) 0 [(0, (2, a0)), (1, (0, a1))] [] M
  refine r_aload_n (pc := 0) 0 (n := 0) (by decide +kernel) rfl rfl ?_
  obtain ⟨g1, q1, h⟩ := bnd h
  refine r_get (pc := 1) (by decide +kernel) fl_Reducer_21.r (by decide) rfl q1 ?_
  refine r_iload_n (pc := 4) 1 (n := 1) (by decide +kernel) rfl rfl ?_
  obtain ⟨e5, q5, h⟩ := bnd h
  refine r_iald (pc := 5) (by decide +kernel) q5 ?_
  refine r_if_le (pc := 6) (off := 12) (tgt := 18) (by decide +kernel) (by decide) (fun c6 => ?_) (fun c6 => ?_)
  · have h := ite_t c6 h
    refine r_aload_n (pc := 18) 0 (n := 0) (by decide +kernel) rfl rfl ?_
    refine r_iload_n (pc := 19) 1 (n := 1) (by decide +kernel) rfl rfl ?_
    obtain ⟨_, q20c, h⟩ := bnd h
    obtain ⟨x20, q20, h⟩ := bnd h
    refine r_callV (pc := 20) (i := 104) (d2 := d - 1) (As := [(0, a1)]) (st := []) (st1 := [(0, a1), (2, a0)]) (by decide +kernel) yk_Reducer_marksOf (by decide) rfl ⟨ml_Reducer_104, vk_Reducer_marksOf⟩ np_Reducer_marksOf rfl (by omega) q20c (c_Reducer_marksOf (d := d - 1) (by omega) q20) (Nat.le_of_ble_eq_true rfl) (Nat.le_of_ble_eq_true rfl) (Nat.le_of_ble_eq_true rfl) rfl ?_
    show Rn _ d _ _ 0 0 _ 23 [(0, (2, a0)), (1, (0, a1))] [(0, x20.1)] x20.2
    refine r_istore_n (pc := 23) (n := 2) (lv' := [(2, (0, x20.1)), (0, (2, a0)), (1, (0, a1))]) (by decide +kernel) rfl (Nat.le_of_ble_eq_true rfl) rfl ?_
    refine r_aload_n (pc := 24) 1 (n := 0) (by decide +kernel) rfl rfl ?_
    refine r_iload_n (pc := 25) 0 (n := 2) (by decide +kernel) rfl rfl ?_
    refine r_iload_n (pc := 26) 2 (n := 1) (by decide +kernel) rfl rfl ?_
    obtain ⟨_, q27c, h⟩ := bnd h
    obtain ⟨x27, q27, h⟩ := bnd h
    refine r_callV (pc := 27) (i := 108) (d2 := d - 1) (As := [(0, x20.1), (0, a1)]) (st := []) (st1 := [(0, a1), (0, x20.1), (2, a0)]) (by decide +kernel) yk_Reducer_kindWith (by decide) rfl ⟨ml_Reducer_108, vk_Reducer_kindWith⟩ np_Reducer_kindWith rfl (by omega) q27c (c_Reducer_kindWith (d := d - 1) (by omega) q27) (Nat.le_of_ble_eq_true rfl) (Nat.le_of_ble_eq_true rfl) (Nat.le_of_ble_eq_true rfl) rfl ?_
    show Rn _ d _ _ 0 0 _ 30 [(2, (0, x20.1)), (0, (2, a0)), (1, (0, a1))] [(0, x27.1)] x27.2
    refine r_istore_n (pc := 30) (n := 3) (lv' := [(3, (0, x27.1)), (2, (0, x20.1)), (0, (2, a0)), (1, (0, a1))]) (by decide +kernel) rfl (Nat.le_of_ble_eq_true rfl) rfl ?_
    refine r_iload_n (pc := 31) 0 (n := 3) (by decide +kernel) rfl rfl ?_
    refine r_iconst (pc := 32) (z := (-1)) (by decide +kernel) ⟨by decide, by decide⟩ ?_
    refine r_icmp_eq (pc := 33) (off := 13) (tgt := 46) (by decide +kernel) (by decide) (fun c33 => ?_) (fun c33 => ?_)
    · have h := ite_t c33 h
      refine r_iconst (pc := 46) (z := (-1)) (by decide +kernel) ⟨by decide, by decide⟩ ?_
      obtain rfl := Option.some.inj h
      exact r_ret (pc := 47) (r := some (0, (-1))) (by decide +kernel) rfl trivial (Nat.le_of_ble_eq_true rfl) (Nat.le_of_ble_eq_true rfl)
    · have h := ite_f c33 h
      refine r_aload_n (pc := 36) 2 (n := 0) (by decide +kernel) rfl rfl ?_
      obtain ⟨g37, q37, h⟩ := bnd h
      refine r_get (pc := 37) (by decide +kernel) fl_Reducer_24.r (by decide) rfl q37 ?_
      refine r_sipush (pc := 40) (z := 384) (by decide +kernel) ⟨by decide, by decide⟩ ?_
      refine r_icmp_lt (pc := 43) (off := 5) (tgt := 48) (by decide +kernel) (by decide) (fun c43 => ?_) (fun c43 => ?_)
      · have h := ite_t c43 h
        refine r_aload_n (pc := 48) 2 (n := 0) (by decide +kernel) rfl rfl ?_
        obtain ⟨g49, q49, h⟩ := bnd h
        refine r_get (pc := 49) (by decide +kernel) fl_Reducer_9.r (by decide) rfl q49 ?_
        refine r_aload_n (pc := 52) 2 (n := 0) (by decide +kernel) rfl rfl ?_
        obtain ⟨g53, q53, h⟩ := bnd h
        refine r_get (pc := 53) (by decide +kernel) fl_Reducer_24.r (by decide) rfl q53 ?_
        refine r_iload_n (pc := 56) 3 (n := 1) (by decide +kernel) rfl rfl ?_
        obtain ⟨m57, q57, h⟩ := bnd h
        refine r_iast (pc := 57) (by decide +kernel) q57 ?_
        refine r_aload_n (pc := 58) 2 (n := 0) (by decide +kernel) rfl rfl ?_
        obtain ⟨g59, q59, h⟩ := bnd h
        refine r_get (pc := 59) (by decide +kernel) fl_Reducer_15.r (by decide) rfl q59 ?_
        refine r_aload_n (pc := 62) 2 (n := 0) (by decide +kernel) rfl rfl ?_
        obtain ⟨g63, q63, h⟩ := bnd h
        refine r_get (pc := 63) (by decide +kernel) fl_Reducer_24.r (by decide) rfl q63 ?_
        refine r_iload_n (pc := 66) 1 (n := 2) (by decide +kernel) rfl rfl ?_
        obtain ⟨m67, q67, h⟩ := bnd h
        refine r_iast (pc := 67) (by decide +kernel) q67 ?_
        refine r_aload_n (pc := 68) 2 (n := 0) (by decide +kernel) rfl rfl ?_
        obtain ⟨g69, q69, h⟩ := bnd h
        refine r_get (pc := 69) (by decide +kernel) fl_Reducer_18.r (by decide) rfl q69 ?_
        refine r_aload_n (pc := 72) 2 (n := 0) (by decide +kernel) rfl rfl ?_
        obtain ⟨g73, q73, h⟩ := bnd h
        refine r_get (pc := 73) (by decide +kernel) fl_Reducer_24.r (by decide) rfl q73 ?_
        refine r_iload_n (pc := 76) 0 (n := 3) (by decide +kernel) rfl rfl ?_
        obtain ⟨m77, q77, h⟩ := bnd h
        refine r_iast (pc := 77) (by decide +kernel) q77 ?_
        refine r_aload_n (pc := 78) 2 (n := 0) (by decide +kernel) rfl rfl ?_
        refine r_dup (pc := 79) (by decide +kernel) rfl ?_
        obtain ⟨g80, q80, h⟩ := bnd h
        refine r_get (pc := 80) (by decide +kernel) fl_Reducer_24.r (by decide) rfl q80 ?_
        refine r_iconst (pc := 83) (z := 1) (by decide +kernel) ⟨by decide, by decide⟩ ?_
        refine r_iadd (pc := 84) (by decide +kernel) ?_
        obtain ⟨m85, q85, h⟩ := bnd h
        refine r_put (pc := 85) (by decide +kernel) fl_Reducer_24 (by decide) (Or.inr nf_3_6) rfl (fun h3 => by cases h3) q85 ?_
        refine r_aload_n (pc := 88) 2 (n := 0) (by decide +kernel) rfl rfl ?_
        obtain ⟨g89, q89, h⟩ := bnd h
        refine r_get (pc := 89) (by decide +kernel) fl_Reducer_21.r (by decide) rfl q89 ?_
        refine r_iload_n (pc := 92) 3 (n := 1) (by decide +kernel) rfl rfl ?_
        refine r_aload_n (pc := 93) 2 (n := 0) (by decide +kernel) rfl rfl ?_
        obtain ⟨g94, q94, h⟩ := bnd h
        refine r_get (pc := 94) (by decide +kernel) fl_Reducer_24.r (by decide) rfl q94 ?_
        obtain ⟨m97, q97, h⟩ := bnd h
        refine r_iast (pc := 97) (by decide +kernel) q97 ?_
        refine r_aload_n (pc := 98) 2 (n := 0) (by decide +kernel) rfl rfl ?_
        obtain ⟨g99, q99, h⟩ := bnd h
        refine r_get (pc := 99) (by decide +kernel) fl_Reducer_24.r (by decide) rfl q99 ?_
        refine r_iconst (pc := 102) (z := 1) (by decide +kernel) ⟨by decide, by decide⟩ ?_
        refine r_isub (pc := 103) (by decide +kernel) ?_
        obtain rfl := Option.some.inj h
        exact r_ret (pc := 104) (r := some (0, wr (g99 - 1))) (by decide +kernel) rfl trivial (Nat.le_of_ble_eq_true rfl) (Nat.le_of_ble_eq_true rfl)
      · have h := ite_f c43 h
        refine r_iconst (pc := 46) (z := (-1)) (by decide +kernel) ⟨by decide, by decide⟩ ?_
        obtain rfl := Option.some.inj h
        exact r_ret (pc := 47) (r := some (0, (-1))) (by decide +kernel) rfl trivial (Nat.le_of_ble_eq_true rfl) (Nat.le_of_ble_eq_true rfl)
  · have h := ite_f c6 h
    refine r_aload_n (pc := 9) 0 (n := 0) (by decide +kernel) rfl rfl ?_
    obtain ⟨g10, q10, h⟩ := bnd h
    refine r_get (pc := 10) (by decide +kernel) fl_Reducer_21.r (by decide) rfl q10 ?_
    refine r_iload_n (pc := 13) 1 (n := 1) (by decide +kernel) rfl rfl ?_
    obtain ⟨e14, q14, h⟩ := bnd h
    refine r_iald (pc := 14) (by decide +kernel) q14 ?_
    refine r_iconst (pc := 15) (z := 1) (by decide +kernel) ⟨by decide, by decide⟩ ?_
    refine r_isub (pc := 16) (by decide +kernel) ?_
    obtain rfl := Option.some.inj h
    exact r_ret (pc := 17) (r := some (0, wr (e14 - 1))) (by decide +kernel) rfl trivial (Nat.le_of_ble_eq_true rfl) (Nat.le_of_ble_eq_true rfl)

/-! TreeTongues$Reducer.reachLeaves()Z -/
noncomputable def L_Reducer_reachLeaves_2 (k : Mem → Option (Int × Mem)) (v0 : Int) : Nat → Int → Mem → Option (Int × Mem)
  | 0 => fun _ _ => none
  | n + 1 => fun v1 M => (gf M v0 3 17 0).bind fun g4 => (gf M g4 5 3 1).bind fun g7 => if g7 ≤ v1 then (k  M) else ((gf M v0 3 17 0).bind fun g14 => (ck M g14 5 3).bind fun _ => (D_Signs_rankOf g14 v1 M).bind fun x18 => (if x18.1 = 0 then ((gf x18.2 v0 3 17 1).bind fun g26 => (ck x18.2 g26 2 6).bind fun _ => (D_Net_leafImage g26 v1 x18.2).bind fun x30 => (ck x30.2 v0 3 17).bind fun _ => (D_Reducer_reach v0 x30.1 x30.2).bind fun x33 => if x33.1 = (-1) then (some (1, x33.2)) else ((gf x33.2 v0 3 17 9).bind fun g45 => (gf x33.2 v0 3 17 0).bind fun g49 => (ck x33.2 g49 5 3).bind fun _ => (D_Signs_cell g49 v1 0 0 6 x33.2).bind fun x57 => (gf x57.2 v0 3 17 4).bind fun g61 => (rd x57.2 10 g61 x33.1).bind fun e65 => (wt x57.2 10 g45 x57.1 e65).bind fun m66 => some (0, m66))) else (some (0, x18.2))).bind fun (t21 : Int × Mem) => if t21.1 = 0 then (L_Reducer_reachLeaves_2 k v0 n (wr (v1 + 1)) t21.2) else (some (0, t21.2)))
noncomputable def D_Reducer_reachLeaves (a0 : Int) (M : Mem) : Option (Int × Mem) := L_Reducer_reachLeaves_2 (fun  m2 => some (1, m2)) a0 FU 0 M
theorem sL_Reducer_reachLeaves_2 {d mc ms : Nat} (hd : 4 ≤ d) {r : Int × Mem} {k : Mem → Option (Int × Mem)} {v0 : Int} (hk : ∀ (M : Mem), k M = some r → Rn Y_Reducer_reachLeaves d mc ms 0 0 (some (0, r.1), r.2) 73 [] [] M) : ∀ (n : Nat) (v1 : Int) (M : Mem), L_Reducer_reachLeaves_2 k v0 n v1 M = some r → Rn Y_Reducer_reachLeaves d mc ms 0 0 (some (0, r.1), r.2) 2 [(0, (2, v0)), (1, (0, v1))] [] M := by
  intro n
  induction n with
  | zero => intro _ _ h; cases h
  | succ n ih =>
    intro v1 M h
    rw [L_Reducer_reachLeaves_2] at h
    refine r_iload_n (pc := 2) 1 (n := 1) (by decide +kernel) rfl rfl ?_
    refine r_aload_n (pc := 3) 0 (n := 0) (by decide +kernel) rfl rfl ?_
    obtain ⟨g4, q4, h⟩ := bnd h
    refine r_get (pc := 4) (by decide +kernel) fl_Reducer_64.r (by decide) rfl q4 ?_
    obtain ⟨g7, q7, h⟩ := bnd h
    refine r_get (pc := 7) (by decide +kernel) fl_Reducer_121.r (by decide) rfl q7 ?_
    refine r_icmp_ge (pc := 10) (off := 63) (tgt := 73) (by decide +kernel) (by decide) (fun c10 => ?_) (fun c10 => ?_)
    · have h := ite_t c10 h
      refine r_lv [] rfl ?_
      exact hk  M h
    · have h := ite_f c10 h
      refine r_aload_n (pc := 13) 0 (n := 0) (by decide +kernel) rfl rfl ?_
      obtain ⟨g14, q14, h⟩ := bnd h
      refine r_get (pc := 14) (by decide +kernel) fl_Reducer_64.r (by decide) rfl q14 ?_
      refine r_iload_n (pc := 17) 1 (n := 1) (by decide +kernel) rfl rfl ?_
      obtain ⟨_, q18c, h⟩ := bnd h
      obtain ⟨x18, q18, h⟩ := bnd h
      refine r_callV (pc := 18) (i := 126) (d2 := d - 1) (As := [(0, v1)]) (st := []) (st1 := [(0, v1), (2, g14)]) (by decide +kernel) yk_Signs_rankOf (by decide) rfl ⟨ml_Reducer_126, vk_Signs_rankOf⟩ np_Signs_rankOf rfl (by omega) q18c (c_Signs_rankOf (d := d - 1) (by omega) q18) (Nat.le_of_ble_eq_true rfl) (Nat.le_of_ble_eq_true rfl) (Nat.le_of_ble_eq_true rfl) rfl ?_
      show Rn _ d _ _ 0 0 _ 21 [(0, (2, v0)), (1, (0, v1))] [(0, x18.1)] x18.2
      obtain ⟨t21, ht21, h⟩ := bnd h
      have E21_0 : t21.1 = 0 → Rn Y_Reducer_reachLeaves d mc ms 0 0 (some (0, r.1), r.2) 67 [(0, (2, v0)), (1, (0, v1))] [] t21.2 := by
        intro y0
        have h := ite_t y0 h
        refine r_iinc (pc := 67) 1 (n := 1) (lv' := [(1, (0, wr (v1 + 1))), (0, (2, v0))]) (by decide +kernel) rfl (Nat.le_of_ble_eq_true rfl) rfl ?_
        refine r_goto (pc := 70) (off := (-68)) (tgt := 2) (by decide +kernel) (by decide) ?_
        refine r_lv [1, 0] rfl ?_
        exact ih (wr (v1 + 1)) t21.2 h
      have E21_1 : ¬ t21.1 = 0 → Rn Y_Reducer_reachLeaves d mc ms 0 0 (some (0, r.1), r.2) 42 [] [] t21.2 := by
        intro n0
        have h := ite_f n0 h
        refine r_iconst (pc := 42) (z := 0) (by decide +kernel) ⟨by decide, by decide⟩ ?_
        obtain rfl := Option.some.inj h
        exact r_ret (pc := 43) (r := some (0, 0)) (by decide +kernel) rfl (Or.inl rfl) (Nat.le_of_ble_eq_true rfl) (Nat.le_of_ble_eq_true rfl)
      refine r_if_ne (pc := 21) (off := 46) (tgt := 67) (by decide +kernel) (by decide) (fun c21 => ?_) (fun c21 => ?_)
      · have ht21 := ite_f c21 ht21
        obtain rfl := Option.some.inj ht21
        exact E21_0 rfl
      · have ht21 := ite_t c21 ht21
        refine r_aload_n (pc := 24) 0 (n := 0) (by decide +kernel) rfl rfl ?_
        refine r_aload_n (pc := 25) 0 (n := 0) (by decide +kernel) rfl rfl ?_
        obtain ⟨g26, q26, ht21⟩ := bnd ht21
        refine r_get (pc := 26) (by decide +kernel) fl_Reducer_68.r (by decide) rfl q26 ?_
        refine r_iload_n (pc := 29) 1 (n := 1) (by decide +kernel) rfl rfl ?_
        obtain ⟨_, q30c, ht21⟩ := bnd ht21
        obtain ⟨x30, q30, ht21⟩ := bnd ht21
        refine r_callV (pc := 30) (i := 129) (d2 := d - 1) (As := [(0, v1)]) (st := [(2, v0)]) (st1 := [(0, v1), (2, g26), (2, v0)]) (by decide +kernel) yk_Net_leafImage (by decide) rfl ⟨ml_Reducer_129, vk_Net_leafImage⟩ np_Net_leafImage rfl (by omega) q30c (c_Net_leafImage (d := d - 1) (by omega) q30) (Nat.le_of_ble_eq_true rfl) (Nat.le_of_ble_eq_true rfl) (Nat.le_of_ble_eq_true rfl) rfl ?_
        show Rn _ d _ _ 0 0 _ 33 [(0, (2, v0)), (1, (0, v1))] [(0, x30.1), (2, v0)] x30.2
        obtain ⟨_, q33c, ht21⟩ := bnd ht21
        obtain ⟨x33, q33, ht21⟩ := bnd ht21
        refine r_callV (pc := 33) (i := 132) (d2 := d - 1) (As := [(0, x30.1)]) (st := []) (st1 := [(0, x30.1), (2, v0)]) (by decide +kernel) yk_Reducer_reach (by decide) rfl ⟨ml_Reducer_132, vk_Reducer_reach⟩ np_Reducer_reach rfl (by omega) q33c (c_Reducer_reach (d := d - 1) (by omega) q33) (Nat.le_of_ble_eq_true rfl) (Nat.le_of_ble_eq_true rfl) (Nat.le_of_ble_eq_true rfl) rfl ?_
        show Rn _ d _ _ 0 0 _ 36 [(0, (2, v0)), (1, (0, v1))] [(0, x33.1)] x33.2
        refine r_istore_n (pc := 36) (n := 2) (lv' := [(2, (0, x33.1)), (0, (2, v0)), (1, (0, v1))]) (by decide +kernel) rfl (Nat.le_of_ble_eq_true rfl) rfl ?_
        refine r_iload_n (pc := 37) 0 (n := 2) (by decide +kernel) rfl rfl ?_
        refine r_iconst (pc := 38) (z := (-1)) (by decide +kernel) ⟨by decide, by decide⟩ ?_
        refine r_icmp_ne (pc := 39) (off := 5) (tgt := 44) (by decide +kernel) (by decide) (fun c39 => ?_) (fun c39 => ?_)
        · have ht21 := ite_f c39 ht21
          refine r_aload_n (pc := 44) 1 (n := 0) (by decide +kernel) rfl rfl ?_
          obtain ⟨g45, q45, ht21⟩ := bnd ht21
          refine r_get (pc := 45) (by decide +kernel) fl_Reducer_34.r (by decide) rfl q45 ?_
          refine r_aload_n (pc := 48) 1 (n := 0) (by decide +kernel) rfl rfl ?_
          obtain ⟨g49, q49, ht21⟩ := bnd ht21
          refine r_get (pc := 49) (by decide +kernel) fl_Reducer_64.r (by decide) rfl q49 ?_
          refine r_iload_n (pc := 52) 2 (n := 1) (by decide +kernel) rfl rfl ?_
          refine r_iconst (pc := 53) (z := 0) (by decide +kernel) ⟨by decide, by decide⟩ ?_
          refine r_iconst (pc := 54) (z := 0) (by decide +kernel) ⟨by decide, by decide⟩ ?_
          refine r_bipush (pc := 55) (z := 6) (by decide +kernel) ⟨by decide, by decide⟩ ?_
          obtain ⟨_, q57c, ht21⟩ := bnd ht21
          obtain ⟨x57, q57, ht21⟩ := bnd ht21
          refine r_callV (pc := 57) (i := 135) (d2 := d - 1) (As := [(0, v1), (0, 0), (0, 0), (0, 6)]) (st := [(2, g45)]) (st1 := [(0, 6), (0, 0), (0, 0), (0, v1), (2, g49), (2, g45)]) (by decide +kernel) yk_Signs_cell (by decide) rfl ⟨ml_Reducer_135, vk_Signs_cell⟩ np_Signs_cell rfl (by omega) q57c (c_Signs_cell (d := d - 1) (by omega) q57) (Nat.le_of_ble_eq_true rfl) (Nat.le_of_ble_eq_true rfl) (Nat.le_of_ble_eq_true rfl) rfl ?_
          show Rn _ d _ _ 0 0 _ 60 [(2, (0, x33.1)), (0, (2, v0)), (1, (0, v1))] [(0, x57.1), (2, g45)] x57.2
          refine r_aload_n (pc := 60) 1 (n := 0) (by decide +kernel) rfl rfl ?_
          obtain ⟨g61, q61, ht21⟩ := bnd ht21
          refine r_get (pc := 61) (by decide +kernel) fl_Reducer_18.r (by decide) rfl q61 ?_
          refine r_iload_n (pc := 64) 0 (n := 2) (by decide +kernel) rfl rfl ?_
          obtain ⟨e65, q65, ht21⟩ := bnd ht21
          refine r_iald (pc := 65) (by decide +kernel) q65 ?_
          obtain ⟨m66, q66, ht21⟩ := bnd ht21
          refine r_iast (pc := 66) (by decide +kernel) q66 ?_
          obtain rfl := Option.some.inj ht21
          refine r_lv [1, 2] rfl ?_
          exact E21_0 rfl
        · have ht21 := ite_t c39 ht21
          obtain rfl := Option.some.inj ht21
          refine r_lv [] rfl ?_
          exact E21_1 (show ¬ (1 : Int) = 0 by decide)
theorem c_Reducer_reachLeaves {d : Nat} (hd : 4 ≤ d) {a0 : Int} {M : Mem} {x : Int × Mem} (h : D_Reducer_reachLeaves a0 M = some x) : Ct d Y_Reducer_reachLeaves [(2, a0)] M (some (0, x.1), x.2) 0 0 := by
  refine ct_of yk_Reducer_reachLeaves (Nat.le_of_ble_eq_true rfl) ?_
  rw [D_Reducer_reachLeaves] at h
  show Rn Y_Reducer_reachLeaves d 0 0 0 0 (some (0, x.1), x.2) 0 [(0, (2, a0))] [] M
  refine r_iconst (pc := 0) (z := 0) (by decide +kernel) ⟨by decide, by decide⟩ ?_
  refine r_istore_n (pc := 1) (n := 1) (lv' := [(1, (0, 0)), (0, (2, a0))]) (by decide +kernel) rfl (Nat.le_of_ble_eq_true rfl) rfl ?_
  refine r_lv [1, 0] rfl ?_
  refine sL_Reducer_reachLeaves_2 (by omega) ?_ _ _  _ h
  intro m2 h
  refine r_iconst (pc := 73) (z := 1) (by decide +kernel) ⟨by decide, by decide⟩ ?_
  obtain rfl := Option.some.inj h
  exact r_ret (pc := 74) (r := some (0, 1)) (by decide +kernel) rfl (Or.inr rfl) (Nat.le_of_ble_eq_true rfl) (Nat.le_of_ble_eq_true rfl)

/-! TreeTongues$Net.imageAlone(II)I -/
noncomputable def L_Net_imageAlone_5 (k : Int → Mem → Option (Int × Mem)) (v0 : Int) (v1 : Int) (v2 : Int) : Nat → Int → Int → Mem → Option (Int × Mem)
  | 0 => fun _ _ _ => none
  | n + 1 => fun v3 v4 M => (gf M v0 2 6 2).bind fun g8 => if g8 ≤ v4 then (k v3 M) else ((if (iand (ishr v2 v4) 1) = 0 then (some v3) else ((gf M v0 2 6 1).bind fun g25 => (rd M 10 g25 (wr ((wr ((wr (v1 * 12)) + v4)) * 12))).bind fun e38 => lt (ior v3 e38) fun u3_40 => some u3_40)).bind fun (t20 : Int) => L_Net_imageAlone_5 k v0 v1 v2 n t20 (wr (v4 + 1)) M)
noncomputable def D_Net_imageAlone (a0 a1 a2 : Int) (M : Mem) : Option (Int × Mem) := L_Net_imageAlone_5 (fun w3_5 m5 => some (w3_5, m5)) a0 a1 a2 FU 0 0 M
theorem sL_Net_imageAlone_5 {d mc ms : Nat} (hd : 1 ≤ d) {r : Int × Mem} {k : Int → Mem → Option (Int × Mem)} {v0 : Int} {v1 : Int} {v2 : Int} (hk : ∀ (v3 : Int) (M : Mem), k v3 M = some r → Rn Y_Net_imageAlone d mc ms 0 0 (some (0, r.1), r.2) 47 [(3, (0, v3))] [] M) : ∀ (n : Nat) (v3 : Int) (v4 : Int) (M : Mem), L_Net_imageAlone_5 k v0 v1 v2 n v3 v4 M = some r → Rn Y_Net_imageAlone d mc ms 0 0 (some (0, r.1), r.2) 5 [(0, (2, v0)), (1, (0, v1)), (2, (0, v2)), (3, (0, v3)), (4, (0, v4))] [] M := by
  intro n
  induction n with
  | zero => intro _ _ _ h; cases h
  | succ n ih =>
    intro v3 v4 M h
    rw [L_Net_imageAlone_5] at h
    refine r_iload (pc := 5) 4 (by decide +kernel) rfl ?_
    refine r_aload_n (pc := 7) 0 (n := 0) (by decide +kernel) rfl rfl ?_
    obtain ⟨g8, q8, h⟩ := bnd h
    refine r_get (pc := 8) (by decide +kernel) fl_Net_15.r (by decide) rfl q8 ?_
    refine r_icmp_ge (pc := 11) (off := 36) (tgt := 47) (by decide +kernel) (by decide) (fun c11 => ?_) (fun c11 => ?_)
    · have h := ite_t c11 h
      refine r_lv [3] rfl ?_
      exact hk v3 M h
    · have h := ite_f c11 h
      refine r_iload_n (pc := 14) 2 (n := 2) (by decide +kernel) rfl rfl ?_
      refine r_iload (pc := 15) 4 (by decide +kernel) rfl ?_
      refine r_ishr (pc := 17) (by decide +kernel) ?_
      refine r_iconst (pc := 18) (z := 1) (by decide +kernel) ⟨by decide, by decide⟩ ?_
      refine r_iand (pc := 19) (by decide +kernel) ?_
      obtain ⟨t20, ht20, h⟩ := bnd h
      have E20_0 : Rn Y_Net_imageAlone d mc ms 0 0 (some (0, r.1), r.2) 41 [(0, (2, v0)), (1, (0, v1)), (2, (0, v2)), (3, (0, t20)), (4, (0, v4))] [] M := by
        refine r_iinc (pc := 41) 4 (n := 1) (lv' := [(4, (0, wr (v4 + 1))), (0, (2, v0)), (1, (0, v1)), (2, (0, v2)), (3, (0, t20))]) (by decide +kernel) rfl (Nat.le_of_ble_eq_true rfl) rfl ?_
        refine r_goto (pc := 44) (off := (-39)) (tgt := 5) (by decide +kernel) (by decide) ?_
        refine r_lv [1, 2, 3, 4, 0] rfl ?_
        exact ih t20 (wr (v4 + 1)) M h
      refine r_if_eq (pc := 20) (off := 21) (tgt := 41) (by decide +kernel) (by decide) (fun c20 => ?_) (fun c20 => ?_)
      · have ht20 := ite_t c20 ht20
        obtain rfl := Option.some.inj ht20
        exact E20_0
      · have ht20 := ite_f c20 ht20
        refine r_iload_n (pc := 23) 3 (n := 3) (by decide +kernel) rfl rfl ?_
        refine r_aload_n (pc := 24) 0 (n := 0) (by decide +kernel) rfl rfl ?_
        obtain ⟨g25, q25, ht20⟩ := bnd ht20
        refine r_get (pc := 25) (by decide +kernel) fl_Net_9.r (by decide) rfl q25 ?_
        refine r_iload_n (pc := 28) 1 (n := 1) (by decide +kernel) rfl rfl ?_
        refine r_bipush (pc := 29) (z := 12) (by decide +kernel) ⟨by decide, by decide⟩ ?_
        refine r_imul (pc := 31) (by decide +kernel) ?_
        refine r_iload (pc := 32) 4 (by decide +kernel) rfl ?_
        refine r_iadd (pc := 34) (by decide +kernel) ?_
        refine r_bipush (pc := 35) (z := 12) (by decide +kernel) ⟨by decide, by decide⟩ ?_
        refine r_imul (pc := 37) (by decide +kernel) ?_
        obtain ⟨e38, q38, ht20⟩ := bnd ht20
        refine r_iald (pc := 38) (by decide +kernel) q38 ?_
        refine r_ior (pc := 39) (by decide +kernel) ?_
        obtain ⟨u3_40, q40, ht20⟩ := lt_o ht20
        refine r_eq q40 ?_
        refine r_istore_n (pc := 40) (n := 3) (lv' := [(3, (0, u3_40)), (0, (2, v0)), (1, (0, v1)), (2, (0, v2)), (4, (0, v4))]) (by decide +kernel) rfl (Nat.le_of_ble_eq_true rfl) rfl ?_
        obtain rfl := Option.some.inj ht20
        refine r_lv [1, 2, 3, 0, 4] rfl ?_
        exact E20_0
theorem c_Net_imageAlone {d : Nat} (hd : 1 ≤ d) {a0 a1 a2 : Int} {M : Mem} {x : Int × Mem} (h : D_Net_imageAlone a0 a1 a2 M = some x) : Ct d Y_Net_imageAlone [(2, a0), (0, a1), (0, a2)] M (some (0, x.1), x.2) 0 0 := by
  refine ct_of yk_Net_imageAlone (Nat.le_of_ble_eq_true rfl) ?_
  rw [D_Net_imageAlone] at h
  show Rn Y_Net_imageAlone d 0 0 0 0 (some (0, x.1), x.2) 0 [(0, (2, a0)), (1, (0, a1)), (2, (0, a2))] [] M
  refine r_iconst (pc := 0) (z := 0) (by decide +kernel) ⟨by decide, by decide⟩ ?_
  refine r_istore_n (pc := 1) (n := 3) (lv' := [(3, (0, 0)), (0, (2, a0)), (1, (0, a1)), (2, (0, a2))]) (by decide +kernel) rfl (Nat.le_of_ble_eq_true rfl) rfl ?_
  refine r_iconst (pc := 2) (z := 0) (by decide +kernel) ⟨by decide, by decide⟩ ?_
  refine r_istore (pc := 3) (lv' := [(4, (0, 0)), (3, (0, 0)), (0, (2, a0)), (1, (0, a1)), (2, (0, a2))]) (by decide +kernel) (Nat.le_of_ble_eq_true rfl) rfl ?_
  refine r_lv [2, 3, 4, 1, 0] rfl ?_
  refine sL_Net_imageAlone_5 (by omega) ?_ _ _ _  _ h
  intro w3_5 m5 h
  refine r_iload_n (pc := 47) 0 (n := 3) (by decide +kernel) rfl rfl ?_
  obtain rfl := Option.some.inj h
  exact r_ret (pc := 48) (r := some (0, w3_5)) (by decide +kernel) rfl trivial (Nat.le_of_ble_eq_true rfl) (Nat.le_of_ble_eq_true rfl)

/-! TreeTongues$Reducer.lowestBit(I)I -/
noncomputable def L_Reducer_lowestBit_2 (k : Int → Mem → Option (Int × Mem)) (v0 : Int) : Nat → Int → Mem → Option (Int × Mem)
  | 0 => fun _ _ => none
  | n + 1 => fun v1 M => if 7 ≤ v1 then (k v1 M) else (if (iand (ishr v0 v1) 1) = 0 then (L_Reducer_lowestBit_2 k v0 n (wr (v1 + 1)) M) else (k v1 M))
noncomputable def D_Reducer_lowestBit (a0 : Int) (M : Mem) : Option (Int × Mem) := L_Reducer_lowestBit_2 (fun w1_2 m2 => some (w1_2, m2)) a0 FU 0 M
theorem sL_Reducer_lowestBit_2 {d mc ms : Nat} (hd : 1 ≤ d) {r : Int × Mem} {k : Int → Mem → Option (Int × Mem)} {v0 : Int} (hk : ∀ (v1 : Int) (M : Mem), k v1 M = some r → Rn Y_Reducer_lowestBit d mc ms 0 0 (some (0, r.1), r.2) 22 [(1, (0, v1))] [] M) : ∀ (n : Nat) (v1 : Int) (M : Mem), L_Reducer_lowestBit_2 k v0 n v1 M = some r → Rn Y_Reducer_lowestBit d mc ms 0 0 (some (0, r.1), r.2) 2 [(0, (0, v0)), (1, (0, v1))] [] M := by
  intro n
  induction n with
  | zero => intro _ _ h; cases h
  | succ n ih =>
    intro v1 M h
    rw [L_Reducer_lowestBit_2] at h
    refine r_iload_n (pc := 2) 1 (n := 1) (by decide +kernel) rfl rfl ?_
    refine r_bipush (pc := 3) (z := 7) (by decide +kernel) ⟨by decide, by decide⟩ ?_
    refine r_icmp_ge (pc := 5) (off := 17) (tgt := 22) (by decide +kernel) (by decide) (fun c5 => ?_) (fun c5 => ?_)
    · have h := ite_t c5 h
      refine r_lv [1] rfl ?_
      exact hk v1 M h
    · have h := ite_f c5 h
      refine r_iload_n (pc := 8) 0 (n := 0) (by decide +kernel) rfl rfl ?_
      refine r_iload_n (pc := 9) 1 (n := 1) (by decide +kernel) rfl rfl ?_
      refine r_ishr (pc := 10) (by decide +kernel) ?_
      refine r_iconst (pc := 11) (z := 1) (by decide +kernel) ⟨by decide, by decide⟩ ?_
      refine r_iand (pc := 12) (by decide +kernel) ?_
      refine r_if_ne (pc := 13) (off := 9) (tgt := 22) (by decide +kernel) (by decide) (fun c13 => ?_) (fun c13 => ?_)
      · have h := ite_f c13 h
        refine r_lv [1] rfl ?_
        exact hk v1 M h
      · have h := ite_t c13 h
        refine r_iinc (pc := 16) 1 (n := 1) (lv' := [(1, (0, wr (v1 + 1))), (0, (0, v0))]) (by decide +kernel) rfl (Nat.le_of_ble_eq_true rfl) rfl ?_
        refine r_goto (pc := 19) (off := (-17)) (tgt := 2) (by decide +kernel) (by decide) ?_
        refine r_lv [1, 0] rfl ?_
        exact ih (wr (v1 + 1)) M h
theorem c_Reducer_lowestBit {d : Nat} (hd : 1 ≤ d) {a0 : Int} {M : Mem} {x : Int × Mem} (h : D_Reducer_lowestBit a0 M = some x) : Ct d Y_Reducer_lowestBit [(0, a0)] M (some (0, x.1), x.2) 0 0 := by
  refine ct_of yk_Reducer_lowestBit (Nat.le_of_ble_eq_true rfl) ?_
  rw [D_Reducer_lowestBit] at h
  show Rn Y_Reducer_lowestBit d 0 0 0 0 (some (0, x.1), x.2) 0 [(0, (0, a0))] [] M
  refine r_iconst (pc := 0) (z := 0) (by decide +kernel) ⟨by decide, by decide⟩ ?_
  refine r_istore_n (pc := 1) (n := 1) (lv' := [(1, (0, 0)), (0, (0, a0))]) (by decide +kernel) rfl (Nat.le_of_ble_eq_true rfl) rfl ?_
  refine r_lv [1, 0] rfl ?_
  refine sL_Reducer_lowestBit_2 (by omega) ?_ _ _  _ h
  intro w1_2 m2 h
  refine r_iload_n (pc := 22) 0 (n := 1) (by decide +kernel) rfl rfl ?_
  obtain rfl := Option.some.inj h
  exact r_ret (pc := 23) (r := some (0, w1_2)) (by decide +kernel) rfl trivial (Nat.le_of_ble_eq_true rfl) (Nat.le_of_ble_eq_true rfl)

/-! TreeTongues$Net.image(IZII)I -/
noncomputable def L_Net_image_15 (k : Int → Mem → Option (Int × Mem)) (v0 : Int) (v2 : Int) (v3 : Int) (v4 : Int) (v5 : Int) : Nat → Int → Int → Mem → Option (Int × Mem)
  | 0 => fun _ _ _ => none
  | n + 1 => fun v6 v7 M => (gf M v0 2 6 2).bind fun g18 => if g18 ≤ v7 then (k v6 M) else ((if (iand (ishr v4 v7) 1) = 0 then (some v6) else ((if v2 = 0 then (some (wr ((wr (v7 * 12)) + v3))) else (some (wr ((wr (v3 * 12)) + v7)))).bind fun (t35 : Int) => (gf M v0 2 6 1).bind fun g60 => (rd M 10 g60 (wr (v5 + t35))).bind fun e68 => lt (ior v6 e68) fun u6_70 => some u6_70)).bind fun (t31 : Int) => L_Net_image_15 k v0 v2 v3 v4 v5 n t31 (wr (v7 + 1)) M)
noncomputable def D_Net_image (a0 a1 a2 a3 a4 : Int) (M : Mem) : Option (Int × Mem) := lt (wr ((wr (a1 * 12)) * 12)) fun u5_7 => L_Net_image_15 (fun w6_15 m15 => some (w6_15, m15)) a0 a2 a3 a4 u5_7 FU 0 0 M
theorem sL_Net_image_15 {d mc ms : Nat} (hd : 1 ≤ d) {r : Int × Mem} {k : Int → Mem → Option (Int × Mem)} {v0 : Int} {v2 : Int} {v3 : Int} {v4 : Int} {v5 : Int} (hk : ∀ (v6 : Int) (M : Mem), k v6 M = some r → Rn Y_Net_image d mc ms 0 0 (some (0, r.1), r.2) 78 [(6, (0, v6))] [] M) : ∀ (n : Nat) (v6 : Int) (v7 : Int) (M : Mem), L_Net_image_15 k v0 v2 v3 v4 v5 n v6 v7 M = some r → Rn Y_Net_image d mc ms 0 0 (some (0, r.1), r.2) 15 [(0, (2, v0)), (2, (0, v2)), (3, (0, v3)), (4, (0, v4)), (5, (0, v5)), (6, (0, v6)), (7, (0, v7))] [] M := by
  intro n
  induction n with
  | zero => intro _ _ _ h; cases h
  | succ n ih =>
    intro v6 v7 M h
    rw [L_Net_image_15] at h
    refine r_iload (pc := 15) 6 (by decide +kernel) rfl ?_
    refine r_aload_n (pc := 17) 0 (n := 0) (by decide +kernel) rfl rfl ?_
    obtain ⟨g18, q18, h⟩ := bnd h
    refine r_get (pc := 18) (by decide +kernel) fl_Net_15.r (by decide) rfl q18 ?_
    refine r_icmp_ge (pc := 21) (off := 57) (tgt := 78) (by decide +kernel) (by decide) (fun c21 => ?_) (fun c21 => ?_)
    · have h := ite_t c21 h
      refine r_lv [5] rfl ?_
      exact hk v6 M h
    · have h := ite_f c21 h
      refine r_iload (pc := 24) 3 (by decide +kernel) rfl ?_
      refine r_iload (pc := 26) 6 (by decide +kernel) rfl ?_
      refine r_ishr (pc := 28) (by decide +kernel) ?_
      refine r_iconst (pc := 29) (z := 1) (by decide +kernel) ⟨by decide, by decide⟩ ?_
      refine r_iand (pc := 30) (by decide +kernel) ?_
      obtain ⟨t31, ht31, h⟩ := bnd h
      have E31_0 : Rn Y_Net_image d mc ms 0 0 (some (0, r.1), r.2) 72 [(0, (2, v0)), (2, (0, v2)), (3, (0, v3)), (4, (0, v4)), (5, (0, v5)), (6, (0, t31)), (7, (0, v7))] [] M := by
        refine r_iinc (pc := 72) 6 (n := 1) (lv' := [(7, (0, wr (v7 + 1))), (0, (2, v0)), (2, (0, v2)), (3, (0, v3)), (4, (0, v4)), (5, (0, v5)), (6, (0, t31))]) (by decide +kernel) rfl (Nat.le_of_ble_eq_true rfl) rfl ?_
        refine r_goto (pc := 75) (off := (-60)) (tgt := 15) (by decide +kernel) (by decide) ?_
        refine r_lv [1, 2, 3, 4, 5, 6, 0] rfl ?_
        exact ih t31 (wr (v7 + 1)) M h
      refine r_if_eq (pc := 31) (off := 41) (tgt := 72) (by decide +kernel) (by decide) (fun c31 => ?_) (fun c31 => ?_)
      · have ht31 := ite_t c31 ht31
        obtain rfl := Option.some.inj ht31
        exact E31_0
      · have ht31 := ite_f c31 ht31
        refine r_iload_n (pc := 34) 1 (n := 2) (by decide +kernel) rfl rfl ?_
        obtain ⟨t35, ht35, ht31⟩ := bnd ht31
        have E35_0 : Rn Y_Net_image d mc ms 0 0 (some (0, r.1), r.2) 55 [(0, (2, v0)), (2, (0, v2)), (3, (0, v3)), (4, (0, v4)), (5, (0, v5)), (6, (0, v6)), (7, (0, v7))] [(0, t35)] M := by
          refine r_istore (pc := 55) (lv' := [(8, (0, t35)), (0, (2, v0)), (2, (0, v2)), (3, (0, v3)), (4, (0, v4)), (5, (0, v5)), (6, (0, v6)), (7, (0, v7))]) (by decide +kernel) (Nat.le_of_ble_eq_true rfl) rfl ?_
          refine r_iload (pc := 57) 6 (by decide +kernel) rfl ?_
          refine r_aload_n (pc := 59) 1 (n := 0) (by decide +kernel) rfl rfl ?_
          obtain ⟨g60, q60, ht31⟩ := bnd ht31
          refine r_get (pc := 60) (by decide +kernel) fl_Net_9.r (by decide) rfl q60 ?_
          refine r_iload (pc := 63) 5 (by decide +kernel) rfl ?_
          refine r_iload (pc := 65) 0 (by decide +kernel) rfl ?_
          refine r_iadd (pc := 67) (by decide +kernel) ?_
          obtain ⟨e68, q68, ht31⟩ := bnd ht31
          refine r_iald (pc := 68) (by decide +kernel) q68 ?_
          refine r_ior (pc := 69) (by decide +kernel) ?_
          obtain ⟨u6_70, q70, ht31⟩ := lt_o ht31
          refine r_eq q70 ?_
          refine r_istore (pc := 70) (lv' := [(6, (0, u6_70)), (8, (0, t35)), (0, (2, v0)), (2, (0, v2)), (3, (0, v3)), (4, (0, v4)), (5, (0, v5)), (7, (0, v7))]) (by decide +kernel) (Nat.le_of_ble_eq_true rfl) rfl ?_
          obtain rfl := Option.some.inj ht31
          refine r_lv [2, 3, 4, 5, 6, 0, 7] rfl ?_
          exact E31_0
        refine r_if_eq (pc := 35) (off := 13) (tgt := 48) (by decide +kernel) (by decide) (fun c35 => ?_) (fun c35 => ?_)
        · have ht35 := ite_t c35 ht35
          refine r_iload (pc := 48) 6 (by decide +kernel) rfl ?_
          refine r_bipush (pc := 50) (z := 12) (by decide +kernel) ⟨by decide, by decide⟩ ?_
          refine r_imul (pc := 52) (by decide +kernel) ?_
          refine r_iload_n (pc := 53) 2 (n := 3) (by decide +kernel) rfl rfl ?_
          refine r_iadd (pc := 54) (by decide +kernel) ?_
          obtain rfl := Option.some.inj ht35
          exact E35_0
        · have ht35 := ite_f c35 ht35
          refine r_iload_n (pc := 38) 2 (n := 3) (by decide +kernel) rfl rfl ?_
          refine r_bipush (pc := 39) (z := 12) (by decide +kernel) ⟨by decide, by decide⟩ ?_
          refine r_imul (pc := 41) (by decide +kernel) ?_
          refine r_iload (pc := 42) 6 (by decide +kernel) rfl ?_
          refine r_iadd (pc := 44) (by decide +kernel) ?_
          refine r_goto (pc := 45) (off := 10) (tgt := 55) (by decide +kernel) (by decide) ?_
          obtain rfl := Option.some.inj ht35
          exact E35_0
theorem c_Net_image {d : Nat} (hd : 1 ≤ d) {a0 a1 a2 a3 a4 : Int} {M : Mem} {x : Int × Mem} (h : D_Net_image a0 a1 a2 a3 a4 M = some x) : Ct d Y_Net_image [(2, a0), (0, a1), (0, a2), (0, a3), (0, a4)] M (some (0, x.1), x.2) 0 0 := by
  refine ct_of yk_Net_image (Nat.le_of_ble_eq_true rfl) ?_
  rw [D_Net_image] at h
  show Rn Y_Net_image d 0 0 0 0 (some (0, x.1), x.2) 0 [(0, (2, a0)), (1, (0, a1)), (2, (0, a2)), (3, (0, a3)), (4, (0, a4))] [] M
  refine r_iload_n (pc := 0) 1 (n := 1) (by decide +kernel) rfl rfl ?_
  refine r_bipush (pc := 1) (z := 12) (by decide +kernel) ⟨by decide, by decide⟩ ?_
  refine r_imul (pc := 3) (by decide +kernel) ?_
  refine r_bipush (pc := 4) (z := 12) (by decide +kernel) ⟨by decide, by decide⟩ ?_
  refine r_imul (pc := 6) (by decide +kernel) ?_
  obtain ⟨u5_7, q7, h⟩ := lt_o h
  refine r_eq q7 ?_
  refine r_istore (pc := 7) (lv' := [(5, (0, u5_7)), (0, (2, a0)), (1, (0, a1)), (2, (0, a2)), (3, (0, a3)), (4, (0, a4))]) (by decide +kernel) (Nat.le_of_ble_eq_true rfl) rfl ?_
  refine r_iconst (pc := 9) (z := 0) (by decide +kernel) ⟨by decide, by decide⟩ ?_
  refine r_istore (pc := 10) (lv' := [(6, (0, 0)), (5, (0, u5_7)), (0, (2, a0)), (1, (0, a1)), (2, (0, a2)), (3, (0, a3)), (4, (0, a4))]) (by decide +kernel) (Nat.le_of_ble_eq_true rfl) rfl ?_
  refine r_iconst (pc := 12) (z := 0) (by decide +kernel) ⟨by decide, by decide⟩ ?_
  refine r_istore (pc := 13) (lv' := [(7, (0, 0)), (6, (0, 0)), (5, (0, u5_7)), (0, (2, a0)), (1, (0, a1)), (2, (0, a2)), (3, (0, a3)), (4, (0, a4))]) (by decide +kernel) (Nat.le_of_ble_eq_true rfl) rfl ?_
  refine r_lv [3, 5, 6, 7, 2, 1, 0] rfl ?_
  refine sL_Net_image_15 (by omega) ?_ _ _ _  _ h
  intro w6_15 m15 h
  refine r_iload (pc := 78) 0 (by decide +kernel) rfl ?_
  obtain rfl := Option.some.inj h
  exact r_ret (pc := 80) (r := some (0, w6_15)) (by decide +kernel) rfl trivial (Nat.le_of_ble_eq_true rfl) (Nat.le_of_ble_eq_true rfl)
