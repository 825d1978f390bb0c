/-! TreeTongues$Census.times(JJ)J -/
noncomputable def D_Census_times (a0 a1 : Int) (M : Mem) : Option (Int × Mem) := if (lc a0 0) = 0 then (some (0, M)) else (if (lc a1 0) = 0 then (some (0, M)) else ((nq a1).bind fun _ => if (lc a0 (ldv 1000000000000000000 a1)) ≤ 0 then (some (wl (a0 * a1), M)) else (some (1000000000000000000, M))))
theorem c_Census_times {d : Nat} (hd : 1 ≤ d) {a0 a1 : Int} {M : Mem} {x : Int × Mem} (h : D_Census_times a0 a1 M = some x) : Ct d Y_Census_times [(1, a0), (1, a1)] M (some (1, x.1), x.2) 0 0 := by
  refine ct_of yk_Census_times (Nat.le_of_ble_eq_true rfl) ?_
  rw [D_Census_times] at h
  show Rn Y_Census_times d 0 0 0 0 (some (1, x.1), x.2) 0 [(0, (1, a0)), (2, (1, a1))] [] M
  refine r_lload_n (pc := 0) 0 (n := 0) (by decide +kernel) rfl rfl ?_
  refine r_lconst (pc := 1) (n := 0) (z := 0) (by decide +kernel) rfl ?_
  refine r_lcmp (pc := 2) (by decide +kernel) ?_
  refine r_if_eq (pc := 3) (off := 9) (tgt := 12) (by decide +kernel) (by decide) (fun c3 => ?_) (fun c3 => ?_)
  · have h := ite_t c3 h
    refine r_lconst (pc := 12) (n := 0) (z := 0) (by decide +kernel) rfl ?_
    obtain rfl := Option.some.inj h
    exact r_ret (pc := 13) (r := some (1, 0)) (by decide +kernel) rfl trivial (Nat.le_of_ble_eq_true rfl) (Nat.le_of_ble_eq_true rfl)
  · have h := ite_f c3 h
    refine r_lload_n (pc := 6) 1 (n := 2) (by decide +kernel) rfl rfl ?_
    refine r_lconst (pc := 7) (n := 0) (z := 0) (by decide +kernel) rfl ?_
    refine r_lcmp (pc := 8) (by decide +kernel) ?_
    refine r_if_ne (pc := 9) (off := 5) (tgt := 14) (by decide +kernel) (by decide) (fun c9 => ?_) (fun c9 => ?_)
    · have h := ite_f c9 h
      refine r_lload_n (pc := 14) 0 (n := 0) (by decide +kernel) rfl rfl ?_
      refine r_ldc2 (pc := 15) (i := 150) (z := 1000000000000000000) (by decide +kernel) (mg 810 (by decide +kernel) (by decide +kernel)) ⟨by decide, by decide⟩ ?_
      refine r_lload_n (pc := 18) 1 (n := 2) (by decide +kernel) rfl rfl ?_
      obtain ⟨_, q19, h⟩ := bnd h
      refine r_ldiv (pc := 19) (by decide +kernel) (nq_s q19) ?_
      refine r_lcmp (pc := 20) (by decide +kernel) ?_
      refine r_if_le (pc := 21) (off := 9) (tgt := 30) (by decide +kernel) (by decide) (fun c21 => ?_) (fun c21 => ?_)
      · have h := ite_t c21 h
        refine r_lload_n (pc := 30) 0 (n := 0) (by decide +kernel) rfl rfl ?_
        refine r_lload_n (pc := 31) 1 (n := 2) (by decide +kernel) rfl rfl ?_
        refine r_lmul (pc := 32) (by decide +kernel) ?_
        obtain rfl := Option.some.inj h
        exact r_ret (pc := 33) (r := some (1, wl (a0 * a1))) (by decide +kernel) rfl trivial (Nat.le_of_ble_eq_true rfl) (Nat.le_of_ble_eq_true rfl)
      · have h := ite_f c21 h
        refine r_ldc2 (pc := 24) (i := 150) (z := 1000000000000000000) (by decide +kernel) (mg 810 (by decide +kernel) (by decide +kernel)) ⟨by decide, by decide⟩ ?_
        refine r_goto (pc := 27) (off := 6) (tgt := 33) (by decide +kernel) (by decide) ?_
        obtain rfl := Option.some.inj h
        exact r_ret (pc := 33) (r := some (1, 1000000000000000000)) (by decide +kernel) rfl trivial (Nat.le_of_ble_eq_true rfl) (Nat.le_of_ble_eq_true rfl)
    · have h := ite_t c9 h
      refine r_lconst (pc := 12) (n := 0) (z := 0) (by decide +kernel) rfl ?_
      obtain rfl := Option.some.inj h
      exact r_ret (pc := 13) (r := some (1, 0)) (by decide +kernel) rfl trivial (Nat.le_of_ble_eq_true rfl) (Nat.le_of_ble_eq_true rfl)

/-! TreeTongues$Census.pairsOf(LTreeTongues$Machine;III)J -/
noncomputable def L_Census_pairsOf_6 (k : Int → Mem → Option (Int × Mem)) (v1 : Int) (v2 : Int) (v3 : Int) (v4 : Int) : Nat → Int → Int → Mem → Option (Int × Mem)
  | 0 => fun _ _ _ => none
  | n + 1 => fun v5 v7 M => if v4 ≤ v7 then (k v5 M) else ((gf M v1 1 14 6).bind fun g16 => (rd M 11 g16 (wr ((wr (v7 * 6)) + v2))).bind fun e26 => (gf M v1 1 14 6).bind fun g28 => (rd M 11 g28 (wr ((wr ((wr (v4 - v7)) * 6)) + v3))).bind fun e41 => (D_Census_times e26 e41 M).bind fun x42 => (D_Census_plus v5 x42.1 x42.2).bind fun x45 => L_Census_pairsOf_6 k v1 v2 v3 v4 n x45.1 (wr (v7 + 1)) x45.2)
noncomputable def D_Census_pairsOf (a0 a1 a2 a3 a4 : Int) (M : Mem) : Option (Int × Mem) := L_Census_pairsOf_6 (fun w5_6 m6 => some (w5_6, m6)) a1 a2 a3 a4 FU 0 1 M
theorem sL_Census_pairsOf_6 {d mc ms : Nat} (hd : 2 ≤ d) {r : Int × Mem} {k : Int → Mem → Option (Int × Mem)} {v1 : Int} {v2 : Int} {v3 : Int} {v4 : Int} (hk : ∀ (v5 : Int) (M : Mem), k v5 M = some r → Rn Y_Census_pairsOf d mc ms 0 0 (some (1, r.1), r.2) 56 [(5, (1, v5))] [] M) : ∀ (n : Nat) (v5 : Int) (v7 : Int) (M : Mem), L_Census_pairsOf_6 k v1 v2 v3 v4 n v5 v7 M = some r → Rn Y_Census_pairsOf d mc ms 0 0 (some (1, r.1), r.2) 6 [(1, (2, v1)), (2, (0, v2)), (3, (0, v3)), (4, (0, v4)), (5, (1, v5)), (7, (0, v7))] [] M := by
  intro n
  induction n with
  | zero => intro _ _ _ h; cases h
  | succ n ih =>
    intro v5 v7 M h
    rw [L_Census_pairsOf_6] at h
    refine r_iload (pc := 6) 5 (by decide +kernel) rfl ?_
    refine r_iload (pc := 8) 3 (by decide +kernel) rfl ?_
    refine r_icmp_ge (pc := 10) (off := 46) (tgt := 56) (by decide +kernel) (by decide) (fun c10 => ?_) (fun c10 => ?_)
    · have h := ite_t c10 h
      refine r_lv [4] rfl ?_
      exact hk v5 M h
    · have h := ite_f c10 h
      refine r_lload (pc := 13) 4 (by decide +kernel) rfl ?_
      refine r_aload_n (pc := 15) 0 (n := 1) (by decide +kernel) rfl rfl ?_
      obtain ⟨g16, q16, h⟩ := bnd h
      refine r_get (pc := 16) (by decide +kernel) fl_Census_41 (by decide) rfl q16 ?_
      refine r_iload (pc := 19) 5 (by decide +kernel) rfl ?_
      refine r_bipush (pc := 21) (z := 6) (by decide +kernel) ⟨by decide, by decide⟩ ?_
      refine r_imul (pc := 23) (by decide +kernel) ?_
      refine r_iload_n (pc := 24) 1 (n := 2) (by decide +kernel) rfl rfl ?_
      refine r_iadd (pc := 25) (by decide +kernel) ?_
      obtain ⟨e26, q26, h⟩ := bnd h
      refine r_lald (pc := 26) (by decide +kernel) q26 ?_
      refine r_aload_n (pc := 27) 0 (n := 1) (by decide +kernel) rfl rfl ?_
      obtain ⟨g28, q28, h⟩ := bnd h
      refine r_get (pc := 28) (by decide +kernel) fl_Census_41 (by decide) rfl q28 ?_
      refine r_iload (pc := 31) 3 (by decide +kernel) rfl ?_
      refine r_iload (pc := 33) 5 (by decide +kernel) rfl ?_
      refine r_isub (pc := 35) (by decide +kernel) ?_
      refine r_bipush (pc := 36) (z := 6) (by decide +kernel) ⟨by decide, by decide⟩ ?_
      refine r_imul (pc := 38) (by decide +kernel) ?_
      refine r_iload_n (pc := 39) 2 (n := 3) (by decide +kernel) rfl rfl ?_
      refine r_iadd (pc := 40) (by decide +kernel) ?_
      obtain ⟨e41, q41, h⟩ := bnd h
      refine r_lald (pc := 41) (by decide +kernel) q41 ?_
      obtain ⟨x42, q42, h⟩ := bnd h
      refine r_callS (pc := 42) (i := 112) (d2 := d - 1) (As := [(1, e26), (1, e41)]) (st := [(1, v5)]) (st1 := [(1, e41), (1, e26), (1, v5)]) (by decide +kernel) yk_Census_times ⟨ml_Census_112, sk_Census_times⟩ np_Census_times rfl (by omega) (c_Census_times (d := d - 1) (by omega) q42) (Nat.le_of_ble_eq_true rfl) (Nat.le_of_ble_eq_true rfl) (Nat.le_of_ble_eq_true rfl) rfl ?_
      show Rn _ d _ _ 0 0 _ 45 [(1, (2, v1)), (2, (0, v2)), (3, (0, v3)), (4, (0, v4)), (5, (1, v5)), (7, (0, v7))] [(1, x42.1), (1, v5)] x42.2
      obtain ⟨x45, q45, h⟩ := bnd h
      refine r_callS (pc := 45) (i := 44) (d2 := d - 1) (As := [(1, v5), (1, x42.1)]) (st := []) (st1 := [(1, x42.1), (1, v5)]) (by decide +kernel) yk_Census_plus ⟨ml_Census_44, sk_Census_plus⟩ np_Census_plus rfl (by omega) (c_Census_plus (d := d - 1) (by omega) q45) (Nat.le_of_ble_eq_true rfl) (Nat.le_of_ble_eq_true rfl) (Nat.le_of_ble_eq_true rfl) rfl ?_
      show Rn _ d _ _ 0 0 _ 48 [(1, (2, v1)), (2, (0, v2)), (3, (0, v3)), (4, (0, v4)), (5, (1, v5)), (7, (0, v7))] [(1, x45.1)] x45.2
      refine r_lstore (pc := 48) (lv' := [(5, (1, x45.1)), (1, (2, v1)), (2, (0, v2)), (3, (0, v3)), (4, (0, v4)), (7, (0, v7))]) (by decide +kernel) (Nat.le_of_ble_eq_true rfl) rfl ?_
      refine r_iinc (pc := 50) 5 (n := 1) (lv' := [(7, (0, wr (v7 + 1))), (5, (1, x45.1)), (1, (2, v1)), (2, (0, v2)), (3, (0, v3)), (4, (0, v4))]) (by decide +kernel) rfl (Nat.le_of_ble_eq_true rfl) rfl ?_
      refine r_goto (pc := 53) (off := (-47)) (tgt := 6) (by decide +kernel) (by decide) ?_
      refine r_lv [2, 3, 4, 5, 1, 0] rfl ?_
      exact ih x45.1 (wr (v7 + 1)) x45.2 h
theorem c_Census_pairsOf {d : Nat} (hd : 2 ≤ d) {a0 a1 a2 a3 a4 : Int} {M : Mem} {x : Int × Mem} (h : D_Census_pairsOf a0 a1 a2 a3 a4 M = some x) : Ct d Y_Census_pairsOf [(2, a0), (2, a1), (0, a2), (0, a3), (0, a4)] M (some (1, x.1), x.2) 0 0 := by
  refine ct_of yk_Census_pairsOf (Nat.le_of_ble_eq_true rfl) ?_
  rw [D_Census_pairsOf] at h
  show Rn Y_Census_pairsOf d 0 0 0 0 (some (1, x.1), x.2) 0 [(0, (2, a0)), (1, (2, a1)), (2, (0, a2)), (3, (0, a3)), (4, (0, a4))] [] M
  refine r_lconst (pc := 0) (n := 0) (z := 0) (by decide +kernel) rfl ?_
  refine r_lstore (pc := 1) (lv' := [(5, (1, 0)), (0, (2, a0)), (1, (2, a1)), (2, (0, a2)), (3, (0, a3)), (4, (0, a4))]) (by decide +kernel) (Nat.le_of_ble_eq_true rfl) rfl ?_
  refine r_iconst (pc := 3) (z := 1) (by decide +kernel) ⟨by decide, by decide⟩ ?_
  refine r_istore (pc := 4) (lv' := [(7, (0, 1)), (5, (1, 0)), (0, (2, a0)), (1, (2, a1)), (2, (0, a2)), (3, (0, a3)), (4, (0, a4))]) (by decide +kernel) (Nat.le_of_ble_eq_true rfl) rfl ?_
  refine r_lv [3, 4, 5, 6, 1, 0] rfl ?_
  refine sL_Census_pairsOf_6 (by omega) ?_ _ _ _  _ h
  intro w5_6 m6 h
  refine r_lload (pc := 56) 0 (by decide +kernel) rfl ?_
  obtain rfl := Option.some.inj h
  exact r_ret (pc := 58) (r := some (1, w5_6)) (by decide +kernel) rfl trivial (Nat.le_of_ble_eq_true rfl) (Nat.le_of_ble_eq_true rfl)

/-! TreeTongues$Census.countPairs(LTreeTongues$Machine;I)V -/
noncomputable def L_Census_countPairs_38 (k : Mem → Option (Mem)) (v0 : Int) (v1 : Int) (v2 : Int) (v3 : Int) (v4 : Int) (v5 : Int) : Nat → Int → Mem → Option (Mem)
  | 0 => fun _ _ => none
  | n + 1 => fun v7 M => (if (lc v5 0) ≤ 0 then (some 0) else ((gf M v0 0 4 0).bind fun g48 => (gf M g48 5 3 1).bind fun g51 => if g51 ≤ v7 then (some 0) else (some 1))).bind fun (t42 : Int) => if t42 = 0 then (k  M) else ((gf M v0 0 4 0).bind fun g58 => (ck M g58 5 3).bind fun _ => (D_Signs_rankOf g58 v7 M).bind fun x63 => (if x63.1 = 2 then ((ck x63.2 v1 1 14).bind fun _ => (D_Machine_step v1 v7 v3 v4 x63.2).bind fun x79 => (ck x79.2 v0 0 4).bind fun _ => (D_Census_add v0 v1 v2 x79.1 v5 x79.2).bind fun x84 => some x84) else (some x63.2)).bind fun (t67 : Mem) => L_Census_countPairs_38 k v0 v1 v2 v3 v4 v5 n (wr (v7 + 1)) t67)
noncomputable def L_Census_countPairs_13 (k : Mem → Option (Mem)) (v0 : Int) (v1 : Int) (v2 : Int) (v3 : Int) : Nat → Int → Mem → Option (Mem)
  | 0 => fun _ _ => none
  | n + 1 => fun v4 M => (gf M v1 1 14 10).bind fun g16 => if g16 ≤ v4 then (k  M) else ((ck M v0 0 4).bind fun _ => (D_Census_pairsOf v0 v1 v3 v4 (wr (v2 - 1)) M).bind fun x30 => L_Census_countPairs_38 (fun  m38 => L_Census_countPairs_13 k v0 v1 v2 v3 n (wr (v4 + 1)) m38) v0 v1 v2 v3 v4 x30.1 FU 0 x30.2)
noncomputable def L_Census_countPairs_2 (k : Mem → Option (Mem)) (v0 : Int) (v1 : Int) (v2 : Int) : Nat → Int → Mem → Option (Mem)
  | 0 => fun _ _ => none
  | n + 1 => fun v3 M => (gf M v1 1 14 10).bind fun g4 => if g4 ≤ v3 then (k  M) else (L_Census_countPairs_13 (fun  m13 => L_Census_countPairs_2 k v0 v1 v2 n (wr (v3 + 1)) m13) v0 v1 v2 v3 FU 0 M)
noncomputable def D_Census_countPairs (a0 a1 a2 : Int) (M : Mem) : Option (Mem) := L_Census_countPairs_2 (fun  m2 => some m2) a0 a1 a2 FU 0 M
theorem sL_Census_countPairs_38 {d mc ms : Nat} (hd : 4 ≤ d) {r : Mem} {k : Mem → Option (Mem)} {v0 : Int} {v1 : Int} {v2 : Int} {v3 : Int} {v4 : Int} {v5 : Int} (hk : ∀ (M : Mem), k M = some r → Rn Y_Census_countPairs d mc ms 0 0 (none, r) 93 [(0, (2, v0)), (1, (2, v1)), (2, (0, v2)), (3, (0, v3)), (4, (0, v4))] [] M) : ∀ (n : Nat) (v7 : Int) (M : Mem), L_Census_countPairs_38 k v0 v1 v2 v3 v4 v5 n v7 M = some r → Rn Y_Census_countPairs d mc ms 0 0 (none, r) 38 [(0, (2, v0)), (1, (2, v1)), (2, (0, v2)), (3, (0, v3)), (4, (0, v4)), (5, (1, v5)), (7, (0, v7))] [] M := by
  intro n
  induction n with
  | zero => intro _ _ h; cases h
  | succ n ih =>
    intro v7 M h
    rw [L_Census_countPairs_38] at h
    refine r_lload (pc := 38) 5 (by decide +kernel) rfl ?_
    refine r_lconst (pc := 40) (n := 0) (z := 0) (by decide +kernel) rfl ?_
    refine r_lcmp (pc := 41) (by decide +kernel) ?_
    obtain ⟨t42, ht42, h⟩ := bnd h
    have E42_0 : t42 = 0 → Rn Y_Census_countPairs d mc ms 0 0 (none, r) 93 [(0, (2, v0)), (1, (2, v1)), (2, (0, v2)), (3, (0, v3)), (4, (0, v4))] [] M := by
      intro y0
      have h := ite_t y0 h
      exact hk  M h
    have E42_1 : ¬ t42 = 0 → Rn Y_Census_countPairs d mc ms 0 0 (none, r) 57 [(0, (2, v0)), (1, (2, v1)), (2, (0, v2)), (3, (0, v3)), (4, (0, v4)), (5, (1, v5)), (7, (0, v7))] [] M := by
      intro n0
      have h := ite_f n0 h
      refine r_aload_n (pc := 57) 0 (n := 0) (by decide +kernel) rfl rfl ?_
      obtain ⟨g58, q58, h⟩ := bnd h
      refine r_get (pc := 58) (by decide +kernel) fl_Census_19.r (by decide) rfl q58 ?_
      refine r_iload (pc := 61) 6 (by decide +kernel) rfl ?_
      obtain ⟨_, q63c, h⟩ := bnd h
      obtain ⟨x63, q63, h⟩ := bnd h
      refine r_callV (pc := 63) (i := 97) (d2 := d - 1) (As := [(0, v7)]) (st := []) (st1 := [(0, v7), (2, g58)]) (by decide +kernel) yk_Signs_rankOf (by decide) rfl ⟨ml_Census_97, vk_Signs_rankOf⟩ np_Signs_rankOf rfl (by omega) q63c (c_Signs_rankOf (d := d - 1) (by omega) q63) (Nat.le_of_ble_eq_true rfl) (Nat.le_of_ble_eq_true rfl) (Nat.le_of_ble_eq_true rfl) rfl ?_
      show Rn _ d _ _ 0 0 _ 66 [(0, (2, v0)), (1, (2, v1)), (2, (0, v2)), (3, (0, v3)), (4, (0, v4)), (5, (1, v5)), (7, (0, v7))] [(0, x63.1)] x63.2
      refine r_iconst (pc := 66) (z := 2) (by decide +kernel) ⟨by decide, by decide⟩ ?_
      obtain ⟨t67, ht67, h⟩ := bnd h
      have E67_0 : Rn Y_Census_countPairs d mc ms 0 0 (none, r) 87 [(0, (2, v0)), (1, (2, v1)), (2, (0, v2)), (3, (0, v3)), (4, (0, v4)), (5, (1, v5)), (7, (0, v7))] [] t67 := by
        refine r_iinc (pc := 87) 6 (n := 1) (lv' := [(7, (0, wr (v7 + 1))), (0, (2, v0)), (1, (2, v1)), (2, (0, v2)), (3, (0, v3)), (4, (0, v4)), (5, (1, v5))]) (by decide +kernel) rfl (Nat.le_of_ble_eq_true rfl) rfl ?_
        refine r_goto (pc := 90) (off := (-52)) (tgt := 38) (by decide +kernel) (by decide) ?_
        refine r_lv [1, 2, 3, 4, 5, 6, 0] rfl ?_
        exact ih (wr (v7 + 1)) t67 h
      refine r_icmp_ne (pc := 67) (off := 20) (tgt := 87) (by decide +kernel) (by decide) (fun c67 => ?_) (fun c67 => ?_)
      · have ht67 := ite_f c67 ht67
        obtain rfl := Option.some.inj ht67
        exact E67_0
      · have ht67 := ite_t c67 ht67
        refine r_aload_n (pc := 70) 0 (n := 0) (by decide +kernel) rfl rfl ?_
        refine r_aload_n (pc := 71) 1 (n := 1) (by decide +kernel) rfl rfl ?_
        refine r_iload_n (pc := 72) 2 (n := 2) (by decide +kernel) rfl rfl ?_
        refine r_aload_n (pc := 73) 1 (n := 1) (by decide +kernel) rfl rfl ?_
        refine r_iload (pc := 74) 6 (by decide +kernel) rfl ?_
        refine r_iload_n (pc := 76) 3 (n := 3) (by decide +kernel) rfl rfl ?_
        refine r_iload (pc := 77) 4 (by decide +kernel) rfl ?_
        obtain ⟨_, q79c, ht67⟩ := bnd ht67
        obtain ⟨x79, q79, ht67⟩ := bnd ht67
        refine r_callV (pc := 79) (i := 100) (d2 := d - 1) (As := [(0, v7), (0, v3), (0, v4)]) (st := [(0, v2), (2, v1), (2, v0)]) (st1 := [(0, v4), (0, v3), (0, v7), (2, v1), (0, v2), (2, v1), (2, v0)]) (by decide +kernel) yk_Machine_step (by decide) rfl ⟨ml_Census_100, vk_Machine_step⟩ np_Machine_step rfl (by omega) q79c (c_Machine_step (d := d - 1) (by omega) q79) (Nat.le_of_ble_eq_true rfl) (Nat.le_of_ble_eq_true rfl) (Nat.le_of_ble_eq_true rfl) rfl ?_
        show Rn _ d _ _ 0 0 _ 82 [(0, (2, v0)), (1, (2, v1)), (2, (0, v2)), (3, (0, v3)), (4, (0, v4)), (5, (1, v5)), (7, (0, v7))] [(0, x79.1), (0, v2), (2, v1), (2, v0)] x79.2
        refine r_lload (pc := 82) 5 (by decide +kernel) rfl ?_
        obtain ⟨_, q84c, ht67⟩ := bnd ht67
        obtain ⟨x84, q84, ht67⟩ := bnd ht67
        refine r_callV (pc := 84) (i := 104) (d2 := d - 1) (As := [(2, v1), (0, v2), (0, x79.1), (1, v5)]) (st := []) (st1 := [(1, v5), (0, x79.1), (0, v2), (2, v1), (2, v0)]) (by decide +kernel) yk_Census_add (by decide) rfl ⟨ml_Census_104, vk_Census_add⟩ np_Census_add rfl (by omega) q84c (c_Census_add (d := d - 1) (by omega) q84) (Nat.le_of_ble_eq_true rfl) (Nat.le_of_ble_eq_true rfl) (Nat.le_of_ble_eq_true rfl) rfl ?_
        show Rn _ d _ _ 0 0 _ 87 [(0, (2, v0)), (1, (2, v1)), (2, (0, v2)), (3, (0, v3)), (4, (0, v4)), (5, (1, v5)), (7, (0, v7))] [] x84
        obtain rfl := Option.some.inj ht67
        exact E67_0
    refine r_if_le (pc := 42) (off := 51) (tgt := 93) (by decide +kernel) (by decide) (fun c42 => ?_) (fun c42 => ?_)
    · have ht42 := ite_t c42 ht42
      obtain rfl := Option.some.inj ht42
      refine r_lv [0, 1, 2, 3, 4] rfl ?_
      exact E42_0 rfl
    · have ht42 := ite_f c42 ht42
      refine r_iload (pc := 45) 6 (by decide +kernel) rfl ?_
      refine r_aload_n (pc := 47) 0 (n := 0) (by decide +kernel) rfl rfl ?_
      obtain ⟨g48, q48, ht42⟩ := bnd ht42
      refine r_get (pc := 48) (by decide +kernel) fl_Census_19.r (by decide) rfl q48 ?_
      obtain ⟨g51, q51, ht42⟩ := bnd ht42
      refine r_get (pc := 51) (by decide +kernel) fl_Census_94.r (by decide) rfl q51 ?_
      refine r_icmp_ge (pc := 54) (off := 39) (tgt := 93) (by decide +kernel) (by decide) (fun c54 => ?_) (fun c54 => ?_)
      · have ht42 := ite_t c54 ht42
        obtain rfl := Option.some.inj ht42
        refine r_lv [0, 1, 2, 3, 4] rfl ?_
        exact E42_0 rfl
      · have ht42 := ite_f c54 ht42
        obtain rfl := Option.some.inj ht42
        exact E42_1 (show ¬ (1 : Int) = 0 by decide)
theorem sL_Census_countPairs_13 {d mc ms : Nat} (hd : 4 ≤ d) {r : Mem} {k : Mem → Option (Mem)} {v0 : Int} {v1 : Int} {v2 : Int} {v3 : Int} (hk : ∀ (M : Mem), k M = some r → Rn Y_Census_countPairs d mc ms 0 0 (none, r) 99 [(0, (2, v0)), (1, (2, v1)), (2, (0, v2)), (3, (0, v3))] [] M) : ∀ (n : Nat) (v4 : Int) (M : Mem), L_Census_countPairs_13 k v0 v1 v2 v3 n v4 M = some r → Rn Y_Census_countPairs d mc ms 0 0 (none, r) 13 [(0, (2, v0)), (1, (2, v1)), (2, (0, v2)), (3, (0, v3)), (4, (0, v4))] [] M := by
  intro n
  induction n with
  | zero => intro _ _ h; cases h
  | succ n ih =>
    intro v4 M h
    rw [L_Census_countPairs_13] at h
    refine r_iload (pc := 13) 4 (by decide +kernel) rfl ?_
    refine r_aload_n (pc := 15) 1 (n := 1) (by decide +kernel) rfl rfl ?_
    obtain ⟨g16, q16, h⟩ := bnd h
    refine r_get (pc := 16) (by decide +kernel) fl_Census_31.r (by decide) rfl q16 ?_
    refine r_icmp_ge (pc := 19) (off := 80) (tgt := 99) (by decide +kernel) (by decide) (fun c19 => ?_) (fun c19 => ?_)
    · have h := ite_t c19 h
      refine r_lv [0, 1, 2, 3] rfl ?_
      exact hk  M h
    · have h := ite_f c19 h
      refine r_aload_n (pc := 22) 0 (n := 0) (by decide +kernel) rfl rfl ?_
      refine r_aload_n (pc := 23) 1 (n := 1) (by decide +kernel) rfl rfl ?_
      refine r_iload_n (pc := 24) 3 (n := 3) (by decide +kernel) rfl rfl ?_
      refine r_iload (pc := 25) 4 (by decide +kernel) rfl ?_
      refine r_iload_n (pc := 27) 2 (n := 2) (by decide +kernel) rfl rfl ?_
      refine r_iconst (pc := 28) (z := 1) (by decide +kernel) ⟨by decide, by decide⟩ ?_
      refine r_isub (pc := 29) (by decide +kernel) ?_
      obtain ⟨_, q30c, h⟩ := bnd h
      obtain ⟨x30, q30, h⟩ := bnd h
      refine r_callV (pc := 30) (i := 108) (d2 := d - 1) (As := [(2, v1), (0, v3), (0, v4), (0, wr (v2 - 1))]) (st := []) (st1 := [(0, wr (v2 - 1)), (0, v4), (0, v3), (2, v1), (2, v0)]) (by decide +kernel) yk_Census_pairsOf (by decide) rfl ⟨ml_Census_108, vk_Census_pairsOf⟩ np_Census_pairsOf rfl (by omega) q30c (c_Census_pairsOf (d := d - 1) (by omega) q30) (Nat.le_of_ble_eq_true rfl) (Nat.le_of_ble_eq_true rfl) (Nat.le_of_ble_eq_true rfl) rfl ?_
      show Rn _ d _ _ 0 0 _ 33 [(0, (2, v0)), (1, (2, v1)), (2, (0, v2)), (3, (0, v3)), (4, (0, v4))] [(1, x30.1)] x30.2
      refine r_lstore (pc := 33) (lv' := [(5, (1, x30.1)), (0, (2, v0)), (1, (2, v1)), (2, (0, v2)), (3, (0, v3)), (4, (0, v4))]) (by decide +kernel) (Nat.le_of_ble_eq_true rfl) rfl ?_
      refine r_iconst (pc := 35) (z := 0) (by decide +kernel) ⟨by decide, by decide⟩ ?_
      refine r_istore (pc := 36) (lv' := [(7, (0, 0)), (5, (1, x30.1)), (0, (2, v0)), (1, (2, v1)), (2, (0, v2)), (3, (0, v3)), (4, (0, v4))]) (by decide +kernel) (Nat.le_of_ble_eq_true rfl) rfl ?_
      refine r_lv [2, 3, 4, 5, 6, 1, 0] rfl ?_
      refine sL_Census_countPairs_38 (by omega) ?_ _ _  _ h
      intro m38 h
      refine r_iinc (pc := 93) 4 (n := 1) (lv' := [(4, (0, wr (v4 + 1))), (0, (2, v0)), (1, (2, v1)), (2, (0, v2)), (3, (0, v3))]) (by decide +kernel) rfl (Nat.le_of_ble_eq_true rfl) rfl ?_
      refine r_goto (pc := 96) (off := (-83)) (tgt := 13) (by decide +kernel) (by decide) ?_
      refine r_lv [1, 2, 3, 4, 0] rfl ?_
      exact ih (wr (v4 + 1)) m38 h
theorem sL_Census_countPairs_2 {d mc ms : Nat} (hd : 4 ≤ d) {r : Mem} {k : Mem → Option (Mem)} {v0 : Int} {v1 : Int} {v2 : Int} (hk : ∀ (M : Mem), k M = some r → Rn Y_Census_countPairs d mc ms 0 0 (none, r) 105 [] [] M) : ∀ (n : Nat) (v3 : Int) (M : Mem), L_Census_countPairs_2 k v0 v1 v2 n v3 M = some r → Rn Y_Census_countPairs d mc ms 0 0 (none, r) 2 [(0, (2, v0)), (1, (2, v1)), (2, (0, v2)), (3, (0, v3))] [] M := by
  intro n
  induction n with
  | zero => intro _ _ h; cases h
  | succ n ih =>
    intro v3 M h
    rw [L_Census_countPairs_2] at h
    refine r_iload_n (pc := 2) 3 (n := 3) (by decide +kernel) rfl rfl ?_
    refine r_aload_n (pc := 3) 1 (n := 1) (by decide +kernel) rfl rfl ?_
    obtain ⟨g4, q4, h⟩ := bnd h
    refine r_get (pc := 4) (by decide +kernel) fl_Census_31.r (by decide) rfl q4 ?_
    refine r_icmp_ge (pc := 7) (off := 98) (tgt := 105) (by decide +kernel) (by decide) (fun c7 => ?_) (fun c7 => ?_)
    · have h := ite_t c7 h
      refine r_lv [] rfl ?_
      exact hk  M h
    · have h := ite_f c7 h
      refine r_iconst (pc := 10) (z := 0) (by decide +kernel) ⟨by decide, by decide⟩ ?_
      refine r_istore (pc := 11) (lv' := [(4, (0, 0)), (0, (2, v0)), (1, (2, v1)), (2, (0, v2)), (3, (0, v3))]) (by decide +kernel) (Nat.le_of_ble_eq_true rfl) rfl ?_
      refine r_lv [1, 2, 3, 4, 0] rfl ?_
      refine sL_Census_countPairs_13 (by omega) ?_ _ _  _ h
      intro m13 h
      refine r_iinc (pc := 99) 3 (n := 1) (lv' := [(3, (0, wr (v3 + 1))), (0, (2, v0)), (1, (2, v1)), (2, (0, v2))]) (by decide +kernel) rfl (Nat.le_of_ble_eq_true rfl) rfl ?_
      refine r_goto (pc := 102) (off := (-100)) (tgt := 2) (by decide +kernel) (by decide) ?_
      refine r_lv [1, 2, 3, 0] rfl ?_
      exact ih (wr (v3 + 1)) m13 h
theorem c_Census_countPairs {d : Nat} (hd : 4 ≤ d) {a0 a1 a2 : Int} {M : Mem} {x : Mem} (h : D_Census_countPairs a0 a1 a2 M = some x) : Ct d Y_Census_countPairs [(2, a0), (2, a1), (0, a2)] M (none, x) 0 0 := by
  refine ct_of yk_Census_countPairs (Nat.le_of_ble_eq_true rfl) ?_
  rw [D_Census_countPairs] at h
  show Rn Y_Census_countPairs d 0 0 0 0 (none, x) 0 [(0, (2, a0)), (1, (2, a1)), (2, (0, a2))] [] M
  refine r_iconst (pc := 0) (z := 0) (by decide +kernel) ⟨by decide, by decide⟩ ?_
  refine r_istore_n (pc := 1) (n := 3) (lv' := [(3, (0, 0)), (0, (2, a0)), (1, (2, a1)), (2, (0, a2))]) (by decide +kernel) rfl (Nat.le_of_ble_eq_true rfl) rfl ?_
  refine r_lv [1, 2, 3, 0] rfl ?_
  refine sL_Census_countPairs_2 (by omega) ?_ _ _  _ h
  intro m2 h
  obtain rfl := Option.some.inj h
  exact r_ret (pc := 105) (r := none) (by decide +kernel) rfl trivial (Nat.le_of_ble_eq_true rfl) (Nat.le_of_ble_eq_true rfl)

/-! TreeTongues$Census.countAll(LTreeTongues$Machine;)V -/
noncomputable def L_Census_countAll_18 (k : Mem → Option (Mem)) (v0 : Int) (v1 : Int) : Nat → Int → Mem → Option (Mem)
  | 0 => fun _ _ => none
  | n + 1 => fun v2 M => if 40 < v2 then (k  M) else ((ck M v0 0 4).bind fun _ => (D_Census_countSimple v0 v1 v2 M).bind fun x27 => (gf x27 v0 0 4 0).bind fun g31 => (gf x27 g31 5 3 2).bind fun g34 => (if g34 = 0 then (some x27) else ((ck x27 v0 0 4).bind fun _ => (D_Census_countPairs v0 v1 v2 x27).bind fun x43 => some x43)).bind fun (t37 : Mem) => L_Census_countAll_18 k v0 v1 n (wr (v2 + 1)) t37)
noncomputable def D_Census_countAll (a0 a1 : Int) (M : Mem) : Option (Mem) := (gf M a1 1 14 13).bind fun g1 => if g1 = 0 then ((gf M a1 1 14 6).bind fun g9 => (D_Arr_fill_JJV g9 0 M).bind fun x13 => L_Census_countAll_18 (fun  m18 => (pf m18 a1 1 14 13 1).bind fun m54 => some m54) a0 a1 FU 1 x13) else (some M)
theorem sL_Census_countAll_18 {d mc ms : Nat} (hd : 5 ≤ d) {r : Mem} {k : Mem → Option (Mem)} {v0 : Int} {v1 : Int} (hk : ∀ (M : Mem), k M = some r → Rn Y_Census_countAll d mc ms 0 0 (none, r) 52 [(1, (2, v1))] [] M) : ∀ (n : Nat) (v2 : Int) (M : Mem), L_Census_countAll_18 k v0 v1 n v2 M = some r → Rn Y_Census_countAll d mc ms 0 0 (none, r) 18 [(0, (2, v0)), (1, (2, v1)), (2, (0, v2))] [] M := by
  intro n
  induction n with
  | zero => intro _ _ h; cases h
  | succ n ih =>
    intro v2 M h
    rw [L_Census_countAll_18] at h
    refine r_iload_n (pc := 18) 2 (n := 2) (by decide +kernel) rfl rfl ?_
    refine r_bipush (pc := 19) (z := 40) (by decide +kernel) ⟨by decide, by decide⟩ ?_
    refine r_icmp_gt (pc := 21) (off := 31) (tgt := 52) (by decide +kernel) (by decide) (fun c21 => ?_) (fun c21 => ?_)
    · have h := ite_t c21 h
      refine r_lv [1] rfl ?_
      exact hk  M h
    · have h := ite_f c21 h
      refine r_aload_n (pc := 24) 0 (n := 0) (by decide +kernel) rfl rfl ?_
      refine r_aload_n (pc := 25) 1 (n := 1) (by decide +kernel) rfl rfl ?_
      refine r_iload_n (pc := 26) 2 (n := 2) (by decide +kernel) rfl rfl ?_
      obtain ⟨_, q27c, h⟩ := bnd h
      obtain ⟨x27, q27, h⟩ := bnd h
      refine r_callV (pc := 27) (i := 82) (d2 := d - 1) (As := [(2, v1), (0, v2)]) (st := []) (st1 := [(0, v2), (2, v1), (2, v0)]) (by decide +kernel) yk_Census_countSimple (by decide) rfl ⟨ml_Census_82, vk_Census_countSimple⟩ np_Census_countSimple rfl (by omega) q27c (c_Census_countSimple (d := d - 1) (by omega) q27) (Nat.le_of_ble_eq_true rfl) (Nat.le_of_ble_eq_true rfl) (Nat.le_of_ble_eq_true rfl) rfl ?_
      show Rn _ d _ _ 0 0 _ 30 [(0, (2, v0)), (1, (2, v1)), (2, (0, v2))] [] x27
      refine r_aload_n (pc := 30) 0 (n := 0) (by decide +kernel) rfl rfl ?_
      obtain ⟨g31, q31, h⟩ := bnd h
      refine r_get (pc := 31) (by decide +kernel) fl_Census_19.r (by decide) rfl q31 ?_
      obtain ⟨g34, q34, h⟩ := bnd h
      refine r_get (pc := 34) (by decide +kernel) fl_Census_86.r (by decide) rfl q34 ?_
      obtain ⟨t37, ht37, h⟩ := bnd h
      have E37_0 : Rn Y_Census_countAll d mc ms 0 0 (none, r) 46 [(0, (2, v0)), (1, (2, v1)), (2, (0, v2))] [] t37 := by
        refine r_iinc (pc := 46) 2 (n := 1) (lv' := [(2, (0, wr (v2 + 1))), (0, (2, v0)), (1, (2, v1))]) (by decide +kernel) rfl (Nat.le_of_ble_eq_true rfl) rfl ?_
        refine r_goto (pc := 49) (off := (-31)) (tgt := 18) (by decide +kernel) (by decide) ?_
        refine r_lv [1, 2, 0] rfl ?_
        exact ih (wr (v2 + 1)) t37 h
      refine r_if_eq (pc := 37) (off := 9) (tgt := 46) (by decide +kernel) (by decide) (fun c37 => ?_) (fun c37 => ?_)
      · have ht37 := ite_t c37 ht37
        obtain rfl := Option.some.inj ht37
        exact E37_0
      · have ht37 := ite_f c37 ht37
        refine r_aload_n (pc := 40) 0 (n := 0) (by decide +kernel) rfl rfl ?_
        refine r_aload_n (pc := 41) 1 (n := 1) (by decide +kernel) rfl rfl ?_
        refine r_iload_n (pc := 42) 2 (n := 2) (by decide +kernel) rfl rfl ?_
        obtain ⟨_, q43c, ht37⟩ := bnd ht37
        obtain ⟨x43, q43, ht37⟩ := bnd ht37
        refine r_callV (pc := 43) (i := 91) (d2 := d - 1) (As := [(2, v1), (0, v2)]) (st := []) (st1 := [(0, v2), (2, v1), (2, v0)]) (by decide +kernel) yk_Census_countPairs (by decide) rfl ⟨ml_Census_91, vk_Census_countPairs⟩ np_Census_countPairs rfl (by omega) q43c (c_Census_countPairs (d := d - 1) (by omega) q43) (Nat.le_of_ble_eq_true rfl) (Nat.le_of_ble_eq_true rfl) (Nat.le_of_ble_eq_true rfl) rfl ?_
        show Rn _ d _ _ 0 0 _ 46 [(0, (2, v0)), (1, (2, v1)), (2, (0, v2))] [] x43
        obtain rfl := Option.some.inj ht37
        exact E37_0
theorem c_Census_countAll {d : Nat} (hd : 5 ≤ d) {a0 a1 : Int} {M : Mem} {x : Mem} (h : D_Census_countAll a0 a1 M = some x) : Ct d Y_Census_countAll [(2, a0), (2, a1)] M (none, x) 0 0 := by
  refine ct_of yk_Census_countAll (Nat.le_of_ble_eq_true rfl) ?_
  rw [D_Census_countAll] at h
  show Rn Y_Census_countAll d 0 0 0 0 (none, x) 0 [(0, (2, a0)), (1, (2, a1))] [] M
  refine r_aload_n (pc := 0) 1 (n := 1) (by decide +kernel) rfl rfl ?_
  obtain ⟨g1, q1, h⟩ := bnd h
  refine r_get (pc := 1) (by decide +kernel) fl_Census_72.r (by decide) rfl q1 ?_
  refine r_if_eq (pc := 4) (off := 4) (tgt := 8) (by decide +kernel) (by decide) (fun c4 => ?_) (fun c4 => ?_)
  · have h := ite_t c4 h
    refine r_aload_n (pc := 8) 1 (n := 1) (by decide +kernel) rfl rfl ?_
    obtain ⟨g9, q9, h⟩ := bnd h
    refine r_get (pc := 9) (by decide +kernel) fl_Census_41 (by decide) rfl q9 ?_
    refine r_lconst (pc := 12) (n := 0) (z := 0) (by decide +kernel) rfl ?_
    obtain ⟨x13, q13, h⟩ := bnd h
    refine r_callS (pc := 13) (i := 76) (d2 := d - 1) (As := [(2, g9), (1, 0)]) (st := []) (st1 := [(1, 0), (2, g9)]) (by decide +kernel) yk_Arr_fill_JJV ⟨ml_Census_76, sk_Arr_fill_JJV⟩ np_Arr_fill_JJV rfl (by omega) (c_Arr_fill_JJV (d := d - 1) (by omega) q13) (Nat.le_of_ble_eq_true rfl) (Nat.le_of_ble_eq_true rfl) (Nat.le_of_ble_eq_true rfl) rfl ?_
    show Rn _ d _ _ 0 0 _ 16 [(0, (2, a0)), (1, (2, a1))] [] x13
    refine r_iconst (pc := 16) (z := 1) (by decide +kernel) ⟨by decide, by decide⟩ ?_
    refine r_istore_n (pc := 17) (n := 2) (lv' := [(2, (0, 1)), (0, (2, a0)), (1, (2, a1))]) (by decide +kernel) rfl (Nat.le_of_ble_eq_true rfl) rfl ?_
    refine r_lv [1, 2, 0] rfl ?_
    refine sL_Census_countAll_18 (by omega) ?_ _ _  _ h
    intro m18 h
    refine r_aload_n (pc := 52) 0 (n := 1) (by decide +kernel) rfl rfl ?_
    refine r_iconst (pc := 53) (z := 1) (by decide +kernel) ⟨by decide, by decide⟩ ?_
    obtain ⟨m54, q54, h⟩ := bnd h
    refine r_put (pc := 54) (by decide +kernel) fl_Census_72 (by decide) (Or.inr nf_1_13) rfl (fun _ => Or.inr rfl) q54 ?_
    obtain rfl := Option.some.inj h
    exact r_ret (pc := 57) (r := none) (by decide +kernel) rfl trivial (Nat.le_of_ble_eq_true rfl) (Nat.le_of_ble_eq_true rfl)
  · have h := ite_f c4 h
    obtain rfl := Option.some.inj h
    exact r_ret (pc := 7) (r := none) (by decide +kernel) rfl trivial (Nat.le_of_ble_eq_true rfl) (Nat.le_of_ble_eq_true rfl)

/-! TreeTongues$Census.treesOf(LTreeTongues$Machine;I)J -/
noncomputable def L_Census_treesOf_10 (k : Int → Mem → Option (Int × Mem)) (v1 : Int) (v2 : Int) : Nat → Int → Int → Mem → Option (Int × Mem)
  | 0 => fun _ _ _ => none
  | n + 1 => fun v3 v5 M => (gf M v1 1 14 10).bind fun g13 => if g13 ≤ v5 then (k v3 M) else ((ck M v1 1 14).bind fun _ => (D_Machine_finalBit v1 v5 M).bind fun x22 => (if x22.1 = 1 then ((gf x22.2 v1 1 14 6).bind fun g31 => (rd x22.2 11 g31 (wr ((wr (v2 * 6)) + v5))).bind fun e41 => (D_Census_plus v3 e41 x22.2).bind fun x42 => some (x42.1, x42.2)) else (some (v3, x22.2))).bind fun (t26 : Int × Mem) => L_Census_treesOf_10 k v1 v2 n t26.1 (wr (v5 + 1)) t26.2)
noncomputable def D_Census_treesOf (a0 a1 a2 : Int) (M : Mem) : Option (Int × Mem) := (ck M a0 0 4).bind fun _ => (D_Census_countAll a0 a1 M).bind fun x2 => L_Census_treesOf_10 (fun w3_10 m10 => some (w3_10, m10)) a1 a2 FU 0 0 x2
theorem sL_Census_treesOf_10 {d mc ms : Nat} (hd : 6 ≤ d) {r : Int × Mem} {k : Int → Mem → Option (Int × Mem)} {v1 : Int} {v2 : Int} (hk : ∀ (v3 : Int) (M : Mem), k v3 M = some r → Rn Y_Census_treesOf d mc ms 0 0 (some (1, r.1), r.2) 52 [(3, (1, v3))] [] M) : ∀ (n : Nat) (v3 : Int) (v5 : Int) (M : Mem), L_Census_treesOf_10 k v1 v2 n v3 v5 M = some r → Rn Y_Census_treesOf d mc ms 0 0 (some (1, r.1), r.2) 10 [(1, (2, v1)), (2, (0, v2)), (3, (1, v3)), (5, (0, v5))] [] M := by
  intro n
  induction n with
  | zero => intro _ _ _ h; cases h
  | succ n ih =>
    intro v3 v5 M h
    rw [L_Census_treesOf_10] at h
    refine r_iload (pc := 10) 3 (by decide +kernel) rfl ?_
    refine r_aload_n (pc := 12) 0 (n := 1) (by decide +kernel) rfl rfl ?_
    obtain ⟨g13, q13, h⟩ := bnd h
    refine r_get (pc := 13) (by decide +kernel) fl_Census_31.r (by decide) rfl q13 ?_
    refine r_icmp_ge (pc := 16) (off := 36) (tgt := 52) (by decide +kernel) (by decide) (fun c16 => ?_) (fun c16 => ?_)
    · have h := ite_t c16 h
      refine r_lv [2] rfl ?_
      exact hk v3 M h
    · have h := ite_f c16 h
      refine r_aload_n (pc := 19) 0 (n := 1) (by decide +kernel) rfl rfl ?_
      refine r_iload (pc := 20) 3 (by decide +kernel) rfl ?_
      obtain ⟨_, q22c, h⟩ := bnd h
      obtain ⟨x22, q22, h⟩ := bnd h
      refine r_callV (pc := 22) (i := 37) (d2 := d - 1) (As := [(0, v5)]) (st := []) (st1 := [(0, v5), (2, v1)]) (by decide +kernel) yk_Machine_finalBit (by decide) rfl ⟨ml_Census_37, vk_Machine_finalBit⟩ np_Machine_finalBit rfl (by omega) q22c (c_Machine_finalBit (d := d - 1) (by omega) q22) (Nat.le_of_ble_eq_true rfl) (Nat.le_of_ble_eq_true rfl) (Nat.le_of_ble_eq_true rfl) rfl ?_
      show Rn _ d _ _ 0 0 _ 25 [(1, (2, v1)), (2, (0, v2)), (3, (1, v3)), (5, (0, v5))] [(0, x22.1)] x22.2
      refine r_iconst (pc := 25) (z := 1) (by decide +kernel) ⟨by decide, by decide⟩ ?_
      obtain ⟨t26, ht26, h⟩ := bnd h
      have E26_0 : Rn Y_Census_treesOf d mc ms 0 0 (some (1, r.1), r.2) 46 [(1, (2, v1)), (2, (0, v2)), (3, (1, t26.1)), (5, (0, v5))] [] t26.2 := by
        refine r_iinc (pc := 46) 3 (n := 1) (lv' := [(5, (0, wr (v5 + 1))), (1, (2, v1)), (2, (0, v2)), (3, (1, t26.1))]) (by decide +kernel) rfl (Nat.le_of_ble_eq_true rfl) rfl ?_
        refine r_goto (pc := 49) (off := (-39)) (tgt := 10) (by decide +kernel) (by decide) ?_
        refine r_lv [1, 2, 3, 0] rfl ?_
        exact ih t26.1 (wr (v5 + 1)) t26.2 h
      refine r_icmp_ne (pc := 26) (off := 20) (tgt := 46) (by decide +kernel) (by decide) (fun c26 => ?_) (fun c26 => ?_)
      · have ht26 := ite_f c26 ht26
        obtain rfl := Option.some.inj ht26
        exact E26_0
      · have ht26 := ite_t c26 ht26
        refine r_lload_n (pc := 29) 2 (n := 3) (by decide +kernel) rfl rfl ?_
        refine r_aload_n (pc := 30) 0 (n := 1) (by decide +kernel) rfl rfl ?_
        obtain ⟨g31, q31, ht26⟩ := bnd ht26
        refine r_get (pc := 31) (by decide +kernel) fl_Census_41 (by decide) rfl q31 ?_
        refine r_iload_n (pc := 34) 1 (n := 2) (by decide +kernel) rfl rfl ?_
        refine r_bipush (pc := 35) (z := 6) (by decide +kernel) ⟨by decide, by decide⟩ ?_
        refine r_imul (pc := 37) (by decide +kernel) ?_
        refine r_iload (pc := 38) 3 (by decide +kernel) rfl ?_
        refine r_iadd (pc := 40) (by decide +kernel) ?_
        obtain ⟨e41, q41, ht26⟩ := bnd ht26
        refine r_lald (pc := 41) (by decide +kernel) q41 ?_
        obtain ⟨x42, q42, ht26⟩ := bnd ht26
        refine r_callS (pc := 42) (i := 44) (d2 := d - 1) (As := [(1, v3), (1, e41)]) (st := []) (st1 := [(1, e41), (1, v3)]) (by decide +kernel) yk_Census_plus ⟨ml_Census_44, sk_Census_plus⟩ np_Census_plus rfl (by omega) (c_Census_plus (d := d - 1) (by omega) q42) (Nat.le_of_ble_eq_true rfl) (Nat.le_of_ble_eq_true rfl) (Nat.le_of_ble_eq_true rfl) rfl ?_
        show Rn _ d _ _ 0 0 _ 45 [(1, (2, v1)), (2, (0, v2)), (3, (1, v3)), (5, (0, v5))] [(1, x42.1)] x42.2
        refine r_lstore_n (pc := 45) (n := 3) (lv' := [(3, (1, x42.1)), (1, (2, v1)), (2, (0, v2)), (5, (0, v5))]) (by decide +kernel) rfl (Nat.le_of_ble_eq_true rfl) rfl ?_
        obtain rfl := Option.some.inj ht26
        refine r_lv [1, 2, 0, 3] rfl ?_
        exact E26_0
theorem c_Census_treesOf {d : Nat} (hd : 6 ≤ d) {a0 a1 a2 : Int} {M : Mem} {x : Int × Mem} (h : D_Census_treesOf a0 a1 a2 M = some x) : Ct d Y_Census_treesOf [(2, a0), (2, a1), (0, a2)] M (some (1, x.1), x.2) 0 0 := by
  refine ct_of yk_Census_treesOf (Nat.le_of_ble_eq_true rfl) ?_
  rw [D_Census_treesOf] at h
  show Rn Y_Census_treesOf d 0 0 0 0 (some (1, x.1), x.2) 0 [(0, (2, a0)), (1, (2, a1)), (2, (0, a2))] [] M
  refine r_aload_n (pc := 0) 0 (n := 0) (by decide +kernel) rfl rfl ?_
  refine r_aload_n (pc := 1) 1 (n := 1) (by decide +kernel) rfl rfl ?_
  obtain ⟨_, q2c, h⟩ := bnd h
  obtain ⟨x2, q2, h⟩ := bnd h
  refine r_callV (pc := 2) (i := 27) (d2 := d - 1) (As := [(2, a1)]) (st := []) (st1 := [(2, a1), (2, a0)]) (by decide +kernel) yk_Census_countAll (by decide) rfl ⟨ml_Census_27, vk_Census_countAll⟩ np_Census_countAll rfl (by omega) q2c (c_Census_countAll (d := d - 1) (by omega) q2) (Nat.le_of_ble_eq_true rfl) (Nat.le_of_ble_eq_true rfl) (Nat.le_of_ble_eq_true rfl) rfl ?_
  show Rn _ d _ _ 0 0 _ 5 [(0, (2, a0)), (1, (2, a1)), (2, (0, a2))] [] x2
  refine r_lconst (pc := 5) (n := 0) (z := 0) (by decide +kernel) rfl ?_
  refine r_lstore_n (pc := 6) (n := 3) (lv' := [(3, (1, 0)), (0, (2, a0)), (1, (2, a1)), (2, (0, a2))]) (by decide +kernel) rfl (Nat.le_of_ble_eq_true rfl) rfl ?_
  refine r_iconst (pc := 7) (z := 0) (by decide +kernel) ⟨by decide, by decide⟩ ?_
  refine r_istore (pc := 8) (lv' := [(5, (0, 0)), (3, (1, 0)), (0, (2, a0)), (1, (2, a1)), (2, (0, a2))]) (by decide +kernel) (Nat.le_of_ble_eq_true rfl) rfl ?_
  refine r_lv [3, 4, 1, 0] rfl ?_
  refine sL_Census_treesOf_10 (by omega) ?_ _ _ _  _ h
  intro w3_10 m10 h
  refine r_lload_n (pc := 52) 0 (n := 3) (by decide +kernel) rfl rfl ?_
  obtain rfl := Option.some.inj h
  exact r_ret (pc := 53) (r := some (1, w3_10)) (by decide +kernel) rfl trivial (Nat.le_of_ble_eq_true rfl) (Nat.le_of_ble_eq_true rfl)

/-! TreeTongues.count(II)J -/
noncomputable def D_T_count (a0 a1 a2 : Int) (M : Mem) : Option (Int × Mem) := (ck M a0 8 8).bind fun _ => (D_T_find a0 a1 M).bind fun x2 => if x2.1 < 0 then (some ((-1), x2.2)) else (if a2 < 1 then (some ((-1), x2.2)) else (if 40 < a2 then (some ((-1), x2.2)) else ((ck x2.2 a0 8 8).bind fun _ => (D_T_isLarge a0 x2.1 x2.2).bind fun x23 => if x23.1 = 0 then ((gf x23.2 a0 8 8 6).bind fun g34 => (gf x23.2 x2.1 7 8 1).bind fun g38 => (ck x23.2 g34 0 4).bind fun _ => (D_Census_treesOf g34 g38 a2 x23.2).bind fun x42 => some (x42.1, x42.2)) else (some ((-1), x23.2)))))
theorem c_T_count {d : Nat} (hd : 8 ≤ d) {a0 a1 a2 : Int} {M : Mem} {x : Int × Mem} (h : D_T_count a0 a1 a2 M = some x) : Ct d Y_T_count [(2, a0), (0, a1), (0, a2)] M (some (1, x.1), x.2) 0 0 := by
  refine ct_of yk_T_count (Nat.le_of_ble_eq_true rfl) ?_
  rw [D_T_count] at h
  show Rn Y_T_count d 0 0 0 0 (some (1, x.1), x.2) 0 [(0, (2, a0)), (1, (0, a1)), (2, (0, a2))] [] M
  refine r_aload_n (pc := 0) 0 (n := 0) (by decide +kernel) rfl rfl ?_
  refine r_iload_n (pc := 1) 1 (n := 1) (by decide +kernel) rfl rfl ?_
  obtain ⟨_, q2c, h⟩ := bnd h
  obtain ⟨x2, q2, h⟩ := bnd h
  refine r_callV (pc := 2) (i := 98) (d2 := d - 1) (As := [(0, a1)]) (st := []) (st1 := [(0, a1), (2, a0)]) (by decide +kernel) yk_T_find (by decide) rfl ⟨ml_T_98, vk_T_find⟩ np_T_find rfl (by omega) q2c (c_T_find (d := d - 1) (by omega) q2) (Nat.le_of_ble_eq_true rfl) (Nat.le_of_ble_eq_true rfl) (Nat.le_of_ble_eq_true rfl) rfl ?_
  show Rn _ d _ _ 0 0 _ 5 [(0, (2, a0)), (1, (0, a1)), (2, (0, a2))] [(2, x2.1)] x2.2
  refine r_astore_n (pc := 5) (n := 3) (lv' := [(3, (2, x2.1)), (0, (2, a0)), (1, (0, a1)), (2, (0, a2))]) (by decide +kernel) rfl (Nat.le_of_ble_eq_true rfl) rfl ?_
  refine r_aload_n (pc := 6) 0 (n := 3) (by decide +kernel) rfl rfl ?_
  refine r_ifnull (pc := 7) (off := 22) (tgt := 29) (by decide +kernel) (by decide) (fun c7 => ?_) (fun c7 => ?_)
  · have h := ite_t c7 h
    refine r_ldc2 (pc := 29) (i := 200) (z := (-1)) (by decide +kernel) (mg 785 (by decide +kernel) (by decide +kernel)) ⟨by decide, by decide⟩ ?_
    obtain rfl := Option.some.inj h
    exact r_ret (pc := 32) (r := some (1, (-1))) (by decide +kernel) rfl trivial (Nat.le_of_ble_eq_true rfl) (Nat.le_of_ble_eq_true rfl)
  · have h := ite_f c7 h
    refine r_iload_n (pc := 10) 3 (n := 2) (by decide +kernel) rfl rfl ?_
    refine r_iconst (pc := 11) (z := 1) (by decide +kernel) ⟨by decide, by decide⟩ ?_
    refine r_icmp_lt (pc := 12) (off := 17) (tgt := 29) (by decide +kernel) (by decide) (fun c12 => ?_) (fun c12 => ?_)
    · have h := ite_t c12 h
      refine r_ldc2 (pc := 29) (i := 200) (z := (-1)) (by decide +kernel) (mg 785 (by decide +kernel) (by decide +kernel)) ⟨by decide, by decide⟩ ?_
      obtain rfl := Option.some.inj h
      exact r_ret (pc := 32) (r := some (1, (-1))) (by decide +kernel) rfl trivial (Nat.le_of_ble_eq_true rfl) (Nat.le_of_ble_eq_true rfl)
    · have h := ite_f c12 h
      refine r_iload_n (pc := 15) 3 (n := 2) (by decide +kernel) rfl rfl ?_
      refine r_bipush (pc := 16) (z := 40) (by decide +kernel) ⟨by decide, by decide⟩ ?_
      refine r_icmp_gt (pc := 18) (off := 11) (tgt := 29) (by decide +kernel) (by decide) (fun c18 => ?_) (fun c18 => ?_)
      · have h := ite_t c18 h
        refine r_ldc2 (pc := 29) (i := 200) (z := (-1)) (by decide +kernel) (mg 785 (by decide +kernel) (by decide +kernel)) ⟨by decide, by decide⟩ ?_
        obtain rfl := Option.some.inj h
        exact r_ret (pc := 32) (r := some (1, (-1))) (by decide +kernel) rfl trivial (Nat.le_of_ble_eq_true rfl) (Nat.le_of_ble_eq_true rfl)
      · have h := ite_f c18 h
        refine r_aload_n (pc := 21) 1 (n := 0) (by decide +kernel) rfl rfl ?_
        refine r_aload_n (pc := 22) 0 (n := 3) (by decide +kernel) rfl rfl ?_
        obtain ⟨_, q23c, h⟩ := bnd h
        obtain ⟨x23, q23, h⟩ := bnd h
        refine r_callV (pc := 23) (i := 122) (d2 := d - 1) (As := [(2, x2.1)]) (st := []) (st1 := [(2, x2.1), (2, a0)]) (by decide +kernel) yk_T_isLarge (by decide) rfl ⟨ml_T_122, vk_T_isLarge⟩ np_T_isLarge rfl (by omega) q23c (c_T_isLarge (d := d - 1) (by omega) q23) (Nat.le_of_ble_eq_true rfl) (Nat.le_of_ble_eq_true rfl) (Nat.le_of_ble_eq_true rfl) rfl ?_
        show Rn _ d _ _ 0 0 _ 26 [(3, (2, x2.1)), (0, (2, a0)), (1, (0, a1)), (2, (0, a2))] [(0, x23.1)] x23.2
        refine r_if_eq (pc := 26) (off := 7) (tgt := 33) (by decide +kernel) (by decide) (fun c26 => ?_) (fun c26 => ?_)
        · have h := ite_t c26 h
          refine r_aload_n (pc := 33) 1 (n := 0) (by decide +kernel) rfl rfl ?_
          obtain ⟨g34, q34, h⟩ := bnd h
          refine r_get (pc := 34) (by decide +kernel) fl_T_59.r (by decide) rfl q34 ?_
          refine r_aload_n (pc := 37) 0 (n := 3) (by decide +kernel) rfl rfl ?_
          obtain ⟨g38, q38, h⟩ := bnd h
          refine r_get (pc := 38) (by decide +kernel) fl_T_126 (by decide) rfl q38 ?_
          refine r_iload_n (pc := 41) 3 (n := 2) (by decide +kernel) rfl rfl ?_
          obtain ⟨_, q42c, h⟩ := bnd h
          obtain ⟨x42, q42, h⟩ := bnd h
          refine r_callV (pc := 42) (i := 202) (d2 := d - 1) (As := [(2, g38), (0, a2)]) (st := []) (st1 := [(0, a2), (2, g38), (2, g34)]) (by decide +kernel) yk_Census_treesOf (by decide) rfl ⟨ml_T_202, vk_Census_treesOf⟩ np_Census_treesOf rfl (by omega) q42c (c_Census_treesOf (d := d - 1) (by omega) q42) (Nat.le_of_ble_eq_true rfl) (Nat.le_of_ble_eq_true rfl) (Nat.le_of_ble_eq_true rfl) rfl ?_
          show Rn _ d _ _ 0 0 _ 45 [(3, (2, x2.1)), (0, (2, a0)), (1, (0, a1)), (2, (0, a2))] [(1, x42.1)] x42.2
          obtain rfl := Option.some.inj h
          exact r_ret (pc := 45) (r := some (1, x42.1)) (by decide +kernel) rfl trivial (Nat.le_of_ble_eq_true rfl) (Nat.le_of_ble_eq_true rfl)
        · have h := ite_f c26 h
          refine r_ldc2 (pc := 29) (i := 200) (z := (-1)) (by decide +kernel) (mg 785 (by decide +kernel) (by decide +kernel)) ⟨by decide, by decide⟩ ?_
          obtain rfl := Option.some.inj h
          exact r_ret (pc := 32) (r := some (1, (-1))) (by decide +kernel) rfl trivial (Nat.le_of_ble_eq_true rfl) (Nat.le_of_ble_eq_true rfl)

/-! TreeTongues$Census.weighFinals(LTreeTongues$Machine;)V -/
noncomputable def L_Census_weighFinals_2 (k : Mem → Option (Mem)) (v0 : Int) (v1 : Int) : Nat → Int → Mem → Option (Mem)
  | 0 => fun _ _ => none
  | n + 1 => fun v2 M => (gf M v1 1 14 10).bind fun g4 => if g4 ≤ v2 then (k  M) else ((gf M v0 0 4 2).bind fun g11 => (ck M v1 1 14).bind fun _ => (D_Machine_finalBit v1 v2 M).bind fun x17 => (wt x17.2 11 g11 v2 x17.1).bind fun m21 => L_Census_weighFinals_2 k v0 v1 n (wr (v2 + 1)) m21)
noncomputable def D_Census_weighFinals (a0 a1 : Int) (M : Mem) : Option (Mem) := L_Census_weighFinals_2 (fun  m2 => some m2) a0 a1 FU 0 M
theorem sL_Census_weighFinals_2 {d mc ms : Nat} (hd : 2 ≤ d) {r : Mem} {k : Mem → Option (Mem)} {v0 : Int} {v1 : Int} (hk : ∀ (M : Mem), k M = some r → Rn Y_Census_weighFinals d mc ms 0 0 (none, r) 28 [] [] M) : ∀ (n : Nat) (v2 : Int) (M : Mem), L_Census_weighFinals_2 k v0 v1 n v2 M = some r → Rn Y_Census_weighFinals d mc ms 0 0 (none, r) 2 [(0, (2, v0)), (1, (2, v1)), (2, (0, v2))] [] M := by
  intro n
  induction n with
  | zero => intro _ _ h; cases h
  | succ n ih =>
    intro v2 M h
    rw [L_Census_weighFinals_2] at h
    refine r_iload_n (pc := 2) 2 (n := 2) (by decide +kernel) rfl rfl ?_
    refine r_aload_n (pc := 3) 1 (n := 1) (by decide +kernel) rfl rfl ?_
    obtain ⟨g4, q4, h⟩ := bnd h
    refine r_get (pc := 4) (by decide +kernel) fl_Census_31.r (by decide) rfl q4 ?_
    refine r_icmp_ge (pc := 7) (off := 21) (tgt := 28) (by decide +kernel) (by decide) (fun c7 => ?_) (fun c7 => ?_)
    · have h := ite_t c7 h
      refine r_lv [] rfl ?_
      exact hk  M h
    · have h := ite_f c7 h
      refine r_aload_n (pc := 10) 0 (n := 0) (by decide +kernel) rfl rfl ?_
      obtain ⟨g11, q11, h⟩ := bnd h
      refine r_get (pc := 11) (by decide +kernel) fl_Census_9.r (by decide) rfl q11 ?_
      refine r_iload_n (pc := 14) 2 (n := 2) (by decide +kernel) rfl rfl ?_
      refine r_aload_n (pc := 15) 1 (n := 1) (by decide +kernel) rfl rfl ?_
      refine r_iload_n (pc := 16) 2 (n := 2) (by decide +kernel) rfl rfl ?_
      obtain ⟨_, q17c, h⟩ := bnd h
      obtain ⟨x17, q17, h⟩ := bnd h
      refine r_callV (pc := 17) (i := 37) (d2 := d - 1) (As := [(0, v2)]) (st := [(0, v2), (2, g11)]) (st1 := [(0, v2), (2, v1), (0, v2), (2, g11)]) (by decide +kernel) yk_Machine_finalBit (by decide) rfl ⟨ml_Census_37, vk_Machine_finalBit⟩ np_Machine_finalBit rfl (by omega) q17c (c_Machine_finalBit (d := d - 1) (by omega) q17) (Nat.le_of_ble_eq_true rfl) (Nat.le_of_ble_eq_true rfl) (Nat.le_of_ble_eq_true rfl) rfl ?_
      show Rn _ d _ _ 0 0 _ 20 [(0, (2, v0)), (1, (2, v1)), (2, (0, v2))] [(0, x17.1), (0, v2), (2, g11)] x17.2
      refine r_i2l (pc := 20) (by decide +kernel) ?_
      obtain ⟨m21, q21, h⟩ := bnd h
      refine r_last (pc := 21) (by decide +kernel) q21 ?_
      refine r_iinc (pc := 22) 2 (n := 1) (lv' := [(2, (0, wr (v2 + 1))), (0, (2, v0)), (1, (2, v1))]) (by decide +kernel) rfl (Nat.le_of_ble_eq_true rfl) rfl ?_
      refine r_goto (pc := 25) (off := (-23)) (tgt := 2) (by decide +kernel) (by decide) ?_
      refine r_lv [1, 2, 0] rfl ?_
      exact ih (wr (v2 + 1)) m21 h
theorem c_Census_weighFinals {d : Nat} (hd : 2 ≤ d) {a0 a1 : Int} {M : Mem} {x : Mem} (h : D_Census_weighFinals a0 a1 M = some x) : Ct d Y_Census_weighFinals [(2, a0), (2, a1)] M (none, x) 0 0 := by
  refine ct_of yk_Census_weighFinals (Nat.le_of_ble_eq_true rfl) ?_
  rw [D_Census_weighFinals] at h
  show Rn Y_Census_weighFinals d 0 0 0 0 (none, x) 0 [(0, (2, a0)), (1, (2, a1))] [] M
  refine r_iconst (pc := 0) (z := 0) (by decide +kernel) ⟨by decide, by decide⟩ ?_
  refine r_istore_n (pc := 1) (n := 2) (lv' := [(2, (0, 0)), (0, (2, a0)), (1, (2, a1))]) (by decide +kernel) rfl (Nat.le_of_ble_eq_true rfl) rfl ?_
  refine r_lv [1, 2, 0] rfl ?_
  refine sL_Census_weighFinals_2 (by omega) ?_ _ _  _ h
  intro m2 h
  obtain rfl := Option.some.inj h
  exact r_ret (pc := 28) (r := none) (by decide +kernel) rfl trivial (Nat.le_of_ble_eq_true rfl) (Nat.le_of_ble_eq_true rfl)

/-! TreeTongues$Census.leastFirst(II)I -/
noncomputable def D_Census_leastFirst (a0 a1 a2 : Int) (M : Mem) : Option (Int × Mem) := (gf M a0 0 4 0).bind fun g1 => (ck M g1 5 3).bind fun _ => (D_Signs_rankOf g1 a1 M).bind fun x5 => if x5.1 = 0 then (some (0, x5.2)) else (if x5.1 = 1 then (some (wr (a2 - 1), x5.2)) else (some (1, x5.2)))
theorem c_Census_leastFirst {d : Nat} (hd : 2 ≤ d) {a0 a1 a2 : Int} {M : Mem} {x : Int × Mem} (h : D_Census_leastFirst a0 a1 a2 M = some x) : Ct d Y_Census_leastFirst [(2, a0), (0, a1), (0, a2)] M (some (0, x.1), x.2) 0 0 := by
  refine ct_of yk_Census_leastFirst (Nat.le_of_ble_eq_true rfl) ?_
  rw [D_Census_leastFirst] at h
  show Rn Y_Census_leastFirst d 0 0 0 0 (some (0, x.1), x.2) 0 [(0, (2, a0)), (1, (0, a1)), (2, (0, a2))] [] M
  refine r_aload_n (pc := 0) 0 (n := 0) (by decide +kernel) rfl rfl ?_
  obtain ⟨g1, q1, h⟩ := bnd h
  refine r_get (pc := 1) (by decide +kernel) fl_Census_19.r (by decide) rfl q1 ?_
  refine r_iload_n (pc := 4) 1 (n := 1) (by decide +kernel) rfl rfl ?_
  obtain ⟨_, q5c, h⟩ := bnd h
  obtain ⟨x5, q5, h⟩ := bnd h
  refine r_callV (pc := 5) (i := 97) (d2 := d - 1) (As := [(0, a1)]) (st := []) (st1 := [(0, a1), (2, g1)]) (by decide +kernel) yk_Signs_rankOf (by decide) rfl ⟨ml_Census_97, vk_Signs_rankOf⟩ np_Signs_rankOf rfl (by omega) q5c (c_Signs_rankOf (d := d - 1) (by omega) q5) (Nat.le_of_ble_eq_true rfl) (Nat.le_of_ble_eq_true rfl) (Nat.le_of_ble_eq_true rfl) rfl ?_
  show Rn _ d _ _ 0 0 _ 8 [(0, (2, a0)), (1, (0, a1)), (2, (0, a2))] [(0, x5.1)] x5.2
  refine r_istore_n (pc := 8) (n := 3) (lv' := [(3, (0, x5.1)), (0, (2, a0)), (1, (0, a1)), (2, (0, a2))]) (by decide +kernel) rfl (Nat.le_of_ble_eq_true rfl) rfl ?_
  refine r_iload_n (pc := 9) 0 (n := 3) (by decide +kernel) rfl rfl ?_
  refine r_if_ne (pc := 10) (off := 7) (tgt := 17) (by decide +kernel) (by decide) (fun c10 => ?_) (fun c10 => ?_)
  · have h := ite_f c10 h
    refine r_iload_n (pc := 17) 0 (n := 3) (by decide +kernel) rfl rfl ?_
    refine r_iconst (pc := 18) (z := 1) (by decide +kernel) ⟨by decide, by decide⟩ ?_
    refine r_icmp_ne (pc := 19) (off := 9) (tgt := 28) (by decide +kernel) (by decide) (fun c19 => ?_) (fun c19 => ?_)
    · have h := ite_f c19 h
      refine r_iconst (pc := 28) (z := 1) (by decide +kernel) ⟨by decide, by decide⟩ ?_
      obtain rfl := Option.some.inj h
      exact r_ret (pc := 29) (r := some (0, 1)) (by decide +kernel) rfl trivial (Nat.le_of_ble_eq_true rfl) (Nat.le_of_ble_eq_true rfl)
    · have h := ite_t c19 h
      refine r_iload_n (pc := 22) 3 (n := 2) (by decide +kernel) rfl rfl ?_
      refine r_iconst (pc := 23) (z := 1) (by decide +kernel) ⟨by decide, by decide⟩ ?_
      refine r_isub (pc := 24) (by decide +kernel) ?_
      refine r_goto (pc := 25) (off := 4) (tgt := 29) (by decide +kernel) (by decide) ?_
      obtain rfl := Option.some.inj h
      exact r_ret (pc := 29) (r := some (0, wr (a2 - 1))) (by decide +kernel) rfl trivial (Nat.le_of_ble_eq_true rfl) (Nat.le_of_ble_eq_true rfl)
  · have h := ite_t c10 h
    refine r_iconst (pc := 13) (z := 0) (by decide +kernel) ⟨by decide, by decide⟩ ?_
    refine r_goto (pc := 14) (off := 15) (tgt := 29) (by decide +kernel) (by decide) ?_
    obtain rfl := Option.some.inj h
    exact r_ret (pc := 29) (r := some (0, 0)) (by decide +kernel) rfl trivial (Nat.le_of_ble_eq_true rfl) (Nat.le_of_ble_eq_true rfl)

/-! TreeTongues$Census.mostFirst(II)I -/
noncomputable def D_Census_mostFirst (a0 a1 a2 : Int) (M : Mem) : Option (Int × Mem) := (gf M a0 0 4 0).bind fun g1 => (ck M g1 5 3).bind fun _ => (D_Signs_rankOf g1 a1 M).bind fun x5 => if x5.1 = 2 then (some (wr (a2 - 2), x5.2)) else ((ck x5.2 a0 0 4).bind fun _ => (D_Census_leastFirst a0 a1 a2 x5.2).bind fun x21 => some (x21.1, x21.2))
theorem c_Census_mostFirst {d : Nat} (hd : 3 ≤ d) {a0 a1 a2 : Int} {M : Mem} {x : Int × Mem} (h : D_Census_mostFirst a0 a1 a2 M = some x) : Ct d Y_Census_mostFirst [(2, a0), (0, a1), (0, a2)] M (some (0, x.1), x.2) 0 0 := by
  refine ct_of yk_Census_mostFirst (Nat.le_of_ble_eq_true rfl) ?_
  rw [D_Census_mostFirst] at h
  show Rn Y_Census_mostFirst d 0 0 0 0 (some (0, x.1), x.2) 0 [(0, (2, a0)), (1, (0, a1)), (2, (0, a2))] [] M
  refine r_aload_n (pc := 0) 0 (n := 0) (by decide +kernel) rfl rfl ?_
  obtain ⟨g1, q1, h⟩ := bnd h
  refine r_get (pc := 1) (by decide +kernel) fl_Census_19.r (by decide) rfl q1 ?_
  refine r_iload_n (pc := 4) 1 (n := 1) (by decide +kernel) rfl rfl ?_
  obtain ⟨_, q5c, h⟩ := bnd h
  obtain ⟨x5, q5, h⟩ := bnd h
  refine r_callV (pc := 5) (i := 97) (d2 := d - 1) (As := [(0, a1)]) (st := []) (st1 := [(0, a1), (2, g1)]) (by decide +kernel) yk_Signs_rankOf (by decide) rfl ⟨ml_Census_97, vk_Signs_rankOf⟩ np_Signs_rankOf rfl (by omega) q5c (c_Signs_rankOf (d := d - 1) (by omega) q5) (Nat.le_of_ble_eq_true rfl) (Nat.le_of_ble_eq_true rfl) (Nat.le_of_ble_eq_true rfl) rfl ?_
  show Rn _ d _ _ 0 0 _ 8 [(0, (2, a0)), (1, (0, a1)), (2, (0, a2))] [(0, x5.1)] x5.2
  refine r_iconst (pc := 8) (z := 2) (by decide +kernel) ⟨by decide, by decide⟩ ?_
  refine r_icmp_ne (pc := 9) (off := 9) (tgt := 18) (by decide +kernel) (by decide) (fun c9 => ?_) (fun c9 => ?_)
  · have h := ite_f c9 h
    refine r_aload_n (pc := 18) 0 (n := 0) (by decide +kernel) rfl rfl ?_
    refine r_iload_n (pc := 19) 1 (n := 1) (by decide +kernel) rfl rfl ?_
    refine r_iload_n (pc := 20) 2 (n := 2) (by decide +kernel) rfl rfl ?_
    obtain ⟨_, q21c, h⟩ := bnd h
    obtain ⟨x21, q21, h⟩ := bnd h
    refine r_callV (pc := 21) (i := 115) (d2 := d - 1) (As := [(0, a1), (0, a2)]) (st := []) (st1 := [(0, a2), (0, a1), (2, a0)]) (by decide +kernel) yk_Census_leastFirst (by decide) rfl ⟨ml_Census_115, vk_Census_leastFirst⟩ np_Census_leastFirst rfl (by omega) q21c (c_Census_leastFirst (d := d - 1) (by omega) q21) (Nat.le_of_ble_eq_true rfl) (Nat.le_of_ble_eq_true rfl) (Nat.le_of_ble_eq_true rfl) rfl ?_
    show Rn _ d _ _ 0 0 _ 24 [(0, (2, a0)), (1, (0, a1)), (2, (0, a2))] [(0, x21.1)] x21.2
    obtain rfl := Option.some.inj h
    exact r_ret (pc := 24) (r := some (0, x21.1)) (by decide +kernel) rfl trivial (Nat.le_of_ble_eq_true rfl) (Nat.le_of_ble_eq_true rfl)
  · have h := ite_t c9 h
    refine r_iload_n (pc := 12) 2 (n := 2) (by decide +kernel) rfl rfl ?_
    refine r_iconst (pc := 13) (z := 2) (by decide +kernel) ⟨by decide, by decide⟩ ?_
    refine r_isub (pc := 14) (by decide +kernel) ?_
    refine r_goto (pc := 15) (off := 9) (tgt := 24) (by decide +kernel) (by decide) ?_
    obtain rfl := Option.some.inj h
    exact r_ret (pc := 24) (r := some (0, wr (a2 - 2))) (by decide +kernel) rfl trivial (Nat.le_of_ble_eq_true rfl) (Nat.le_of_ble_eq_true rfl)

/-! TreeTongues$Census.seconds(LTreeTongues$Machine;IIII)J -/
noncomputable def L_Census_seconds_6 (k : Int → Mem → Option (Int × Mem)) (v0 : Int) (v1 : Int) (v2 : Int) (v3 : Int) (v4 : Int) (v5 : Int) : Nat → Int → Int → Mem → Option (Int × Mem)
  | 0 => fun _ _ _ => none
  | n + 1 => fun v6 v8 M => (gf M v1 1 14 10).bind fun g9 => if g9 ≤ v8 then (k v6 M) else ((gf M v1 1 14 6).bind fun g18 => (rd M 11 g18 (wr ((wr (v4 * 6)) + v8))).bind fun e29 => (gf M v0 0 4 2).bind fun g31 => (ck M v1 1 14).bind fun _ => (D_Machine_step v1 v2 v3 v8 M).bind fun x41 => (rd x41.2 11 g31 (wr (v5 + x41.1))).bind fun e45 => (D_Census_times e29 e45 x41.2).bind fun x46 => (D_Census_plus v6 x46.1 x46.2).bind fun x49 => L_Census_seconds_6 k v0 v1 v2 v3 v4 v5 n x49.1 (wr (v8 + 1)) x49.2)
noncomputable def D_Census_seconds (a0 a1 a2 a3 a4 a5 : Int) (M : Mem) : Option (Int × Mem) := L_Census_seconds_6 (fun w6_6 m6 => some (w6_6, m6)) a0 a1 a2 a3 a4 a5 FU 0 0 M
theorem sL_Census_seconds_6 {d mc ms : Nat} (hd : 4 ≤ d) {r : Int × Mem} {k : Int → Mem → Option (Int × Mem)} {v0 : Int} {v1 : Int} {v2 : Int} {v3 : Int} {v4 : Int} {v5 : Int} (hk : ∀ (v6 : Int) (M : Mem), k v6 M = some r → Rn Y_Census_seconds d mc ms 0 0 (some (1, r.1), r.2) 60 [(6, (1, v6))] [] M) : ∀ (n : Nat) (v6 : Int) (v8 : Int) (M : Mem), L_Census_seconds_6 k v0 v1 v2 v3 v4 v5 n v6 v8 M = some r → Rn Y_Census_seconds d mc ms 0 0 (some (1, r.1), r.2) 6 [(0, (2, v0)), (1, (2, v1)), (2, (0, v2)), (3, (0, v3)), (4, (0, v4)), (5, (0, v5)), (6, (1, v6)), (8, (0, v8))] [] M := by
  intro n
  induction n with
  | zero => intro _ _ _ h; cases h
  | succ n ih =>
    intro v6 v8 M h
    rw [L_Census_seconds_6] at h
    refine r_iload (pc := 6) 7 (by decide +kernel) rfl ?_
    refine r_aload_n (pc := 8) 1 (n := 1) (by decide +kernel) rfl rfl ?_
    obtain ⟨g9, q9, h⟩ := bnd h
    refine r_get (pc := 9) (by decide +kernel) fl_Census_31.r (by decide) rfl q9 ?_
    refine r_icmp_ge (pc := 12) (off := 48) (tgt := 60) (by decide +kernel) (by decide) (fun c12 => ?_) (fun c12 => ?_)
    · have h := ite_t c12 h
      refine r_lv [6] rfl ?_
      exact hk v6 M h
    · have h := ite_f c12 h
      refine r_lload (pc := 15) 6 (by decide +kernel) rfl ?_
      refine r_aload_n (pc := 17) 1 (n := 1) (by decide +kernel) rfl rfl ?_
      obtain ⟨g18, q18, h⟩ := bnd h
      refine r_get (pc := 18) (by decide +kernel) fl_Census_41 (by decide) rfl q18 ?_
      refine r_iload (pc := 21) 4 (by decide +kernel) rfl ?_
      refine r_bipush (pc := 23) (z := 6) (by decide +kernel) ⟨by decide, by decide⟩ ?_
      refine r_imul (pc := 25) (by decide +kernel) ?_
      refine r_iload (pc := 26) 7 (by decide +kernel) rfl ?_
      refine r_iadd (pc := 28) (by decide +kernel) ?_
      obtain ⟨e29, q29, h⟩ := bnd h
      refine r_lald (pc := 29) (by decide +kernel) q29 ?_
      refine r_aload_n (pc := 30) 0 (n := 0) (by decide +kernel) rfl rfl ?_
      obtain ⟨g31, q31, h⟩ := bnd h
      refine r_get (pc := 31) (by decide +kernel) fl_Census_9.r (by decide) rfl q31 ?_
      refine r_iload (pc := 34) 5 (by decide +kernel) rfl ?_
      refine r_aload_n (pc := 36) 1 (n := 1) (by decide +kernel) rfl rfl ?_
      refine r_iload_n (pc := 37) 2 (n := 2) (by decide +kernel) rfl rfl ?_
      refine r_iload_n (pc := 38) 3 (n := 3) (by decide +kernel) rfl rfl ?_
      refine r_iload (pc := 39) 7 (by decide +kernel) rfl ?_
      obtain ⟨_, q41c, h⟩ := bnd h
      obtain ⟨x41, q41, h⟩ := bnd h
      refine r_callV (pc := 41) (i := 100) (d2 := d - 1) (As := [(0, v2), (0, v3), (0, v8)]) (st := [(0, v5), (2, g31), (1, e29), (1, v6)]) (st1 := [(0, v8), (0, v3), (0, v2), (2, v1), (0, v5), (2, g31), (1, e29), (1, v6)]) (by decide +kernel) yk_Machine_step (by decide) rfl ⟨ml_Census_100, vk_Machine_step⟩ np_Machine_step rfl (by omega) q41c (c_Machine_step (d := d - 1) (by omega) q41) (Nat.le_of_ble_eq_true rfl) (Nat.le_of_ble_eq_true rfl) (Nat.le_of_ble_eq_true rfl) rfl ?_
      show Rn _ d _ _ 0 0 _ 44 [(0, (2, v0)), (1, (2, v1)), (2, (0, v2)), (3, (0, v3)), (4, (0, v4)), (5, (0, v5)), (6, (1, v6)), (8, (0, v8))] [(0, x41.1), (0, v5), (2, g31), (1, e29), (1, v6)] x41.2
      refine r_iadd (pc := 44) (by decide +kernel) ?_
      obtain ⟨e45, q45, h⟩ := bnd h
      refine r_lald (pc := 45) (by decide +kernel) q45 ?_
      obtain ⟨x46, q46, h⟩ := bnd h
      refine r_callS (pc := 46) (i := 112) (d2 := d - 1) (As := [(1, e29), (1, e45)]) (st := [(1, v6)]) (st1 := [(1, e45), (1, e29), (1, v6)]) (by decide +kernel) yk_Census_times ⟨ml_Census_112, sk_Census_times⟩ np_Census_times rfl (by omega) (c_Census_times (d := d - 1) (by omega) q46) (Nat.le_of_ble_eq_true rfl) (Nat.le_of_ble_eq_true rfl) (Nat.le_of_ble_eq_true rfl) rfl ?_
      show Rn _ d _ _ 0 0 _ 49 [(0, (2, v0)), (1, (2, v1)), (2, (0, v2)), (3, (0, v3)), (4, (0, v4)), (5, (0, v5)), (6, (1, v6)), (8, (0, v8))] [(1, x46.1), (1, v6)] x46.2
      obtain ⟨x49, q49, h⟩ := bnd h
      refine r_callS (pc := 49) (i := 44) (d2 := d - 1) (As := [(1, v6), (1, x46.1)]) (st := []) (st1 := [(1, x46.1), (1, v6)]) (by decide +kernel) yk_Census_plus ⟨ml_Census_44, sk_Census_plus⟩ np_Census_plus rfl (by omega) (c_Census_plus (d := d - 1) (by omega) q49) (Nat.le_of_ble_eq_true rfl) (Nat.le_of_ble_eq_true rfl) (Nat.le_of_ble_eq_true rfl) rfl ?_
      show Rn _ d _ _ 0 0 _ 52 [(0, (2, v0)), (1, (2, v1)), (2, (0, v2)), (3, (0, v3)), (4, (0, v4)), (5, (0, v5)), (6, (1, v6)), (8, (0, v8))] [(1, x49.1)] x49.2
      refine r_lstore (pc := 52) (lv' := [(6, (1, x49.1)), (0, (2, v0)), (1, (2, v1)), (2, (0, v2)), (3, (0, v3)), (4, (0, v4)), (5, (0, v5)), (8, (0, v8))]) (by decide +kernel) (Nat.le_of_ble_eq_true rfl) rfl ?_
      refine r_iinc (pc := 54) 7 (n := 1) (lv' := [(8, (0, wr (v8 + 1))), (6, (1, x49.1)), (0, (2, v0)), (1, (2, v1)), (2, (0, v2)), (3, (0, v3)), (4, (0, v4)), (5, (0, v5))]) (by decide +kernel) rfl (Nat.le_of_ble_eq_true rfl) rfl ?_
      refine r_goto (pc := 57) (off := (-51)) (tgt := 6) (by decide +kernel) (by decide) ?_
      refine r_lv [2, 3, 4, 5, 6, 7, 1, 0] rfl ?_
      exact ih x49.1 (wr (v8 + 1)) x49.2 h
theorem c_Census_seconds {d : Nat} (hd : 4 ≤ d) {a0 a1 a2 a3 a4 a5 : Int} {M : Mem} {x : Int × Mem} (h : D_Census_seconds a0 a1 a2 a3 a4 a5 M = some x) : Ct d Y_Census_seconds [(2, a0), (2, a1), (0, a2), (0, a3), (0, a4), (0, a5)] M (some (1, x.1), x.2) 0 0 := by
  refine ct_of yk_Census_seconds (Nat.le_of_ble_eq_true rfl) ?_
  rw [D_Census_seconds] at h
  show Rn Y_Census_seconds d 0 0 0 0 (some (1, x.1), x.2) 0 [(0, (2, a0)), (1, (2, a1)), (2, (0, a2)), (3, (0, a3)), (4, (0, a4)), (5, (0, a5))] [] M
  refine r_lconst (pc := 0) (n := 0) (z := 0) (by decide +kernel) rfl ?_
  refine r_lstore (pc := 1) (lv' := [(6, (1, 0)), (0, (2, a0)), (1, (2, a1)), (2, (0, a2)), (3, (0, a3)), (4, (0, a4)), (5, (0, a5))]) (by decide +kernel) (Nat.le_of_ble_eq_true rfl) rfl ?_
  refine r_iconst (pc := 3) (z := 0) (by decide +kernel) ⟨by decide, by decide⟩ ?_
  refine r_istore (pc := 4) (lv' := [(8, (0, 0)), (6, (1, 0)), (0, (2, a0)), (1, (2, a1)), (2, (0, a2)), (3, (0, a3)), (4, (0, a4)), (5, (0, a5))]) (by decide +kernel) (Nat.le_of_ble_eq_true rfl) rfl ?_
  refine r_lv [2, 3, 4, 5, 6, 7, 1, 0] rfl ?_
  refine sL_Census_seconds_6 (by omega) ?_ _ _ _  _ h
  intro w6_6 m6 h
  refine r_lload (pc := 60) 0 (by decide +kernel) rfl ?_
  obtain rfl := Option.some.inj h
  exact r_ret (pc := 62) (r := some (1, w6_6)) (by decide +kernel) rfl trivial (Nat.le_of_ble_eq_true rfl) (Nat.le_of_ble_eq_true rfl)

/-! TreeTongues$Census.share(LTreeTongues$Machine;IIII)J -/
noncomputable def L_Census_share_56 (k : Int → Mem → Option (Int × Mem)) (v0 : Int) (v1 : Int) (v2 : Int) (v3 : Int) (v4 : Int) (v6 : Int) (v7 : Int) : Nat → Int → Int → Mem → Option (Int × Mem)
  | 0 => fun _ _ _ => none
  | n + 1 => fun v8 v10 M => (gf M v1 1 14 10).bind fun g59 => if g59 ≤ v10 then (k v8 M) else ((gf M v0 0 4 2).bind fun g66 => (gf M v0 0 4 0).bind fun g75 => (ck M g75 5 3).bind fun _ => (D_Signs_rankOf g75 v2 M).bind fun x79 => (if x79.1 = 1 then ((gf x79.2 v0 0 4 2).bind fun g87 => (ck x79.2 v1 1 14).bind fun _ => (D_Machine_step v1 v2 v10 0 x79.2).bind fun x97 => (rd x97.2 11 g87 (wr (v6 + x97.1))).bind fun e101 => some (e101, x97.2)) else ((ck x79.2 v0 0 4).bind fun _ => (D_Census_seconds v0 v1 v2 v10 (wr ((wr (v3 - 1)) - v4)) v6 x79.2).bind fun x118 => some (x118.1, x118.2))).bind fun (t83 : Int × Mem) => (wt t83.2 11 g66 (wr (v7 + v10)) t83.1).bind fun m121 => (gf m121 v1 1 14 6).bind fun g125 => (rd m121 11 g125 (wr ((wr (v4 * 6)) + v10))).bind fun e136 => (gf m121 v0 0 4 2).bind fun g138 => (rd m121 11 g138 (wr (v7 + v10))).bind fun e146 => (D_Census_times e136 e146 m121).bind fun x147 => (D_Census_plus v8 x147.1 x147.2).bind fun x150 => L_Census_share_56 k v0 v1 v2 v3 v4 v6 v7 n x150.1 (wr (v10 + 1)) x150.2)
noncomputable def D_Census_share (a0 a1 a2 a3 a4 a5 : Int) (M : Mem) : Option (Int × Mem) := lt (wr (a5 * 6)) fun u6_5 => (gf M a0 0 4 0).bind fun g8 => (ck M g8 5 3).bind fun _ => (D_Signs_rankOf g8 a2 M).bind fun x12 => if x12.1 = 0 then (if a3 = 1 then ((gf x12.2 a0 0 4 2).bind fun g24 => (ck x12.2 a1 1 14).bind fun _ => (D_Machine_step a1 a2 0 0 x12.2).bind fun x33 => (rd x33.2 11 g24 (wr (u6_5 + x33.1))).bind fun e37 => some (e37, x33.2)) else (some (0, x12.2))) else (lt (wr (u6_5 + 6)) fun u7_48 => L_Census_share_56 (fun w8_56 m56 => some (w8_56, m56)) a0 a1 a2 a3 a4 u6_5 u7_48 FU 0 0 x12.2)
theorem sL_Census_share_56 {d mc ms : Nat} (hd : 5 ≤ d) {r : Int × Mem} {k : Int → Mem → Option (Int × Mem)} {v0 : Int} {v1 : Int} {v2 : Int} {v3 : Int} {v4 : Int} {v6 : Int} {v7 : Int} (hk : ∀ (v8 : Int) (M : Mem), k v8 M = some r → Rn Y_Census_share d mc ms 0 0 (some (1, r.1), r.2) 161 [(8, (1, v8))] [] M) : ∀ (n : Nat) (v8 : Int) (v10 : Int) (M : Mem), L_Census_share_56 k v0 v1 v2 v3 v4 v6 v7 n v8 v10 M = some r → Rn Y_Census_share d mc ms 0 0 (some (1, r.1), r.2) 56 [(0, (2, v0)), (1, (2, v1)), (2, (0, v2)), (3, (0, v3)), (4, (0, v4)), (6, (0, v6)), (7, (0, v7)), (8, (1, v8)), (10, (0, v10))] [] M := by
  intro n
  induction n with
  | zero => intro _ _ _ h; cases h
  | succ n ih =>
    intro v8 v10 M h
    rw [L_Census_share_56] at h
    refine r_iload (pc := 56) 8 (by decide +kernel) rfl ?_
    refine r_aload_n (pc := 58) 1 (n := 1) (by decide +kernel) rfl rfl ?_
    obtain ⟨g59, q59, h⟩ := bnd h
    refine r_get (pc := 59) (by decide +kernel) fl_Census_31.r (by decide) rfl q59 ?_
    refine r_icmp_ge (pc := 62) (off := 99) (tgt := 161) (by decide +kernel) (by decide) (fun c62 => ?_) (fun c62 => ?_)
    · have h := ite_t c62 h
      refine r_lv [7] rfl ?_
      exact hk v8 M h
    · have h := ite_f c62 h
      refine r_aload_n (pc := 65) 0 (n := 0) (by decide +kernel) rfl rfl ?_
      obtain ⟨g66, q66, h⟩ := bnd h
      refine r_get (pc := 66) (by decide +kernel) fl_Census_9.r (by decide) rfl q66 ?_
      refine r_iload (pc := 69) 6 (by decide +kernel) rfl ?_
      refine r_iload (pc := 71) 8 (by decide +kernel) rfl ?_
      refine r_iadd (pc := 73) (by decide +kernel) ?_
      refine r_aload_n (pc := 74) 0 (n := 0) (by decide +kernel) rfl rfl ?_
      obtain ⟨g75, q75, h⟩ := bnd h
      refine r_get (pc := 75) (by decide +kernel) fl_Census_19.r (by decide) rfl q75 ?_
      refine r_iload_n (pc := 78) 2 (n := 2) (by decide +kernel) rfl rfl ?_
      obtain ⟨_, q79c, h⟩ := bnd h
      obtain ⟨x79, q79, h⟩ := bnd h
      refine r_callV (pc := 79) (i := 97) (d2 := d - 1) (As := [(0, v2)]) (st := [(0, wr (v7 + v10)), (2, g66)]) (st1 := [(0, v2), (2, g75), (0, wr (v7 + v10)), (2, g66)]) (by decide +kernel) yk_Signs_rankOf (by decide) rfl ⟨ml_Census_97, vk_Signs_rankOf⟩ np_Signs_rankOf rfl (by omega) q79c (c_Signs_rankOf (d := d - 1) (by omega) q79) (Nat.le_of_ble_eq_true rfl) (Nat.le_of_ble_eq_true rfl) (Nat.le_of_ble_eq_true rfl) rfl ?_
      show Rn _ d _ _ 0 0 _ 82 [(0, (2, v0)), (1, (2, v1)), (2, (0, v2)), (3, (0, v3)), (4, (0, v4)), (6, (0, v6)), (7, (0, v7)), (8, (1, v8)), (10, (0, v10))] [(0, x79.1), (0, wr (v7 + v10)), (2, g66)] x79.2
      refine r_iconst (pc := 82) (z := 1) (by decide +kernel) ⟨by decide, by decide⟩ ?_
      obtain ⟨t83, ht83, h⟩ := bnd h
      have E83_0 : Rn Y_Census_share d mc ms 0 0 (some (1, r.1), r.2) 121 [(0, (2, v0)), (1, (2, v1)), (2, (0, v2)), (3, (0, v3)), (4, (0, v4)), (6, (0, v6)), (7, (0, v7)), (8, (1, v8)), (10, (0, v10))] [(1, t83.1), (0, wr (v7 + v10)), (2, g66)] t83.2 := by
        obtain ⟨m121, q121, h⟩ := bnd h
        refine r_last (pc := 121) (by decide +kernel) q121 ?_
        refine r_lload (pc := 122) 7 (by decide +kernel) rfl ?_
        refine r_aload_n (pc := 124) 1 (n := 1) (by decide +kernel) rfl rfl ?_
        obtain ⟨g125, q125, h⟩ := bnd h
        refine r_get (pc := 125) (by decide +kernel) fl_Census_41 (by decide) rfl q125 ?_
        refine r_iload (pc := 128) 4 (by decide +kernel) rfl ?_
        refine r_bipush (pc := 130) (z := 6) (by decide +kernel) ⟨by decide, by decide⟩ ?_
        refine r_imul (pc := 132) (by decide +kernel) ?_
        refine r_iload (pc := 133) 8 (by decide +kernel) rfl ?_
        refine r_iadd (pc := 135) (by decide +kernel) ?_
        obtain ⟨e136, q136, h⟩ := bnd h
        refine r_lald (pc := 136) (by decide +kernel) q136 ?_
        refine r_aload_n (pc := 137) 0 (n := 0) (by decide +kernel) rfl rfl ?_
        obtain ⟨g138, q138, h⟩ := bnd h
        refine r_get (pc := 138) (by decide +kernel) fl_Census_9.r (by decide) rfl q138 ?_
        refine r_iload (pc := 141) 6 (by decide +kernel) rfl ?_
        refine r_iload (pc := 143) 8 (by decide +kernel) rfl ?_
        refine r_iadd (pc := 145) (by decide +kernel) ?_
        obtain ⟨e146, q146, h⟩ := bnd h
        refine r_lald (pc := 146) (by decide +kernel) q146 ?_
        obtain ⟨x147, q147, h⟩ := bnd h
        refine r_callS (pc := 147) (i := 112) (d2 := d - 1) (As := [(1, e136), (1, e146)]) (st := [(1, v8)]) (st1 := [(1, e146), (1, e136), (1, v8)]) (by decide +kernel) yk_Census_times ⟨ml_Census_112, sk_Census_times⟩ np_Census_times rfl (by omega) (c_Census_times (d := d - 1) (by omega) q147) (Nat.le_of_ble_eq_true rfl) (Nat.le_of_ble_eq_true rfl) (Nat.le_of_ble_eq_true rfl) rfl ?_
        show Rn _ d _ _ 0 0 _ 150 [(0, (2, v0)), (1, (2, v1)), (2, (0, v2)), (3, (0, v3)), (4, (0, v4)), (6, (0, v6)), (7, (0, v7)), (8, (1, v8)), (10, (0, v10))] [(1, x147.1), (1, v8)] x147.2
        obtain ⟨x150, q150, h⟩ := bnd h
        refine r_callS (pc := 150) (i := 44) (d2 := d - 1) (As := [(1, v8), (1, x147.1)]) (st := []) (st1 := [(1, x147.1), (1, v8)]) (by decide +kernel) yk_Census_plus ⟨ml_Census_44, sk_Census_plus⟩ np_Census_plus rfl (by omega) (c_Census_plus (d := d - 1) (by omega) q150) (Nat.le_of_ble_eq_true rfl) (Nat.le_of_ble_eq_true rfl) (Nat.le_of_ble_eq_true rfl) rfl ?_
        show Rn _ d _ _ 0 0 _ 153 [(0, (2, v0)), (1, (2, v1)), (2, (0, v2)), (3, (0, v3)), (4, (0, v4)), (6, (0, v6)), (7, (0, v7)), (8, (1, v8)), (10, (0, v10))] [(1, x150.1)] x150.2
        refine r_lstore (pc := 153) (lv' := [(8, (1, x150.1)), (0, (2, v0)), (1, (2, v1)), (2, (0, v2)), (3, (0, v3)), (4, (0, v4)), (6, (0, v6)), (7, (0, v7)), (10, (0, v10))]) (by decide +kernel) (Nat.le_of_ble_eq_true rfl) rfl ?_
        refine r_iinc (pc := 155) 8 (n := 1) (lv' := [(10, (0, wr (v10 + 1))), (8, (1, x150.1)), (0, (2, v0)), (1, (2, v1)), (2, (0, v2)), (3, (0, v3)), (4, (0, v4)), (6, (0, v6)), (7, (0, v7))]) (by decide +kernel) rfl (Nat.le_of_ble_eq_true rfl) rfl ?_
        refine r_goto (pc := 158) (off := (-102)) (tgt := 56) (by decide +kernel) (by decide) ?_
        refine r_lv [2, 3, 4, 5, 6, 7, 8, 1, 0] rfl ?_
        exact ih x150.1 (wr (v10 + 1)) x150.2 h
      refine r_icmp_ne (pc := 83) (off := 22) (tgt := 105) (by decide +kernel) (by decide) (fun c83 => ?_) (fun c83 => ?_)
      · have ht83 := ite_f c83 ht83
        refine r_aload_n (pc := 105) 0 (n := 0) (by decide +kernel) rfl rfl ?_
        refine r_aload_n (pc := 106) 1 (n := 1) (by decide +kernel) rfl rfl ?_
        refine r_iload_n (pc := 107) 2 (n := 2) (by decide +kernel) rfl rfl ?_
        refine r_iload (pc := 108) 8 (by decide +kernel) rfl ?_
        refine r_iload_n (pc := 110) 3 (n := 3) (by decide +kernel) rfl rfl ?_
        refine r_iconst (pc := 111) (z := 1) (by decide +kernel) ⟨by decide, by decide⟩ ?_
        refine r_isub (pc := 112) (by decide +kernel) ?_
        refine r_iload (pc := 113) 4 (by decide +kernel) rfl ?_
        refine r_isub (pc := 115) (by decide +kernel) ?_
        refine r_iload (pc := 116) 5 (by decide +kernel) rfl ?_
        obtain ⟨_, q118c, ht83⟩ := bnd ht83
        obtain ⟨x118, q118, ht83⟩ := bnd ht83
        refine r_callV (pc := 118) (i := 119) (d2 := d - 1) (As := [(2, v1), (0, v2), (0, v10), (0, wr ((wr (v3 - 1)) - v4)), (0, v6)]) (st := [(0, wr (v7 + v10)), (2, g66)]) (st1 := [(0, v6), (0, wr ((wr (v3 - 1)) - v4)), (0, v10), (0, v2), (2, v1), (2, v0), (0, wr (v7 + v10)), (2, g66)]) (by decide +kernel) yk_Census_seconds (by decide) rfl ⟨ml_Census_119, vk_Census_seconds⟩ np_Census_seconds rfl (by omega) q118c (c_Census_seconds (d := d - 1) (by omega) q118) (Nat.le_of_ble_eq_true rfl) (Nat.le_of_ble_eq_true rfl) (Nat.le_of_ble_eq_true rfl) rfl ?_
        show Rn _ d _ _ 0 0 _ 121 [(0, (2, v0)), (1, (2, v1)), (2, (0, v2)), (3, (0, v3)), (4, (0, v4)), (6, (0, v6)), (7, (0, v7)), (8, (1, v8)), (10, (0, v10))] [(1, x118.1), (0, wr (v7 + v10)), (2, g66)] x118.2
        obtain rfl := Option.some.inj ht83
        exact E83_0
      · have ht83 := ite_t c83 ht83
        refine r_aload_n (pc := 86) 0 (n := 0) (by decide +kernel) rfl rfl ?_
        obtain ⟨g87, q87, ht83⟩ := bnd ht83
        refine r_get (pc := 87) (by decide +kernel) fl_Census_9.r (by decide) rfl q87 ?_
        refine r_iload (pc := 90) 5 (by decide +kernel) rfl ?_
        refine r_aload_n (pc := 92) 1 (n := 1) (by decide +kernel) rfl rfl ?_
        refine r_iload_n (pc := 93) 2 (n := 2) (by decide +kernel) rfl rfl ?_
        refine r_iload (pc := 94) 8 (by decide +kernel) rfl ?_
        refine r_iconst (pc := 96) (z := 0) (by decide +kernel) ⟨by decide, by decide⟩ ?_
        obtain ⟨_, q97c, ht83⟩ := bnd ht83
        obtain ⟨x97, q97, ht83⟩ := bnd ht83
        refine r_callV (pc := 97) (i := 100) (d2 := d - 1) (As := [(0, v2), (0, v10), (0, 0)]) (st := [(0, v6), (2, g87), (0, wr (v7 + v10)), (2, g66)]) (st1 := [(0, 0), (0, v10), (0, v2), (2, v1), (0, v6), (2, g87), (0, wr (v7 + v10)), (2, g66)]) (by decide +kernel) yk_Machine_step (by decide) rfl ⟨ml_Census_100, vk_Machine_step⟩ np_Machine_step rfl (by omega) q97c (c_Machine_step (d := d - 1) (by omega) q97) (Nat.le_of_ble_eq_true rfl) (Nat.le_of_ble_eq_true rfl) (Nat.le_of_ble_eq_true rfl) rfl ?_
        show Rn _ d _ _ 0 0 _ 100 [(0, (2, v0)), (1, (2, v1)), (2, (0, v2)), (3, (0, v3)), (4, (0, v4)), (6, (0, v6)), (7, (0, v7)), (8, (1, v8)), (10, (0, v10))] [(0, x97.1), (0, v6), (2, g87), (0, wr (v7 + v10)), (2, g66)] x97.2
        refine r_iadd (pc := 100) (by decide +kernel) ?_
        obtain ⟨e101, q101, ht83⟩ := bnd ht83
        refine r_lald (pc := 101) (by decide +kernel) q101 ?_
        refine r_goto (pc := 102) (off := 19) (tgt := 121) (by decide +kernel) (by decide) ?_
        obtain rfl := Option.some.inj ht83
        exact E83_0
theorem c_Census_share {d : Nat} (hd : 5 ≤ d) {a0 a1 a2 a3 a4 a5 : Int} {M : Mem} {x : Int × Mem} (h : D_Census_share a0 a1 a2 a3 a4 a5 M = some x) : Ct d Y_Census_share [(2, a0), (2, a1), (0, a2), (0, a3), (0, a4), (0, a5)] M (some (1, x.1), x.2) 0 0 := by
  refine ct_of yk_Census_share (Nat.le_of_ble_eq_true rfl) ?_
  rw [D_Census_share] at h
  show Rn Y_Census_share d 0 0 0 0 (some (1, x.1), x.2) 0 [(0, (2, a0)), (1, (2, a1)), (2, (0, a2)), (3, (0, a3)), (4, (0, a4)), (5, (0, a5))] [] M
  refine r_iload (pc := 0) 5 (by decide +kernel) rfl ?_
  refine r_bipush (pc := 2) (z := 6) (by decide +kernel) ⟨by decide, by decide⟩ ?_
  refine r_imul (pc := 4) (by decide +kernel) ?_
  obtain ⟨u6_5, q5, h⟩ := lt_o h
  refine r_eq q5 ?_
  refine r_istore (pc := 5) (lv' := [(6, (0, u6_5)), (0, (2, a0)), (1, (2, a1)), (2, (0, a2)), (3, (0, a3)), (4, (0, a4)), (5, (0, a5))]) (by decide +kernel) (Nat.le_of_ble_eq_true rfl) rfl ?_
  refine r_aload_n (pc := 7) 1 (n := 0) (by decide +kernel) rfl rfl ?_
  obtain ⟨g8, q8, h⟩ := bnd h
  refine r_get (pc := 8) (by decide +kernel) fl_Census_19.r (by decide) rfl q8 ?_
  refine r_iload_n (pc := 11) 3 (n := 2) (by decide +kernel) rfl rfl ?_
  obtain ⟨_, q12c, h⟩ := bnd h
  obtain ⟨x12, q12, h⟩ := bnd h
  refine r_callV (pc := 12) (i := 97) (d2 := d - 1) (As := [(0, a2)]) (st := []) (st1 := [(0, a2), (2, g8)]) (by decide +kernel) yk_Signs_rankOf (by decide) rfl ⟨ml_Census_97, vk_Signs_rankOf⟩ np_Signs_rankOf rfl (by omega) q12c (c_Signs_rankOf (d := d - 1) (by omega) q12) (Nat.le_of_ble_eq_true rfl) (Nat.le_of_ble_eq_true rfl) (Nat.le_of_ble_eq_true rfl) rfl ?_
  show Rn _ d _ _ 0 0 _ 15 [(6, (0, u6_5)), (0, (2, a0)), (1, (2, a1)), (2, (0, a2)), (3, (0, a3)), (4, (0, a4)), (5, (0, a5))] [(0, x12.1)] x12.2
  refine r_if_ne (pc := 15) (off := 28) (tgt := 43) (by decide +kernel) (by decide) (fun c15 => ?_) (fun c15 => ?_)
  · have h := ite_f c15 h
    refine r_iload (pc := 43) 0 (by decide +kernel) rfl ?_
    refine r_bipush (pc := 45) (z := 6) (by decide +kernel) ⟨by decide, by decide⟩ ?_
    refine r_iadd (pc := 47) (by decide +kernel) ?_
    obtain ⟨u7_48, q48, h⟩ := lt_o h
    refine r_eq q48 ?_
    refine r_istore (pc := 48) (lv' := [(7, (0, u7_48)), (6, (0, u6_5)), (0, (2, a0)), (1, (2, a1)), (2, (0, a2)), (3, (0, a3)), (4, (0, a4)), (5, (0, a5))]) (by decide +kernel) (Nat.le_of_ble_eq_true rfl) rfl ?_
    refine r_lconst (pc := 50) (n := 0) (z := 0) (by decide +kernel) rfl ?_
    refine r_lstore (pc := 51) (lv' := [(8, (1, 0)), (7, (0, u7_48)), (6, (0, u6_5)), (0, (2, a0)), (1, (2, a1)), (2, (0, a2)), (3, (0, a3)), (4, (0, a4)), (5, (0, a5))]) (by decide +kernel) (Nat.le_of_ble_eq_true rfl) rfl ?_
    refine r_iconst (pc := 53) (z := 0) (by decide +kernel) ⟨by decide, by decide⟩ ?_
    refine r_istore (pc := 54) (lv' := [(10, (0, 0)), (8, (1, 0)), (7, (0, u7_48)), (6, (0, u6_5)), (0, (2, a0)), (1, (2, a1)), (2, (0, a2)), (3, (0, a3)), (4, (0, a4)), (5, (0, a5))]) (by decide +kernel) (Nat.le_of_ble_eq_true rfl) rfl ?_
    refine r_lv [4, 5, 6, 7, 8, 3, 2, 1, 0] rfl ?_
    refine sL_Census_share_56 (by omega) ?_ _ _ _  _ h
    intro w8_56 m56 h
    refine r_lload (pc := 161) 0 (by decide +kernel) rfl ?_
    obtain rfl := Option.some.inj h
    exact r_ret (pc := 163) (r := some (1, w8_56)) (by decide +kernel) rfl trivial (Nat.le_of_ble_eq_true rfl) (Nat.le_of_ble_eq_true rfl)
  · have h := ite_t c15 h
    refine r_iload_n (pc := 18) 4 (n := 3) (by decide +kernel) rfl rfl ?_
    refine r_iconst (pc := 19) (z := 1) (by decide +kernel) ⟨by decide, by decide⟩ ?_
    refine r_icmp_ne (pc := 20) (off := 21) (tgt := 41) (by decide +kernel) (by decide) (fun c20 => ?_) (fun c20 => ?_)
    · have h := ite_f c20 h
      refine r_lconst (pc := 41) (n := 0) (z := 0) (by decide +kernel) rfl ?_
      obtain rfl := Option.some.inj h
      exact r_ret (pc := 42) (r := some (1, 0)) (by decide +kernel) rfl trivial (Nat.le_of_ble_eq_true rfl) (Nat.le_of_ble_eq_true rfl)
    · have h := ite_t c20 h
      refine r_aload_n (pc := 23) 1 (n := 0) (by decide +kernel) rfl rfl ?_
      obtain ⟨g24, q24, h⟩ := bnd h
      refine r_get (pc := 24) (by decide +kernel) fl_Census_9.r (by decide) rfl q24 ?_
      refine r_iload (pc := 27) 0 (by decide +kernel) rfl ?_
      refine r_aload_n (pc := 29) 2 (n := 1) (by decide +kernel) rfl rfl ?_
      refine r_iload_n (pc := 30) 3 (n := 2) (by decide +kernel) rfl rfl ?_
      refine r_iconst (pc := 31) (z := 0) (by decide +kernel) ⟨by decide, by decide⟩ ?_
      refine r_iconst (pc := 32) (z := 0) (by decide +kernel) ⟨by decide, by decide⟩ ?_
      obtain ⟨_, q33c, h⟩ := bnd h
      obtain ⟨x33, q33, h⟩ := bnd h
      refine r_callV (pc := 33) (i := 100) (d2 := d - 1) (As := [(0, a2), (0, 0), (0, 0)]) (st := [(0, u6_5), (2, g24)]) (st1 := [(0, 0), (0, 0), (0, a2), (2, a1), (0, u6_5), (2, g24)]) (by decide +kernel) yk_Machine_step (by decide) rfl ⟨ml_Census_100, vk_Machine_step⟩ np_Machine_step rfl (by omega) q33c (c_Machine_step (d := d - 1) (by omega) q33) (Nat.le_of_ble_eq_true rfl) (Nat.le_of_ble_eq_true rfl) (Nat.le_of_ble_eq_true rfl) rfl ?_
      show Rn _ d _ _ 0 0 _ 36 [(6, (0, u6_5)), (0, (2, a0)), (1, (2, a1)), (2, (0, a2)), (3, (0, a3)), (4, (0, a4)), (5, (0, a5))] [(0, x33.1), (0, u6_5), (2, g24)] x33.2
      refine r_iadd (pc := 36) (by decide +kernel) ?_
      obtain ⟨e37, q37, h⟩ := bnd h
      refine r_lald (pc := 37) (by decide +kernel) q37 ?_
      refine r_goto (pc := 38) (off := 4) (tgt := 42) (by decide +kernel) (by decide) ?_
      obtain rfl := Option.some.inj h
      exact r_ret (pc := 42) (r := some (1, e37)) (by decide +kernel) rfl trivial (Nat.le_of_ble_eq_true rfl) (Nat.le_of_ble_eq_true rfl)

/-! TreeTongues$Census.weighSeconds(LTreeTongues$Machine;III)V -/
noncomputable def L_Census_weighSeconds_10 (k : Mem → Option (Mem)) (v0 : Int) (v1 : Int) (v2 : Int) (v3 : Int) (v5 : Int) : Nat → Int → Mem → Option (Mem)
  | 0 => fun _ _ => none
  | n + 1 => fun v6 M => (gf M v1 1 14 10).bind fun g13 => if g13 ≤ v6 then (k  M) else ((gf M v0 0 4 2).bind fun g20 => (gf M v0 0 4 2).bind fun g32 => (ck M v1 1 14).bind fun _ => (D_Machine_step v1 v2 v3 v6 M).bind fun x42 => (rd x42.2 11 g32 (wr (v5 + x42.1))).bind fun e46 => (wt x42.2 11 g20 (wr ((wr (v5 + 6)) + v6)) e46).bind fun m47 => L_Census_weighSeconds_10 k v0 v1 v2 v3 v5 n (wr (v6 + 1)) m47)
noncomputable def D_Census_weighSeconds (a0 a1 a2 a3 a4 : Int) (M : Mem) : Option (Mem) := lt (wr (a4 * 6)) fun u5_5 => L_Census_weighSeconds_10 (fun  m10 => some m10) a0 a1 a2 a3 u5_5 FU 0 M
theorem sL_Census_weighSeconds_10 {d mc ms : Nat} (hd : 4 ≤ d) {r : Mem} {k : Mem → Option (Mem)} {v0 : Int} {v1 : Int} {v2 : Int} {v3 : Int} {v5 : Int} (hk : ∀ (M : Mem), k M = some r → Rn Y_Census_weighSeconds d mc ms 0 0 (none, r) 54 [] [] M) : ∀ (n : Nat) (v6 : Int) (M : Mem), L_Census_weighSeconds_10 k v0 v1 v2 v3 v5 n v6 M = some r → Rn Y_Census_weighSeconds d mc ms 0 0 (none, r) 10 [(0, (2, v0)), (1, (2, v1)), (2, (0, v2)), (3, (0, v3)), (5, (0, v5)), (6, (0, v6))] [] M := by
  intro n
  induction n with
  | zero => intro _ _ h; cases h
  | succ n ih =>
    intro v6 M h
    rw [L_Census_weighSeconds_10] at h
    refine r_iload (pc := 10) 5 (by decide +kernel) rfl ?_
    refine r_aload_n (pc := 12) 1 (n := 1) (by decide +kernel) rfl rfl ?_
    obtain ⟨g13, q13, h⟩ := bnd h
    refine r_get (pc := 13) (by decide +kernel) fl_Census_31.r (by decide) rfl q13 ?_
    refine r_icmp_ge (pc := 16) (off := 38) (tgt := 54) (by decide +kernel) (by decide) (fun c16 => ?_) (fun c16 => ?_)
    · have h := ite_t c16 h
      refine r_lv [] rfl ?_
      exact hk  M h
    · have h := ite_f c16 h
      refine r_aload_n (pc := 19) 0 (n := 0) (by decide +kernel) rfl rfl ?_
      obtain ⟨g20, q20, h⟩ := bnd h
      refine r_get (pc := 20) (by decide +kernel) fl_Census_9.r (by decide) rfl q20 ?_
      refine r_iload (pc := 23) 4 (by decide +kernel) rfl ?_
      refine r_bipush (pc := 25) (z := 6) (by decide +kernel) ⟨by decide, by decide⟩ ?_
      refine r_iadd (pc := 27) (by decide +kernel) ?_
      refine r_iload (pc := 28) 5 (by decide +kernel) rfl ?_
      refine r_iadd (pc := 30) (by decide +kernel) ?_
      refine r_aload_n (pc := 31) 0 (n := 0) (by decide +kernel) rfl rfl ?_
      obtain ⟨g32, q32, h⟩ := bnd h
      refine r_get (pc := 32) (by decide +kernel) fl_Census_9.r (by decide) rfl q32 ?_
      refine r_iload (pc := 35) 4 (by decide +kernel) rfl ?_
      refine r_aload_n (pc := 37) 1 (n := 1) (by decide +kernel) rfl rfl ?_
      refine r_iload_n (pc := 38) 2 (n := 2) (by decide +kernel) rfl rfl ?_
      refine r_iload_n (pc := 39) 3 (n := 3) (by decide +kernel) rfl rfl ?_
      refine r_iload (pc := 40) 5 (by decide +kernel) rfl ?_
      obtain ⟨_, q42c, h⟩ := bnd h
      obtain ⟨x42, q42, h⟩ := bnd h
      refine r_callV (pc := 42) (i := 100) (d2 := d - 1) (As := [(0, v2), (0, v3), (0, v6)]) (st := [(0, v5), (2, g32), (0, wr ((wr (v5 + 6)) + v6)), (2, g20)]) (st1 := [(0, v6), (0, v3), (0, v2), (2, v1), (0, v5), (2, g32), (0, wr ((wr (v5 + 6)) + v6)), (2, g20)]) (by decide +kernel) yk_Machine_step (by decide) rfl ⟨ml_Census_100, vk_Machine_step⟩ np_Machine_step rfl (by omega) q42c (c_Machine_step (d := d - 1) (by omega) q42) (Nat.le_of_ble_eq_true rfl) (Nat.le_of_ble_eq_true rfl) (Nat.le_of_ble_eq_true rfl) rfl ?_
      show Rn _ d _ _ 0 0 _ 45 [(0, (2, v0)), (1, (2, v1)), (2, (0, v2)), (3, (0, v3)), (5, (0, v5)), (6, (0, v6))] [(0, x42.1), (0, v5), (2, g32), (0, wr ((wr (v5 + 6)) + v6)), (2, g20)] x42.2
      refine r_iadd (pc := 45) (by decide +kernel) ?_
      obtain ⟨e46, q46, h⟩ := bnd h
      refine r_lald (pc := 46) (by decide +kernel) q46 ?_
      obtain ⟨m47, q47, h⟩ := bnd h
      refine r_last (pc := 47) (by decide +kernel) q47 ?_
      refine r_iinc (pc := 48) 5 (n := 1) (lv' := [(6, (0, wr (v6 + 1))), (0, (2, v0)), (1, (2, v1)), (2, (0, v2)), (3, (0, v3)), (5, (0, v5))]) (by decide +kernel) rfl (Nat.le_of_ble_eq_true rfl) rfl ?_
      refine r_goto (pc := 51) (off := (-41)) (tgt := 10) (by decide +kernel) (by decide) ?_
      refine r_lv [1, 2, 3, 4, 5, 0] rfl ?_
      exact ih (wr (v6 + 1)) m47 h
theorem c_Census_weighSeconds {d : Nat} (hd : 4 ≤ d) {a0 a1 a2 a3 a4 : Int} {M : Mem} {x : Mem} (h : D_Census_weighSeconds a0 a1 a2 a3 a4 M = some x) : Ct d Y_Census_weighSeconds [(2, a0), (2, a1), (0, a2), (0, a3), (0, a4)] M (none, x) 0 0 := by
  refine ct_of yk_Census_weighSeconds (Nat.le_of_ble_eq_true rfl) ?_
  rw [D_Census_weighSeconds] at h
  show Rn Y_Census_weighSeconds d 0 0 0 0 (none, x) 0 [(0, (2, a0)), (1, (2, a1)), (2, (0, a2)), (3, (0, a3)), (4, (0, a4))] [] M
  refine r_iload (pc := 0) 4 (by decide +kernel) rfl ?_
  refine r_bipush (pc := 2) (z := 6) (by decide +kernel) ⟨by decide, by decide⟩ ?_
  refine r_imul (pc := 4) (by decide +kernel) ?_
  obtain ⟨u5_5, q5, h⟩ := lt_o h
  refine r_eq q5 ?_
  refine r_istore (pc := 5) (lv' := [(5, (0, u5_5)), (0, (2, a0)), (1, (2, a1)), (2, (0, a2)), (3, (0, a3)), (4, (0, a4))]) (by decide +kernel) (Nat.le_of_ble_eq_true rfl) rfl ?_
  refine r_iconst (pc := 7) (z := 0) (by decide +kernel) ⟨by decide, by decide⟩ ?_
  refine r_istore (pc := 8) (lv' := [(6, (0, 0)), (5, (0, u5_5)), (0, (2, a0)), (1, (2, a1)), (2, (0, a2)), (3, (0, a3)), (4, (0, a4))]) (by decide +kernel) (Nat.le_of_ble_eq_true rfl) rfl ?_
  refine r_lv [2, 3, 4, 5, 1, 0] rfl ?_
  refine sL_Census_weighSeconds_10 (by omega) ?_ _ _  _ h
  intro m10 h
  obtain rfl := Option.some.inj h
  exact r_ret (pc := 54) (r := none) (by decide +kernel) rfl trivial (Nat.le_of_ble_eq_true rfl) (Nat.le_of_ble_eq_true rfl)
