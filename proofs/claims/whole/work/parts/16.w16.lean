/-! TreeTongues$Signs.mapped(II)I -/
noncomputable def D_Signs_mapped (a0 a1 a2 : Int) (M : Mem) : Option (Int × Mem) := some (iand (ishr a1 (wr (3 * a2))) 7, M)
theorem c_Signs_mapped {d : Nat} (hd : 1 ≤ d) {a0 a1 a2 : Int} {M : Mem} {x : Int × Mem} (h : D_Signs_mapped a0 a1 a2 M = some x) : Ct d Y_Signs_mapped [(2, a0), (0, a1), (0, a2)] M (some (0, x.1), x.2) 0 0 := by
  refine ct_of yk_Signs_mapped (Nat.le_of_ble_eq_true rfl) ?_
  rw [D_Signs_mapped] at h
  show Rn Y_Signs_mapped d 0 0 0 0 (some (0, x.1), x.2) 0 [(0, (2, a0)), (1, (0, a1)), (2, (0, a2))] [] M
  refine r_iload_n (pc := 0) 1 (n := 1) (by decide +kernel) rfl rfl ?_
  refine r_iconst (pc := 1) (z := 3) (by decide +kernel) ⟨by decide, by decide⟩ ?_
  refine r_iload_n (pc := 2) 2 (n := 2) (by decide +kernel) rfl rfl ?_
  refine r_imul (pc := 3) (by decide +kernel) ?_
  refine r_ishr (pc := 4) (by decide +kernel) ?_
  refine r_bipush (pc := 5) (z := 7) (by decide +kernel) ⟨by decide, by decide⟩ ?_
  refine r_iand (pc := 7) (by decide +kernel) ?_
  obtain rfl := Option.some.inj h
  exact r_ret (pc := 8) (r := some (0, iand (ishr a1 (wr (3 * a2))) 7)) (by decide +kernel) rfl trivial (Nat.le_of_ble_eq_true rfl) (Nat.le_of_ble_eq_true rfl)

/-! TreeTongues$Signs.isMap(I)Z -/
noncomputable def L_Signs_isMap_8 (k : Mem → Option (Int × Mem)) (v0 : Int) (v1 : Int) : Nat → Int → Mem → Option (Int × Mem)
  | 0 => fun _ _ => none
  | n + 1 => fun v2 M => (gf M v0 5 3 1).bind fun g10 => if g10 ≤ v2 then (k  M) else ((ck M v0 5 3).bind fun _ => (D_Signs_mapped v0 v1 v2 M).bind fun x19 => (ck x19.2 v0 5 3).bind fun _ => (D_Signs_knows v0 x19.1 x19.2).bind fun x25 => if x25.1 = 0 then (some (0, x25.2)) else ((gf x25.2 v0 5 3 0).bind fun g32 => (rd x25.2 10 g32 x19.1).bind fun e36 => (gf x25.2 v0 5 3 0).bind fun g38 => (rd x25.2 10 g38 v2).bind fun e42 => if e36 = e42 then (L_Signs_isMap_8 k v0 v1 n (wr (v2 + 1)) x25.2) else (some (0, x25.2))))
noncomputable def D_Signs_isMap (a0 a1 : Int) (M : Mem) : Option (Int × Mem) := if 0 ≤ a1 then (L_Signs_isMap_8 (fun  m8 => (gf m8 a0 5 3 1).bind fun g57 => if (ishr a1 (wr (3 * g57))) = 0 then (some (1, m8)) else (some (0, m8))) a0 a1 FU 0 M) else (some (0, M))
theorem sL_Signs_isMap_8 {d mc ms : Nat} (hd : 2 ≤ d) {r : Int × Mem} {k : Mem → Option (Int × Mem)} {v0 : Int} {v1 : Int} (hk : ∀ (M : Mem), k M = some r → Rn Y_Signs_isMap d mc ms 0 0 (some (0, r.1), r.2) 54 [(0, (2, v0)), (1, (0, v1))] [] M) : ∀ (n : Nat) (v2 : Int) (M : Mem), L_Signs_isMap_8 k v0 v1 n v2 M = some r → Rn Y_Signs_isMap d mc ms 0 0 (some (0, r.1), r.2) 8 [(0, (2, v0)), (1, (0, v1)), (2, (0, v2))] [] M := by
  intro n
  induction n with
  | zero => intro _ _ h; cases h
  | succ n ih =>
    intro v2 M h
    rw [L_Signs_isMap_8] at h
    refine r_iload_n (pc := 8) 2 (n := 2) (by decide +kernel) rfl rfl ?_
    refine r_aload_n (pc := 9) 0 (n := 0) (by decide +kernel) rfl rfl ?_
    obtain ⟨g10, q10, h⟩ := bnd h
    refine r_get (pc := 10) (by decide +kernel) fl_Signs_15.r (by decide) rfl q10 ?_
    refine r_icmp_ge (pc := 13) (off := 41) (tgt := 54) (by decide +kernel) (by decide) (fun c13 => ?_) (fun c13 => ?_)
    · have h := ite_t c13 h
      refine r_lv [0, 1] rfl ?_
      exact hk  M h
    · have h := ite_f c13 h
      refine r_aload_n (pc := 16) 0 (n := 0) (by decide +kernel) rfl rfl ?_
      refine r_iload_n (pc := 17) 1 (n := 1) (by decide +kernel) rfl rfl ?_
      refine r_iload_n (pc := 18) 2 (n := 2) (by decide +kernel) rfl rfl ?_
      obtain ⟨_, q19c, h⟩ := bnd h
      obtain ⟨x19, q19, h⟩ := bnd h
      refine r_callV (pc := 19) (i := 27) (d2 := d - 1) (As := [(0, v1), (0, v2)]) (st := []) (st1 := [(0, v2), (0, v1), (2, v0)]) (by decide +kernel) yk_Signs_mapped (by decide) rfl ⟨ml_Signs_27, vk_Signs_mapped⟩ np_Signs_mapped rfl (by omega) q19c (c_Signs_mapped (d := d - 1) (by omega) q19) (Nat.le_of_ble_eq_true rfl) (Nat.le_of_ble_eq_true rfl) (Nat.le_of_ble_eq_true rfl) rfl ?_
      show Rn _ d _ _ 0 0 _ 22 [(0, (2, v0)), (1, (0, v1)), (2, (0, v2))] [(0, x19.1)] x19.2
      refine r_istore_n (pc := 22) (n := 3) (lv' := [(3, (0, x19.1)), (0, (2, v0)), (1, (0, v1)), (2, (0, v2))]) (by decide +kernel) rfl (Nat.le_of_ble_eq_true rfl) rfl ?_
      refine r_aload_n (pc := 23) 1 (n := 0) (by decide +kernel) rfl rfl ?_
      refine r_iload_n (pc := 24) 0 (n := 3) (by decide +kernel) rfl rfl ?_
      obtain ⟨_, q25c, h⟩ := bnd h
      obtain ⟨x25, q25, h⟩ := bnd h
      refine r_callV (pc := 25) (i := 31) (d2 := d - 1) (As := [(0, x19.1)]) (st := []) (st1 := [(0, x19.1), (2, v0)]) (by decide +kernel) yk_Signs_knows (by decide) rfl ⟨ml_Signs_31, vk_Signs_knows⟩ np_Signs_knows rfl (by omega) q25c (c_Signs_knows (d := d - 1) (by omega) q25) (Nat.le_of_ble_eq_true rfl) (Nat.le_of_ble_eq_true rfl) (Nat.le_of_ble_eq_true rfl) rfl ?_
      show Rn _ d _ _ 0 0 _ 28 [(3, (0, x19.1)), (0, (2, v0)), (1, (0, v1)), (2, (0, v2))] [(0, x25.1)] x25.2
      refine r_if_eq (pc := 28) (off := 18) (tgt := 46) (by decide +kernel) (by decide) (fun c28 => ?_) (fun c28 => ?_)
      · have h := ite_t c28 h
        refine r_iconst (pc := 46) (z := 0) (by decide +kernel) ⟨by decide, by decide⟩ ?_
        obtain rfl := Option.some.inj h
        exact r_ret (pc := 47) (r := some (0, 0)) (by decide +kernel) rfl (Or.inl rfl) (Nat.le_of_ble_eq_true rfl) (Nat.le_of_ble_eq_true rfl)
      · have h := ite_f c28 h
        refine r_aload_n (pc := 31) 1 (n := 0) (by decide +kernel) rfl rfl ?_
        obtain ⟨g32, q32, h⟩ := bnd h
        refine r_get (pc := 32) (by decide +kernel) fl_Signs_9.r (by decide) rfl q32 ?_
        refine r_iload_n (pc := 35) 0 (n := 3) (by decide +kernel) rfl rfl ?_
        obtain ⟨e36, q36, h⟩ := bnd h
        refine r_iald (pc := 36) (by decide +kernel) q36 ?_
        refine r_aload_n (pc := 37) 1 (n := 0) (by decide +kernel) rfl rfl ?_
        obtain ⟨g38, q38, h⟩ := bnd h
        refine r_get (pc := 38) (by decide +kernel) fl_Signs_9.r (by decide) rfl q38 ?_
        refine r_iload_n (pc := 41) 3 (n := 2) (by decide +kernel) rfl rfl ?_
        obtain ⟨e42, q42, h⟩ := bnd h
        refine r_iald (pc := 42) (by decide +kernel) q42 ?_
        refine r_icmp_eq (pc := 43) (off := 5) (tgt := 48) (by decide +kernel) (by decide) (fun c43 => ?_) (fun c43 => ?_)
        · have h := ite_t c43 h
          refine r_iinc (pc := 48) 3 (n := 1) (lv' := [(2, (0, wr (v2 + 1))), (3, (0, x19.1)), (0, (2, v0)), (1, (0, v1))]) (by decide +kernel) rfl (Nat.le_of_ble_eq_true rfl) rfl ?_
          refine r_goto (pc := 51) (off := (-43)) (tgt := 8) (by decide +kernel) (by decide) ?_
          refine r_lv [2, 3, 0] rfl ?_
          exact ih (wr (v2 + 1)) x25.2 h
        · have h := ite_f c43 h
          refine r_iconst (pc := 46) (z := 0) (by decide +kernel) ⟨by decide, by decide⟩ ?_
          obtain rfl := Option.some.inj h
          exact r_ret (pc := 47) (r := some (0, 0)) (by decide +kernel) rfl (Or.inl rfl) (Nat.le_of_ble_eq_true rfl) (Nat.le_of_ble_eq_true rfl)
theorem c_Signs_isMap {d : Nat} (hd : 2 ≤ d) {a0 a1 : Int} {M : Mem} {x : Int × Mem} (h : D_Signs_isMap a0 a1 M = some x) : Ct d Y_Signs_isMap [(2, a0), (0, a1)] M (some (0, x.1), x.2) 0 0 := by
  refine ct_of yk_Signs_isMap (Nat.le_of_ble_eq_true rfl) ?_
  rw [D_Signs_isMap] at h
  show Rn Y_Signs_isMap d 0 0 0 0 (some (0, x.1), x.2) 0 [(0, (2, a0)), (1, (0, a1))] [] M
  refine r_iload_n (pc := 0) 1 (n := 1) (by decide +kernel) rfl rfl ?_
  refine r_if_ge (pc := 1) (off := 5) (tgt := 6) (by decide +kernel) (by decide) (fun c1 => ?_) (fun c1 => ?_)
  · have h := ite_t c1 h
    refine r_iconst (pc := 6) (z := 0) (by decide +kernel) ⟨by decide, by decide⟩ ?_
    refine r_istore_n (pc := 7) (n := 2) (lv' := [(2, (0, 0)), (0, (2, a0)), (1, (0, a1))]) (by decide +kernel) rfl (Nat.le_of_ble_eq_true rfl) rfl ?_
    refine r_lv [1, 2, 0] rfl ?_
    refine sL_Signs_isMap_8 (by omega) ?_ _ _  _ h
    intro m8 h
    refine r_iload_n (pc := 54) 1 (n := 1) (by decide +kernel) rfl rfl ?_
    refine r_iconst (pc := 55) (z := 3) (by decide +kernel) ⟨by decide, by decide⟩ ?_
    refine r_aload_n (pc := 56) 0 (n := 0) (by decide +kernel) rfl rfl ?_
    obtain ⟨g57, q57, h⟩ := bnd h
    refine r_get (pc := 57) (by decide +kernel) fl_Signs_15.r (by decide) rfl q57 ?_
    refine r_imul (pc := 60) (by decide +kernel) ?_
    refine r_ishr (pc := 61) (by decide +kernel) ?_
    refine r_if_ne (pc := 62) (off := 7) (tgt := 69) (by decide +kernel) (by decide) (fun c62 => ?_) (fun c62 => ?_)
    · have h := ite_f c62 h
      refine r_iconst (pc := 69) (z := 0) (by decide +kernel) ⟨by decide, by decide⟩ ?_
      obtain rfl := Option.some.inj h
      exact r_ret (pc := 70) (r := some (0, 0)) (by decide +kernel) rfl (Or.inl rfl) (Nat.le_of_ble_eq_true rfl) (Nat.le_of_ble_eq_true rfl)
    · have h := ite_t c62 h
      refine r_iconst (pc := 65) (z := 1) (by decide +kernel) ⟨by decide, by decide⟩ ?_
      refine r_goto (pc := 66) (off := 4) (tgt := 70) (by decide +kernel) (by decide) ?_
      obtain rfl := Option.some.inj h
      exact r_ret (pc := 70) (r := some (0, 1)) (by decide +kernel) rfl (Or.inr rfl) (Nat.le_of_ble_eq_true rfl) (Nat.le_of_ble_eq_true rfl)
  · have h := ite_f c1 h
    refine r_iconst (pc := 4) (z := 0) (by decide +kernel) ⟨by decide, by decide⟩ ?_
    obtain rfl := Option.some.inj h
    exact r_ret (pc := 5) (r := some (0, 0)) (by decide +kernel) rfl (Or.inl rfl) (Nat.le_of_ble_eq_true rfl) (Nat.le_of_ble_eq_true rfl)

/-! TreeTongues$Net.setRenamed(LTreeTongues$Machine;I)V -/
noncomputable def L_Net_setRenamed_16 (k : Mem → Option (Mem)) (v0 : Int) (v1 : Int) (v2 : Int) : Nat → Int → Mem → Option (Mem)
  | 0 => fun _ _ => none
  | n + 1 => fun v3 M => (gf M v0 2 6 0).bind fun g18 => (gf M g18 5 3 1).bind fun g21 => if g21 ≤ v3 then (k  M) else ((gf M v0 2 6 0).bind fun g31 => (ck M g31 5 3).bind fun _ => (D_Signs_mapped g31 v2 v3 M).bind fun x36 => (ck x36.2 v0 2 6).bind fun _ => (D_Net_enter v0 v1 0 x36.1 v3 x36.2).bind fun x40 => L_Net_setRenamed_16 k v0 v1 v2 n (wr (v3 + 1)) x40)
noncomputable def D_Net_setRenamed (a0 a1 a2 : Int) (M : Mem) : Option (Mem) := (gf M a1 1 14 10).bind fun g2 => (gf M a1 1 14 11).bind fun g6 => (ck M a0 2 6).bind fun _ => (D_Net_begin a0 g2 g6 10 M).bind fun x11 => L_Net_setRenamed_16 (fun  m16 => some m16) a0 a1 a2 FU 0 x11
theorem sL_Net_setRenamed_16 {d mc ms : Nat} (hd : 5 ≤ d) {r : Mem} {k : Mem → Option (Mem)} {v0 : Int} {v1 : Int} {v2 : Int} (hk : ∀ (M : Mem), k M = some r → Rn Y_Net_setRenamed d mc ms 0 0 (none, r) 49 [] [] M) : ∀ (n : Nat) (v3 : Int) (M : Mem), L_Net_setRenamed_16 k v0 v1 v2 n v3 M = some r → Rn Y_Net_setRenamed d mc ms 0 0 (none, r) 16 [(0, (2, v0)), (1, (2, v1)), (2, (0, v2)), (3, (0, v3))] [] M := by
  intro n
  induction n with
  | zero => intro _ _ h; cases h
  | succ n ih =>
    intro v3 M h
    rw [L_Net_setRenamed_16] at h
    refine r_iload_n (pc := 16) 3 (n := 3) (by decide +kernel) rfl rfl ?_
    refine r_aload_n (pc := 17) 0 (n := 0) (by decide +kernel) rfl rfl ?_
    obtain ⟨g18, q18, h⟩ := bnd h
    refine r_get (pc := 18) (by decide +kernel) fl_Net_28.r (by decide) rfl q18 ?_
    obtain ⟨g21, q21, h⟩ := bnd h
    refine r_get (pc := 21) (by decide +kernel) fl_Net_70.r (by decide) rfl q21 ?_
    refine r_icmp_ge (pc := 24) (off := 25) (tgt := 49) (by decide +kernel) (by decide) (fun c24 => ?_) (fun c24 => ?_)
    · have h := ite_t c24 h
      refine r_lv [] rfl ?_
      exact hk  M h
    · have h := ite_f c24 h
      refine r_aload_n (pc := 27) 0 (n := 0) (by decide +kernel) rfl rfl ?_
      refine r_aload_n (pc := 28) 1 (n := 1) (by decide +kernel) rfl rfl ?_
      refine r_iconst (pc := 29) (z := 0) (by decide +kernel) ⟨by decide, by decide⟩ ?_
      refine r_aload_n (pc := 30) 0 (n := 0) (by decide +kernel) rfl rfl ?_
      obtain ⟨g31, q31, h⟩ := bnd h
      refine r_get (pc := 31) (by decide +kernel) fl_Net_28.r (by decide) rfl q31 ?_
      refine r_iload_n (pc := 34) 2 (n := 2) (by decide +kernel) rfl rfl ?_
      refine r_iload_n (pc := 35) 3 (n := 3) (by decide +kernel) rfl rfl ?_
      obtain ⟨_, q36c, h⟩ := bnd h
      obtain ⟨x36, q36, h⟩ := bnd h
      refine r_callV (pc := 36) (i := 81) (d2 := d - 1) (As := [(0, v2), (0, v3)]) (st := [(0, 0), (2, v1), (2, v0)]) (st1 := [(0, v3), (0, v2), (2, g31), (0, 0), (2, v1), (2, v0)]) (by decide +kernel) yk_Signs_mapped (by decide) rfl ⟨ml_Net_81, vk_Signs_mapped⟩ np_Signs_mapped rfl (by omega) q36c (c_Signs_mapped (d := d - 1) (by omega) q36) (Nat.le_of_ble_eq_true rfl) (Nat.le_of_ble_eq_true rfl) (Nat.le_of_ble_eq_true rfl) rfl ?_
      show Rn _ d _ _ 0 0 _ 39 [(0, (2, v0)), (1, (2, v1)), (2, (0, v2)), (3, (0, v3))] [(0, x36.1), (0, 0), (2, v1), (2, v0)] x36.2
      refine r_iload_n (pc := 39) 3 (n := 3) (by decide +kernel) rfl rfl ?_
      obtain ⟨_, q40c, h⟩ := bnd h
      obtain ⟨x40, q40, h⟩ := bnd h
      refine r_callV (pc := 40) (i := 76) (d2 := d - 1) (As := [(2, v1), (0, 0), (0, x36.1), (0, v3)]) (st := []) (st1 := [(0, v3), (0, x36.1), (0, 0), (2, v1), (2, v0)]) (by decide +kernel) yk_Net_enter (by decide) rfl ⟨ml_Net_76, vk_Net_enter⟩ np_Net_enter rfl (by omega) q40c (c_Net_enter (d := d - 1) (by omega) q40) (Nat.le_of_ble_eq_true rfl) (Nat.le_of_ble_eq_true rfl) (Nat.le_of_ble_eq_true rfl) rfl ?_
      show Rn _ d _ _ 0 0 _ 43 [(0, (2, v0)), (1, (2, v1)), (2, (0, v2)), (3, (0, v3))] [] x40
      refine r_iinc (pc := 43) 3 (n := 1) (lv' := [(3, (0, wr (v3 + 1))), (0, (2, v0)), (1, (2, v1)), (2, (0, v2))]) (by decide +kernel) rfl (Nat.le_of_ble_eq_true rfl) rfl ?_
      refine r_goto (pc := 46) (off := (-30)) (tgt := 16) (by decide +kernel) (by decide) ?_
      refine r_lv [1, 2, 3, 0] rfl ?_
      exact ih (wr (v3 + 1)) x40 h
theorem c_Net_setRenamed {d : Nat} (hd : 5 ≤ d) {a0 a1 a2 : Int} {M : Mem} {x : Mem} (h : D_Net_setRenamed a0 a1 a2 M = some x) : Ct d Y_Net_setRenamed [(2, a0), (2, a1), (0, a2)] M (none, x) 0 0 := by
  refine ct_of yk_Net_setRenamed (Nat.le_of_ble_eq_true rfl) ?_
  rw [D_Net_setRenamed] at h
  show Rn Y_Net_setRenamed d 0 0 0 0 (none, x) 0 [(0, (2, a0)), (1, (2, a1)), (2, (0, a2))] [] M
  refine r_aload_n (pc := 0) 0 (n := 0) (by decide +kernel) rfl rfl ?_
  refine r_aload_n (pc := 1) 1 (n := 1) (by decide +kernel) rfl rfl ?_
  obtain ⟨g2, q2, h⟩ := bnd h
  refine r_get (pc := 2) (by decide +kernel) fl_Net_44.r (by decide) rfl q2 ?_
  refine r_aload_n (pc := 5) 1 (n := 1) (by decide +kernel) rfl rfl ?_
  obtain ⟨g6, q6, h⟩ := bnd h
  refine r_get (pc := 6) (by decide +kernel) fl_Net_80.r (by decide) rfl q6 ?_
  refine r_bipush (pc := 9) (z := 10) (by decide +kernel) ⟨by decide, by decide⟩ ?_
  obtain ⟨_, q11c, h⟩ := bnd h
  obtain ⟨x11, q11, h⟩ := bnd h
  refine r_callV (pc := 11) (i := 66) (d2 := d - 1) (As := [(0, g2), (0, g6), (0, 10)]) (st := []) (st1 := [(0, 10), (0, g6), (0, g2), (2, a0)]) (by decide +kernel) yk_Net_begin (by decide) rfl ⟨ml_Net_66, vk_Net_begin⟩ np_Net_begin rfl (by omega) q11c (c_Net_begin (d := d - 1) (by omega) q11) (Nat.le_of_ble_eq_true rfl) (Nat.le_of_ble_eq_true rfl) (Nat.le_of_ble_eq_true rfl) rfl ?_
  show Rn _ d _ _ 0 0 _ 14 [(0, (2, a0)), (1, (2, a1)), (2, (0, a2))] [] x11
  refine r_iconst (pc := 14) (z := 0) (by decide +kernel) ⟨by decide, by decide⟩ ?_
  refine r_istore_n (pc := 15) (n := 3) (lv' := [(3, (0, 0)), (0, (2, a0)), (1, (2, a1)), (2, (0, a2))]) (by decide +kernel) rfl (Nat.le_of_ble_eq_true rfl) rfl ?_
  refine r_lv [1, 2, 3, 0] rfl ?_
  refine sL_Net_setRenamed_16 (by omega) ?_ _ _  _ h
  intro m16 h
  obtain rfl := Option.some.inj h
  exact r_ret (pc := 49) (r := none) (by decide +kernel) rfl trivial (Nat.le_of_ble_eq_true rfl) (Nat.le_of_ble_eq_true rfl)

/-! TreeTongues.renamed(II)I -/
noncomputable def D_T_renamed (a0 a1 a2 : Int) (M : Mem) : Option (Int × Mem) := (ck M a0 8 8).bind fun _ => (D_T_find a0 a1 M).bind fun x2 => if x2.1 < 0 then (some ((-2), x2.2)) else ((gf x2.2 a0 8 8 0).bind fun g11 => (ck x2.2 g11 5 3).bind fun _ => (D_Signs_isMap g11 a2 x2.2).bind fun x15 => if x15.1 = 0 then (some ((-2), x15.2)) else ((gf x15.2 a0 8 8 7).bind fun g25 => if g25 < 16 then ((ck x15.2 a0 8 8).bind fun _ => (D_T_isLarge a0 x2.1 x15.2).bind fun x38 => if x38.1 = 0 then ((gf x38.2 a0 8 8 3).bind fun g48 => (gf x38.2 x2.1 7 8 1).bind fun g52 => (ck x38.2 g48 2 6).bind fun _ => (D_Net_setRenamed g48 g52 a2 x38.2).bind fun x56 => (ck x56 a0 8 8).bind fun _ => (D_T_keep a0 x56).bind fun x60 => some (x60.1, x60.2)) else (some ((-5), x38.2))) else (some ((-4), x15.2))))
theorem c_T_renamed {d : Nat} (hd : 8 ≤ d) {a0 a1 a2 : Int} {M : Mem} {x : Int × Mem} (h : D_T_renamed a0 a1 a2 M = some x) : Ct d Y_T_renamed [(2, a0), (0, a1), (0, a2)] M (some (0, x.1), x.2) 12 676 := by
  refine ct_of yk_T_renamed (Nat.le_of_ble_eq_true rfl) ?_
  rw [D_T_renamed] at h
  show Rn Y_T_renamed d 12 676 0 0 (some (0, x.1), x.2) 0 [(0, (2, a0)), (1, (0, a1)), (2, (0, a2))] [] M
  refine r_aload_n (pc := 0) 0 (n := 0) (by decide +kernel) rfl rfl ?_
  refine r_iload_n (pc := 1) 1 (n := 1) (by decide +kernel) rfl rfl ?_
  obtain ⟨_, q2c, h⟩ := bnd h
  obtain ⟨x2, q2, h⟩ := bnd h
  refine r_callV (pc := 2) (i := 98) (d2 := d - 1) (As := [(0, a1)]) (st := []) (st1 := [(0, a1), (2, a0)]) (by decide +kernel) yk_T_find (by decide) rfl ⟨ml_T_98, vk_T_find⟩ np_T_find rfl (by omega) q2c (c_T_find (d := d - 1) (by omega) q2) (Nat.le_of_ble_eq_true rfl) (Nat.le_of_ble_eq_true rfl) (Nat.le_of_ble_eq_true rfl) rfl ?_
  show Rn _ d _ _ 0 0 _ 5 [(0, (2, a0)), (1, (0, a1)), (2, (0, a2))] [(2, x2.1)] x2.2
  refine r_astore_n (pc := 5) (n := 3) (lv' := [(3, (2, x2.1)), (0, (2, a0)), (1, (0, a1)), (2, (0, a2))]) (by decide +kernel) rfl (Nat.le_of_ble_eq_true rfl) rfl ?_
  refine r_aload_n (pc := 6) 0 (n := 3) (by decide +kernel) rfl rfl ?_
  refine r_ifnull (pc := 7) (off := 14) (tgt := 21) (by decide +kernel) (by decide) (fun c7 => ?_) (fun c7 => ?_)
  · have h := ite_t c7 h
    refine r_bipush (pc := 21) (z := (-2)) (by decide +kernel) ⟨by decide, by decide⟩ ?_
    obtain rfl := Option.some.inj h
    exact r_ret (pc := 23) (r := some (0, (-2))) (by decide +kernel) rfl trivial (Nat.le_of_ble_eq_true rfl) (Nat.le_of_ble_eq_true rfl)
  · have h := ite_f c7 h
    refine r_aload_n (pc := 10) 1 (n := 0) (by decide +kernel) rfl rfl ?_
    obtain ⟨g11, q11, h⟩ := bnd h
    refine r_get (pc := 11) (by decide +kernel) fl_T_12.r (by decide) rfl q11 ?_
    refine r_iload_n (pc := 14) 3 (n := 2) (by decide +kernel) rfl rfl ?_
    obtain ⟨_, q15c, h⟩ := bnd h
    obtain ⟨x15, q15, h⟩ := bnd h
    refine r_callV (pc := 15) (i := 144) (d2 := d - 1) (As := [(0, a2)]) (st := []) (st1 := [(0, a2), (2, g11)]) (by decide +kernel) yk_Signs_isMap (by decide) rfl ⟨ml_T_144, vk_Signs_isMap⟩ np_Signs_isMap rfl (by omega) q15c (c_Signs_isMap (d := d - 1) (by omega) q15) (Nat.le_of_ble_eq_true rfl) (Nat.le_of_ble_eq_true rfl) (Nat.le_of_ble_eq_true rfl) rfl ?_
    show Rn _ d _ _ 0 0 _ 18 [(3, (2, x2.1)), (0, (2, a0)), (1, (0, a1)), (2, (0, a2))] [(0, x15.1)] x15.2
    refine r_if_ne (pc := 18) (off := 6) (tgt := 24) (by decide +kernel) (by decide) (fun c18 => ?_) (fun c18 => ?_)
    · have h := ite_f c18 h
      refine r_aload_n (pc := 24) 1 (n := 0) (by decide +kernel) rfl rfl ?_
      obtain ⟨g25, q25, h⟩ := bnd h
      refine r_get (pc := 25) (by decide +kernel) fl_T_63.r (by decide) rfl q25 ?_
      refine r_bipush (pc := 28) (z := 16) (by decide +kernel) ⟨by decide, by decide⟩ ?_
      refine r_icmp_lt (pc := 30) (off := 6) (tgt := 36) (by decide +kernel) (by decide) (fun c30 => ?_) (fun c30 => ?_)
      · have h := ite_t c30 h
        refine r_aload_n (pc := 36) 1 (n := 0) (by decide +kernel) rfl rfl ?_
        refine r_aload_n (pc := 37) 0 (n := 3) (by decide +kernel) rfl rfl ?_
        obtain ⟨_, q38c, h⟩ := bnd h
        obtain ⟨x38, q38, h⟩ := bnd h
        refine r_callV (pc := 38) (i := 122) (d2 := d - 1) (As := [(2, x2.1)]) (st := []) (st1 := [(2, x2.1), (2, a0)]) (by decide +kernel) yk_T_isLarge (by decide) rfl ⟨ml_T_122, vk_T_isLarge⟩ np_T_isLarge rfl (by omega) q38c (c_T_isLarge (d := d - 1) (by omega) q38) (Nat.le_of_ble_eq_true rfl) (Nat.le_of_ble_eq_true rfl) (Nat.le_of_ble_eq_true rfl) rfl ?_
        show Rn _ d _ _ 0 0 _ 41 [(3, (2, x2.1)), (0, (2, a0)), (1, (0, a1)), (2, (0, a2))] [(0, x38.1)] x38.2
        refine r_if_eq (pc := 41) (off := 6) (tgt := 47) (by decide +kernel) (by decide) (fun c41 => ?_) (fun c41 => ?_)
        · have h := ite_t c41 h
          refine r_aload_n (pc := 47) 1 (n := 0) (by decide +kernel) rfl rfl ?_
          obtain ⟨g48, q48, h⟩ := bnd h
          refine r_get (pc := 48) (by decide +kernel) fl_T_34.r (by decide) rfl q48 ?_
          refine r_aload_n (pc := 51) 0 (n := 3) (by decide +kernel) rfl rfl ?_
          obtain ⟨g52, q52, h⟩ := bnd h
          refine r_get (pc := 52) (by decide +kernel) fl_T_126 (by decide) rfl q52 ?_
          refine r_iload_n (pc := 55) 3 (n := 2) (by decide +kernel) rfl rfl ?_
          obtain ⟨_, q56c, h⟩ := bnd h
          obtain ⟨x56, q56, h⟩ := bnd h
          refine r_callV (pc := 56) (i := 147) (d2 := d - 1) (As := [(2, g52), (0, a2)]) (st := []) (st1 := [(0, a2), (2, g52), (2, g48)]) (by decide +kernel) yk_Net_setRenamed (by decide) rfl ⟨ml_T_147, vk_Net_setRenamed⟩ np_Net_setRenamed rfl (by omega) q56c (c_Net_setRenamed (d := d - 1) (by omega) q56) (Nat.le_of_ble_eq_true rfl) (Nat.le_of_ble_eq_true rfl) (Nat.le_of_ble_eq_true rfl) rfl ?_
          show Rn _ d _ _ 0 0 _ 59 [(3, (2, x2.1)), (0, (2, a0)), (1, (0, a1)), (2, (0, a2))] [] x56
          refine r_aload_n (pc := 59) 1 (n := 0) (by decide +kernel) rfl rfl ?_
          obtain ⟨_, q60c, h⟩ := bnd h
          obtain ⟨x60, q60, h⟩ := bnd h
          refine r_callV (pc := 60) (i := 133) (d2 := d - 1) (As := []) (st := []) (st1 := [(2, a0)]) (by decide +kernel) yk_T_keep (by decide) rfl ⟨ml_T_133, vk_T_keep⟩ np_T_keep rfl (by omega) q60c (c_T_keep (d := d - 1) (by omega) q60) (Nat.le_of_ble_eq_true rfl) (Nat.le_of_ble_eq_true rfl) (Nat.le_of_ble_eq_true rfl) rfl ?_
          show Rn _ d _ _ 12 676 _ 63 [(3, (2, x2.1)), (0, (2, a0)), (1, (0, a1)), (2, (0, a2))] [(0, x60.1)] x60.2
          obtain rfl := Option.some.inj h
          exact r_ret (pc := 63) (r := some (0, x60.1)) (by decide +kernel) rfl trivial (Nat.le_of_ble_eq_true rfl) (Nat.le_of_ble_eq_true rfl)
        · have h := ite_f c41 h
          refine r_bipush (pc := 44) (z := (-5)) (by decide +kernel) ⟨by decide, by decide⟩ ?_
          obtain rfl := Option.some.inj h
          exact r_ret (pc := 46) (r := some (0, (-5))) (by decide +kernel) rfl trivial (Nat.le_of_ble_eq_true rfl) (Nat.le_of_ble_eq_true rfl)
      · have h := ite_f c30 h
        refine r_bipush (pc := 33) (z := (-4)) (by decide +kernel) ⟨by decide, by decide⟩ ?_
        obtain rfl := Option.some.inj h
        exact r_ret (pc := 35) (r := some (0, (-4))) (by decide +kernel) rfl trivial (Nat.le_of_ble_eq_true rfl) (Nat.le_of_ble_eq_true rfl)
    · have h := ite_t c18 h
      refine r_bipush (pc := 21) (z := (-2)) (by decide +kernel) ⟨by decide, by decide⟩ ?_
      obtain rfl := Option.some.inj h
      exact r_ret (pc := 23) (r := some (0, (-2))) (by decide +kernel) rfl trivial (Nat.le_of_ble_eq_true rfl) (Nat.le_of_ble_eq_true rfl)

/-! TreeTongues$Net.setBack(LTreeTongues$Machine;I)V -/
noncomputable def L_Net_setBack_16 (k : Mem → Option (Mem)) (v0 : Int) (v1 : Int) (v2 : Int) : Nat → Int → Mem → Option (Mem)
  | 0 => fun _ _ => none
  | n + 1 => fun v3 M => (gf M v0 2 6 0).bind fun g18 => (gf M g18 5 3 1).bind fun g21 => if g21 ≤ v3 then (k  M) else ((gf M v0 2 6 0).bind fun g32 => (ck M g32 5 3).bind fun _ => (D_Signs_mapped g32 v2 v3 M).bind fun x37 => (ck x37.2 v0 2 6).bind fun _ => (D_Net_enter v0 v1 0 v3 x37.1 x37.2).bind fun x40 => L_Net_setBack_16 k v0 v1 v2 n (wr (v3 + 1)) x40)
noncomputable def D_Net_setBack (a0 a1 a2 : Int) (M : Mem) : Option (Mem) := (gf M a1 1 14 10).bind fun g2 => (gf M a1 1 14 11).bind fun g6 => (ck M a0 2 6).bind fun _ => (D_Net_begin a0 g2 g6 10 M).bind fun x11 => L_Net_setBack_16 (fun  m16 => some m16) a0 a1 a2 FU 0 x11
theorem sL_Net_setBack_16 {d mc ms : Nat} (hd : 5 ≤ d) {r : Mem} {k : Mem → Option (Mem)} {v0 : Int} {v1 : Int} {v2 : Int} (hk : ∀ (M : Mem), k M = some r → Rn Y_Net_setBack d mc ms 0 0 (none, r) 49 [] [] M) : ∀ (n : Nat) (v3 : Int) (M : Mem), L_Net_setBack_16 k v0 v1 v2 n v3 M = some r → Rn Y_Net_setBack d mc ms 0 0 (none, r) 16 [(0, (2, v0)), (1, (2, v1)), (2, (0, v2)), (3, (0, v3))] [] M := by
  intro n
  induction n with
  | zero => intro _ _ h; cases h
  | succ n ih =>
    intro v3 M h
    rw [L_Net_setBack_16] at h
    refine r_iload_n (pc := 16) 3 (n := 3) (by decide +kernel) rfl rfl ?_
    refine r_aload_n (pc := 17) 0 (n := 0) (by decide +kernel) rfl rfl ?_
    obtain ⟨g18, q18, h⟩ := bnd h
    refine r_get (pc := 18) (by decide +kernel) fl_Net_28.r (by decide) rfl q18 ?_
    obtain ⟨g21, q21, h⟩ := bnd h
    refine r_get (pc := 21) (by decide +kernel) fl_Net_70.r (by decide) rfl q21 ?_
    refine r_icmp_ge (pc := 24) (off := 25) (tgt := 49) (by decide +kernel) (by decide) (fun c24 => ?_) (fun c24 => ?_)
    · have h := ite_t c24 h
      refine r_lv [] rfl ?_
      exact hk  M h
    · have h := ite_f c24 h
      refine r_aload_n (pc := 27) 0 (n := 0) (by decide +kernel) rfl rfl ?_
      refine r_aload_n (pc := 28) 1 (n := 1) (by decide +kernel) rfl rfl ?_
      refine r_iconst (pc := 29) (z := 0) (by decide +kernel) ⟨by decide, by decide⟩ ?_
      refine r_iload_n (pc := 30) 3 (n := 3) (by decide +kernel) rfl rfl ?_
      refine r_aload_n (pc := 31) 0 (n := 0) (by decide +kernel) rfl rfl ?_
      obtain ⟨g32, q32, h⟩ := bnd h
      refine r_get (pc := 32) (by decide +kernel) fl_Net_28.r (by decide) rfl q32 ?_
      refine r_iload_n (pc := 35) 2 (n := 2) (by decide +kernel) rfl rfl ?_
      refine r_iload_n (pc := 36) 3 (n := 3) (by decide +kernel) rfl rfl ?_
      obtain ⟨_, q37c, h⟩ := bnd h
      obtain ⟨x37, q37, h⟩ := bnd h
      refine r_callV (pc := 37) (i := 81) (d2 := d - 1) (As := [(0, v2), (0, v3)]) (st := [(0, v3), (0, 0), (2, v1), (2, v0)]) (st1 := [(0, v3), (0, v2), (2, g32), (0, v3), (0, 0), (2, v1), (2, v0)]) (by decide +kernel) yk_Signs_mapped (by decide) rfl ⟨ml_Net_81, vk_Signs_mapped⟩ np_Signs_mapped rfl (by omega) q37c (c_Signs_mapped (d := d - 1) (by omega) q37) (Nat.le_of_ble_eq_true rfl) (Nat.le_of_ble_eq_true rfl) (Nat.le_of_ble_eq_true rfl) rfl ?_
      show Rn _ d _ _ 0 0 _ 40 [(0, (2, v0)), (1, (2, v1)), (2, (0, v2)), (3, (0, v3))] [(0, x37.1), (0, v3), (0, 0), (2, v1), (2, v0)] x37.2
      obtain ⟨_, q40c, h⟩ := bnd h
      obtain ⟨x40, q40, h⟩ := bnd h
      refine r_callV (pc := 40) (i := 76) (d2 := d - 1) (As := [(2, v1), (0, 0), (0, v3), (0, x37.1)]) (st := []) (st1 := [(0, x37.1), (0, v3), (0, 0), (2, v1), (2, v0)]) (by decide +kernel) yk_Net_enter (by decide) rfl ⟨ml_Net_76, vk_Net_enter⟩ np_Net_enter rfl (by omega) q40c (c_Net_enter (d := d - 1) (by omega) q40) (Nat.le_of_ble_eq_true rfl) (Nat.le_of_ble_eq_true rfl) (Nat.le_of_ble_eq_true rfl) rfl ?_
      show Rn _ d _ _ 0 0 _ 43 [(0, (2, v0)), (1, (2, v1)), (2, (0, v2)), (3, (0, v3))] [] x40
      refine r_iinc (pc := 43) 3 (n := 1) (lv' := [(3, (0, wr (v3 + 1))), (0, (2, v0)), (1, (2, v1)), (2, (0, v2))]) (by decide +kernel) rfl (Nat.le_of_ble_eq_true rfl) rfl ?_
      refine r_goto (pc := 46) (off := (-30)) (tgt := 16) (by decide +kernel) (by decide) ?_
      refine r_lv [1, 2, 3, 0] rfl ?_
      exact ih (wr (v3 + 1)) x40 h
theorem c_Net_setBack {d : Nat} (hd : 5 ≤ d) {a0 a1 a2 : Int} {M : Mem} {x : Mem} (h : D_Net_setBack a0 a1 a2 M = some x) : Ct d Y_Net_setBack [(2, a0), (2, a1), (0, a2)] M (none, x) 0 0 := by
  refine ct_of yk_Net_setBack (Nat.le_of_ble_eq_true rfl) ?_
  rw [D_Net_setBack] at h
  show Rn Y_Net_setBack d 0 0 0 0 (none, x) 0 [(0, (2, a0)), (1, (2, a1)), (2, (0, a2))] [] M
  refine r_aload_n (pc := 0) 0 (n := 0) (by decide +kernel) rfl rfl ?_
  refine r_aload_n (pc := 1) 1 (n := 1) (by decide +kernel) rfl rfl ?_
  obtain ⟨g2, q2, h⟩ := bnd h
  refine r_get (pc := 2) (by decide +kernel) fl_Net_44.r (by decide) rfl q2 ?_
  refine r_aload_n (pc := 5) 1 (n := 1) (by decide +kernel) rfl rfl ?_
  obtain ⟨g6, q6, h⟩ := bnd h
  refine r_get (pc := 6) (by decide +kernel) fl_Net_80.r (by decide) rfl q6 ?_
  refine r_bipush (pc := 9) (z := 10) (by decide +kernel) ⟨by decide, by decide⟩ ?_
  obtain ⟨_, q11c, h⟩ := bnd h
  obtain ⟨x11, q11, h⟩ := bnd h
  refine r_callV (pc := 11) (i := 66) (d2 := d - 1) (As := [(0, g2), (0, g6), (0, 10)]) (st := []) (st1 := [(0, 10), (0, g6), (0, g2), (2, a0)]) (by decide +kernel) yk_Net_begin (by decide) rfl ⟨ml_Net_66, vk_Net_begin⟩ np_Net_begin rfl (by omega) q11c (c_Net_begin (d := d - 1) (by omega) q11) (Nat.le_of_ble_eq_true rfl) (Nat.le_of_ble_eq_true rfl) (Nat.le_of_ble_eq_true rfl) rfl ?_
  show Rn _ d _ _ 0 0 _ 14 [(0, (2, a0)), (1, (2, a1)), (2, (0, a2))] [] x11
  refine r_iconst (pc := 14) (z := 0) (by decide +kernel) ⟨by decide, by decide⟩ ?_
  refine r_istore_n (pc := 15) (n := 3) (lv' := [(3, (0, 0)), (0, (2, a0)), (1, (2, a1)), (2, (0, a2))]) (by decide +kernel) rfl (Nat.le_of_ble_eq_true rfl) rfl ?_
  refine r_lv [1, 2, 3, 0] rfl ?_
  refine sL_Net_setBack_16 (by omega) ?_ _ _  _ h
  intro m16 h
  obtain rfl := Option.some.inj h
  exact r_ret (pc := 49) (r := none) (by decide +kernel) rfl trivial (Nat.le_of_ble_eq_true rfl) (Nat.le_of_ble_eq_true rfl)

/-! TreeTongues.back(II)I -/
noncomputable def D_T_back (a0 a1 a2 : Int) (M : Mem) : Option (Int × Mem) := (ck M a0 8 8).bind fun _ => (D_T_find a0 a1 M).bind fun x2 => if x2.1 < 0 then (some ((-2), x2.2)) else ((gf x2.2 a0 8 8 0).bind fun g11 => (ck x2.2 g11 5 3).bind fun _ => (D_Signs_isMap g11 a2 x2.2).bind fun x15 => if x15.1 = 0 then (some ((-2), x15.2)) else ((gf x15.2 a0 8 8 7).bind fun g25 => if g25 < 16 then ((ck x15.2 a0 8 8).bind fun _ => (D_T_isLarge a0 x2.1 x15.2).bind fun x38 => if x38.1 = 0 then ((gf x38.2 a0 8 8 3).bind fun g48 => (gf x38.2 x2.1 7 8 1).bind fun g52 => (ck x38.2 g48 2 6).bind fun _ => (D_Net_setBack g48 g52 a2 x38.2).bind fun x56 => (ck x56 a0 8 8).bind fun _ => (D_T_keep a0 x56).bind fun x60 => some (x60.1, x60.2)) else (some ((-5), x38.2))) else (some ((-4), x15.2))))
theorem c_T_back {d : Nat} (hd : 8 ≤ d) {a0 a1 a2 : Int} {M : Mem} {x : Int × Mem} (h : D_T_back a0 a1 a2 M = some x) : Ct d Y_T_back [(2, a0), (0, a1), (0, a2)] M (some (0, x.1), x.2) 12 676 := by
  refine ct_of yk_T_back (Nat.le_of_ble_eq_true rfl) ?_
  rw [D_T_back] at h
  show Rn Y_T_back d 12 676 0 0 (some (0, x.1), x.2) 0 [(0, (2, a0)), (1, (0, a1)), (2, (0, a2))] [] M
  refine r_aload_n (pc := 0) 0 (n := 0) (by decide +kernel) rfl rfl ?_
  refine r_iload_n (pc := 1) 1 (n := 1) (by decide +kernel) rfl rfl ?_
  obtain ⟨_, q2c, h⟩ := bnd h
  obtain ⟨x2, q2, h⟩ := bnd h
  refine r_callV (pc := 2) (i := 98) (d2 := d - 1) (As := [(0, a1)]) (st := []) (st1 := [(0, a1), (2, a0)]) (by decide +kernel) yk_T_find (by decide) rfl ⟨ml_T_98, vk_T_find⟩ np_T_find rfl (by omega) q2c (c_T_find (d := d - 1) (by omega) q2) (Nat.le_of_ble_eq_true rfl) (Nat.le_of_ble_eq_true rfl) (Nat.le_of_ble_eq_true rfl) rfl ?_
  show Rn _ d _ _ 0 0 _ 5 [(0, (2, a0)), (1, (0, a1)), (2, (0, a2))] [(2, x2.1)] x2.2
  refine r_astore_n (pc := 5) (n := 3) (lv' := [(3, (2, x2.1)), (0, (2, a0)), (1, (0, a1)), (2, (0, a2))]) (by decide +kernel) rfl (Nat.le_of_ble_eq_true rfl) rfl ?_
  refine r_aload_n (pc := 6) 0 (n := 3) (by decide +kernel) rfl rfl ?_
  refine r_ifnull (pc := 7) (off := 14) (tgt := 21) (by decide +kernel) (by decide) (fun c7 => ?_) (fun c7 => ?_)
  · have h := ite_t c7 h
    refine r_bipush (pc := 21) (z := (-2)) (by decide +kernel) ⟨by decide, by decide⟩ ?_
    obtain rfl := Option.some.inj h
    exact r_ret (pc := 23) (r := some (0, (-2))) (by decide +kernel) rfl trivial (Nat.le_of_ble_eq_true rfl) (Nat.le_of_ble_eq_true rfl)
  · have h := ite_f c7 h
    refine r_aload_n (pc := 10) 1 (n := 0) (by decide +kernel) rfl rfl ?_
    obtain ⟨g11, q11, h⟩ := bnd h
    refine r_get (pc := 11) (by decide +kernel) fl_T_12.r (by decide) rfl q11 ?_
    refine r_iload_n (pc := 14) 3 (n := 2) (by decide +kernel) rfl rfl ?_
    obtain ⟨_, q15c, h⟩ := bnd h
    obtain ⟨x15, q15, h⟩ := bnd h
    refine r_callV (pc := 15) (i := 144) (d2 := d - 1) (As := [(0, a2)]) (st := []) (st1 := [(0, a2), (2, g11)]) (by decide +kernel) yk_Signs_isMap (by decide) rfl ⟨ml_T_144, vk_Signs_isMap⟩ np_Signs_isMap rfl (by omega) q15c (c_Signs_isMap (d := d - 1) (by omega) q15) (Nat.le_of_ble_eq_true rfl) (Nat.le_of_ble_eq_true rfl) (Nat.le_of_ble_eq_true rfl) rfl ?_
    show Rn _ d _ _ 0 0 _ 18 [(3, (2, x2.1)), (0, (2, a0)), (1, (0, a1)), (2, (0, a2))] [(0, x15.1)] x15.2
    refine r_if_ne (pc := 18) (off := 6) (tgt := 24) (by decide +kernel) (by decide) (fun c18 => ?_) (fun c18 => ?_)
    · have h := ite_f c18 h
      refine r_aload_n (pc := 24) 1 (n := 0) (by decide +kernel) rfl rfl ?_
      obtain ⟨g25, q25, h⟩ := bnd h
      refine r_get (pc := 25) (by decide +kernel) fl_T_63.r (by decide) rfl q25 ?_
      refine r_bipush (pc := 28) (z := 16) (by decide +kernel) ⟨by decide, by decide⟩ ?_
      refine r_icmp_lt (pc := 30) (off := 6) (tgt := 36) (by decide +kernel) (by decide) (fun c30 => ?_) (fun c30 => ?_)
      · have h := ite_t c30 h
        refine r_aload_n (pc := 36) 1 (n := 0) (by decide +kernel) rfl rfl ?_
        refine r_aload_n (pc := 37) 0 (n := 3) (by decide +kernel) rfl rfl ?_
        obtain ⟨_, q38c, h⟩ := bnd h
        obtain ⟨x38, q38, h⟩ := bnd h
        refine r_callV (pc := 38) (i := 122) (d2 := d - 1) (As := [(2, x2.1)]) (st := []) (st1 := [(2, x2.1), (2, a0)]) (by decide +kernel) yk_T_isLarge (by decide) rfl ⟨ml_T_122, vk_T_isLarge⟩ np_T_isLarge rfl (by omega) q38c (c_T_isLarge (d := d - 1) (by omega) q38) (Nat.le_of_ble_eq_true rfl) (Nat.le_of_ble_eq_true rfl) (Nat.le_of_ble_eq_true rfl) rfl ?_
        show Rn _ d _ _ 0 0 _ 41 [(3, (2, x2.1)), (0, (2, a0)), (1, (0, a1)), (2, (0, a2))] [(0, x38.1)] x38.2
        refine r_if_eq (pc := 41) (off := 6) (tgt := 47) (by decide +kernel) (by decide) (fun c41 => ?_) (fun c41 => ?_)
        · have h := ite_t c41 h
          refine r_aload_n (pc := 47) 1 (n := 0) (by decide +kernel) rfl rfl ?_
          obtain ⟨g48, q48, h⟩ := bnd h
          refine r_get (pc := 48) (by decide +kernel) fl_T_34.r (by decide) rfl q48 ?_
          refine r_aload_n (pc := 51) 0 (n := 3) (by decide +kernel) rfl rfl ?_
          obtain ⟨g52, q52, h⟩ := bnd h
          refine r_get (pc := 52) (by decide +kernel) fl_T_126 (by decide) rfl q52 ?_
          refine r_iload_n (pc := 55) 3 (n := 2) (by decide +kernel) rfl rfl ?_
          obtain ⟨_, q56c, h⟩ := bnd h
          obtain ⟨x56, q56, h⟩ := bnd h
          refine r_callV (pc := 56) (i := 151) (d2 := d - 1) (As := [(2, g52), (0, a2)]) (st := []) (st1 := [(0, a2), (2, g52), (2, g48)]) (by decide +kernel) yk_Net_setBack (by decide) rfl ⟨ml_T_151, vk_Net_setBack⟩ np_Net_setBack rfl (by omega) q56c (c_Net_setBack (d := d - 1) (by omega) q56) (Nat.le_of_ble_eq_true rfl) (Nat.le_of_ble_eq_true rfl) (Nat.le_of_ble_eq_true rfl) rfl ?_
          show Rn _ d _ _ 0 0 _ 59 [(3, (2, x2.1)), (0, (2, a0)), (1, (0, a1)), (2, (0, a2))] [] x56
          refine r_aload_n (pc := 59) 1 (n := 0) (by decide +kernel) rfl rfl ?_
          obtain ⟨_, q60c, h⟩ := bnd h
          obtain ⟨x60, q60, h⟩ := bnd h
          refine r_callV (pc := 60) (i := 133) (d2 := d - 1) (As := []) (st := []) (st1 := [(2, a0)]) (by decide +kernel) yk_T_keep (by decide) rfl ⟨ml_T_133, vk_T_keep⟩ np_T_keep rfl (by omega) q60c (c_T_keep (d := d - 1) (by omega) q60) (Nat.le_of_ble_eq_true rfl) (Nat.le_of_ble_eq_true rfl) (Nat.le_of_ble_eq_true rfl) rfl ?_
          show Rn _ d _ _ 12 676 _ 63 [(3, (2, x2.1)), (0, (2, a0)), (1, (0, a1)), (2, (0, a2))] [(0, x60.1)] x60.2
          obtain rfl := Option.some.inj h
          exact r_ret (pc := 63) (r := some (0, x60.1)) (by decide +kernel) rfl trivial (Nat.le_of_ble_eq_true rfl) (Nat.le_of_ble_eq_true rfl)
        · have h := ite_f c41 h
          refine r_bipush (pc := 44) (z := (-5)) (by decide +kernel) ⟨by decide, by decide⟩ ?_
          obtain rfl := Option.some.inj h
          exact r_ret (pc := 46) (r := some (0, (-5))) (by decide +kernel) rfl trivial (Nat.le_of_ble_eq_true rfl) (Nat.le_of_ble_eq_true rfl)
      · have h := ite_f c30 h
        refine r_bipush (pc := 33) (z := (-4)) (by decide +kernel) ⟨by decide, by decide⟩ ?_
        obtain rfl := Option.some.inj h
        exact r_ret (pc := 35) (r := some (0, (-4))) (by decide +kernel) rfl trivial (Nat.le_of_ble_eq_true rfl) (Nat.le_of_ble_eq_true rfl)
    · have h := ite_t c18 h
      refine r_bipush (pc := 21) (z := (-2)) (by decide +kernel) ⟨by decide, by decide⟩ ?_
      obtain rfl := Option.some.inj h
      exact r_ret (pc := 23) (r := some (0, (-2))) (by decide +kernel) rfl trivial (Nat.le_of_ble_eq_true rfl) (Nat.le_of_ble_eq_true rfl)

/-! TreeTongues$Machine.listAbove()V -/
noncomputable def L_Machine_listAbove_47 (k : Mem → Option (Mem)) (v0 : Int) (v1 : Int) (v2 : Int) (v3 : Int) : Nat → Int → Mem → Option (Mem)
  | 0 => fun _ _ => none
  | n + 1 => fun v4 M => (gf M v0 1 14 0).bind fun g50 => (gf M v0 1 14 10).bind fun g56 => (ck M g50 5 3).bind fun _ => (D_Signs_choices g50 v1 1 g56 M).bind fun x59 => if x59.1 ≤ v4 then (k  x59.2) else ((ck x59.2 v0 1 14).bind fun _ => (D_Machine_step v0 v1 v3 v4 x59.2).bind fun x71 => lt (ishl 1 x71.1) fun u5_75 => (gf x71.2 v0 1 14 7).bind fun g78 => (rd x71.2 10 g78 v3).bind fun e83 => (wt x71.2 10 g78 v3 (ior e83 u5_75)).bind fun m87 => (gf m87 v0 1 14 7).bind fun g89 => (rd m87 10 g89 v4).bind fun e95 => (if v2 ≤ 1 then (some 0) else (some u5_75)).bind fun (t98 : Int) => (wt m87 10 g89 v4 (ior e95 t98)).bind fun m108 => L_Machine_listAbove_47 k v0 v1 v2 v3 n (wr (v4 + 1)) m108)
noncomputable def L_Machine_listAbove_32 (k : Mem → Option (Mem)) (v0 : Int) (v1 : Int) (v2 : Int) : Nat → Int → Mem → Option (Mem)
  | 0 => fun _ _ => none
  | n + 1 => fun v3 M => (if v2 ≤ 0 then (some 0) else ((gf M v0 1 14 10).bind fun g38 => if g38 ≤ v3 then (some 0) else (some 1))).bind fun (t33 : Int) => if t33 = 0 then (k  M) else (L_Machine_listAbove_47 (fun  m47 => L_Machine_listAbove_32 k v0 v1 v2 n (wr (v3 + 1)) m47) v0 v1 v2 v3 FU 0 M)
noncomputable def L_Machine_listAbove_10 (k : Mem → Option (Mem)) (v0 : Int) : Nat → Int → Mem → Option (Mem)
  | 0 => fun _ _ => none
  | n + 1 => fun v1 M => (gf M v0 1 14 0).bind fun g12 => (gf M g12 5 3 1).bind fun g15 => if g15 ≤ v1 then (k  M) else ((gf M v0 1 14 0).bind fun g22 => (ck M g22 5 3).bind fun _ => (D_Signs_rankOf g22 v1 M).bind fun x26 => L_Machine_listAbove_32 (fun  m32 => L_Machine_listAbove_10 k v0 n (wr (v1 + 1)) m32) v0 v1 x26.1 FU 0 x26.2)
noncomputable def D_Machine_listAbove (a0 : Int) (M : Mem) : Option (Mem) := (gf M a0 1 14 7).bind fun g1 => (D_Arr_fill_IIV g1 0 M).bind fun x5 => L_Machine_listAbove_10 (fun  m10 => some m10) a0 FU 0 x5
theorem sL_Machine_listAbove_47 {d mc ms : Nat} (hd : 4 ≤ d) {r : Mem} {k : Mem → Option (Mem)} {v0 : Int} {v1 : Int} {v2 : Int} {v3 : Int} (hk : ∀ (M : Mem), k M = some r → Rn Y_Machine_listAbove d mc ms 0 0 (none, r) 115 [(0, (2, v0)), (1, (0, v1)), (2, (0, v2)), (3, (0, v3))] [] M) : ∀ (n : Nat) (v4 : Int) (M : Mem), L_Machine_listAbove_47 k v0 v1 v2 v3 n v4 M = some r → Rn Y_Machine_listAbove d mc ms 0 0 (none, r) 47 [(0, (2, v0)), (1, (0, v1)), (2, (0, v2)), (3, (0, v3)), (4, (0, v4))] [] M := by
  intro n
  induction n with
  | zero => intro _ _ h; cases h
  | succ n ih =>
    intro v4 M h
    rw [L_Machine_listAbove_47] at h
    refine r_iload (pc := 47) 4 (by decide +kernel) rfl ?_
    refine r_aload_n (pc := 49) 0 (n := 0) (by decide +kernel) rfl rfl ?_
    obtain ⟨g50, q50, h⟩ := bnd h
    refine r_get (pc := 50) (by decide +kernel) fl_Machine_54.r (by decide) rfl q50 ?_
    refine r_iload_n (pc := 53) 1 (n := 1) (by decide +kernel) rfl rfl ?_
    refine r_iconst (pc := 54) (z := 1) (by decide +kernel) ⟨by decide, by decide⟩ ?_
    refine r_aload_n (pc := 55) 0 (n := 0) (by decide +kernel) rfl rfl ?_
    obtain ⟨g56, q56, h⟩ := bnd h
    refine r_get (pc := 56) (by decide +kernel) fl_Machine_40.r (by decide) rfl q56 ?_
    obtain ⟨_, q59c, h⟩ := bnd h
    obtain ⟨x59, q59, h⟩ := bnd h
    refine r_callV (pc := 59) (i := 84) (d2 := d - 1) (As := [(0, v1), (0, 1), (0, g56)]) (st := [(0, v4)]) (st1 := [(0, g56), (0, 1), (0, v1), (2, g50), (0, v4)]) (by decide +kernel) yk_Signs_choices (by decide) rfl ⟨ml_Machine_84, vk_Signs_choices⟩ np_Signs_choices rfl (by omega) q59c (c_Signs_choices (d := d - 1) (by omega) q59) (Nat.le_of_ble_eq_true rfl) (Nat.le_of_ble_eq_true rfl) (Nat.le_of_ble_eq_true rfl) rfl ?_
    show Rn _ d _ _ 0 0 _ 62 [(0, (2, v0)), (1, (0, v1)), (2, (0, v2)), (3, (0, v3)), (4, (0, v4))] [(0, x59.1), (0, v4)] x59.2
    refine r_icmp_ge (pc := 62) (off := 53) (tgt := 115) (by decide +kernel) (by decide) (fun c62 => ?_) (fun c62 => ?_)
    · have h := ite_t c62 h
      refine r_lv [0, 1, 2, 3] rfl ?_
      exact hk  x59.2 h
    · have h := ite_f c62 h
      refine r_iconst (pc := 65) (z := 1) (by decide +kernel) ⟨by decide, by decide⟩ ?_
      refine r_aload_n (pc := 66) 0 (n := 0) (by decide +kernel) rfl rfl ?_
      refine r_iload_n (pc := 67) 1 (n := 1) (by decide +kernel) rfl rfl ?_
      refine r_iload_n (pc := 68) 3 (n := 3) (by decide +kernel) rfl rfl ?_
      refine r_iload (pc := 69) 4 (by decide +kernel) rfl ?_
      obtain ⟨_, q71c, h⟩ := bnd h
      obtain ⟨x71, q71, h⟩ := bnd h
      refine r_callV (pc := 71) (i := 112) (d2 := d - 1) (As := [(0, v1), (0, v3), (0, v4)]) (st := [(0, 1)]) (st1 := [(0, v4), (0, v3), (0, v1), (2, v0), (0, 1)]) (by decide +kernel) yk_Machine_step (by decide) rfl ⟨ml_Machine_112, vk_Machine_step⟩ np_Machine_step rfl (by omega) q71c (c_Machine_step (d := d - 1) (by omega) q71) (Nat.le_of_ble_eq_true rfl) (Nat.le_of_ble_eq_true rfl) (Nat.le_of_ble_eq_true rfl) rfl ?_
      show Rn _ d _ _ 0 0 _ 74 [(0, (2, v0)), (1, (0, v1)), (2, (0, v2)), (3, (0, v3)), (4, (0, v4))] [(0, x71.1), (0, 1)] x71.2
      refine r_ishl (pc := 74) (by decide +kernel) ?_
      obtain ⟨u5_75, q75, h⟩ := lt_o h
      refine r_eq q75 ?_
      refine r_istore (pc := 75) (lv' := [(5, (0, u5_75)), (0, (2, v0)), (1, (0, v1)), (2, (0, v2)), (3, (0, v3)), (4, (0, v4))]) (by decide +kernel) (Nat.le_of_ble_eq_true rfl) rfl ?_
      refine r_aload_n (pc := 77) 1 (n := 0) (by decide +kernel) rfl rfl ?_
      obtain ⟨g78, q78, h⟩ := bnd h
      refine r_get (pc := 78) (by decide +kernel) fl_Machine_31.r (by decide) rfl q78 ?_
      refine r_iload_n (pc := 81) 4 (n := 3) (by decide +kernel) rfl rfl ?_
      refine r_dup2 (pc := 82) (by decide +kernel) rfl rfl ?_
      obtain ⟨e83, q83, h⟩ := bnd h
      refine r_iald (pc := 83) (by decide +kernel) q83 ?_
      refine r_iload (pc := 84) 0 (by decide +kernel) rfl ?_
      refine r_ior (pc := 86) (by decide +kernel) ?_
      obtain ⟨m87, q87, h⟩ := bnd h
      refine r_iast (pc := 87) (by decide +kernel) q87 ?_
      refine r_aload_n (pc := 88) 1 (n := 0) (by decide +kernel) rfl rfl ?_
      obtain ⟨g89, q89, h⟩ := bnd h
      refine r_get (pc := 89) (by decide +kernel) fl_Machine_31.r (by decide) rfl q89 ?_
      refine r_iload (pc := 92) 5 (by decide +kernel) rfl ?_
      refine r_dup2 (pc := 94) (by decide +kernel) rfl rfl ?_
      obtain ⟨e95, q95, h⟩ := bnd h
      refine r_iald (pc := 95) (by decide +kernel) q95 ?_
      refine r_iload_n (pc := 96) 3 (n := 2) (by decide +kernel) rfl rfl ?_
      refine r_iconst (pc := 97) (z := 1) (by decide +kernel) ⟨by decide, by decide⟩ ?_
      obtain ⟨t98, ht98, h⟩ := bnd h
      have E98_0 : Rn Y_Machine_listAbove d mc ms 0 0 (none, r) 107 [(0, (2, v0)), (1, (0, v1)), (2, (0, v2)), (3, (0, v3)), (4, (0, v4))] [(0, t98), (0, e95), (0, v4), (2, g89)] m87 := by
        refine r_ior (pc := 107) (by decide +kernel) ?_
        obtain ⟨m108, q108, h⟩ := bnd h
        refine r_iast (pc := 108) (by decide +kernel) q108 ?_
        refine r_iinc (pc := 109) 4 (n := 1) (lv' := [(4, (0, wr (v4 + 1))), (0, (2, v0)), (1, (0, v1)), (2, (0, v2)), (3, (0, v3))]) (by decide +kernel) rfl (Nat.le_of_ble_eq_true rfl) rfl ?_
        refine r_goto (pc := 112) (off := (-65)) (tgt := 47) (by decide +kernel) (by decide) ?_
        refine r_lv [1, 2, 3, 4, 0] rfl ?_
        exact ih (wr (v4 + 1)) m108 h
      refine r_icmp_le (pc := 98) (off := 8) (tgt := 106) (by decide +kernel) (by decide) (fun c98 => ?_) (fun c98 => ?_)
      · have ht98 := ite_t c98 ht98
        refine r_iconst (pc := 106) (z := 0) (by decide +kernel) ⟨by decide, by decide⟩ ?_
        obtain rfl := Option.some.inj ht98
        refine r_lv [1, 2, 3, 4, 5] rfl ?_
        exact E98_0
      · have ht98 := ite_f c98 ht98
        refine r_iload (pc := 101) 0 (by decide +kernel) rfl ?_
        refine r_goto (pc := 103) (off := 4) (tgt := 107) (by decide +kernel) (by decide) ?_
        obtain rfl := Option.some.inj ht98
        refine r_lv [1, 2, 3, 4, 5] rfl ?_
        exact E98_0
theorem sL_Machine_listAbove_32 {d mc ms : Nat} (hd : 4 ≤ d) {r : Mem} {k : Mem → Option (Mem)} {v0 : Int} {v1 : Int} {v2 : Int} (hk : ∀ (M : Mem), k M = some r → Rn Y_Machine_listAbove d mc ms 0 0 (none, r) 121 [(0, (2, v0)), (1, (0, v1))] [] M) : ∀ (n : Nat) (v3 : Int) (M : Mem), L_Machine_listAbove_32 k v0 v1 v2 n v3 M = some r → Rn Y_Machine_listAbove d mc ms 0 0 (none, r) 32 [(0, (2, v0)), (1, (0, v1)), (2, (0, v2)), (3, (0, v3))] [] M := by
  intro n
  induction n with
  | zero => intro _ _ h; cases h
  | succ n ih =>
    intro v3 M h
    rw [L_Machine_listAbove_32] at h
    refine r_iload_n (pc := 32) 2 (n := 2) (by decide +kernel) rfl rfl ?_
    obtain ⟨t33, ht33, h⟩ := bnd h
    have E33_0 : t33 = 0 → Rn Y_Machine_listAbove d mc ms 0 0 (none, r) 121 [(0, (2, v0)), (1, (0, v1))] [] M := by
      intro y0
      have h := ite_t y0 h
      exact hk  M h
    have E33_1 : ¬ t33 = 0 → Rn Y_Machine_listAbove d mc ms 0 0 (none, r) 44 [(0, (2, v0)), (1, (0, v1)), (2, (0, v2)), (3, (0, v3))] [] M := by
      intro n0
      have h := ite_f n0 h
      refine r_iconst (pc := 44) (z := 0) (by decide +kernel) ⟨by decide, by decide⟩ ?_
      refine r_istore (pc := 45) (lv' := [(4, (0, 0)), (0, (2, v0)), (1, (0, v1)), (2, (0, v2)), (3, (0, v3))]) (by decide +kernel) (Nat.le_of_ble_eq_true rfl) rfl ?_
      refine r_lv [1, 2, 3, 4, 0] rfl ?_
      refine sL_Machine_listAbove_47 (by omega) ?_ _ _  _ h
      intro m47 h
      refine r_iinc (pc := 115) 3 (n := 1) (lv' := [(3, (0, wr (v3 + 1))), (0, (2, v0)), (1, (0, v1)), (2, (0, v2))]) (by decide +kernel) rfl (Nat.le_of_ble_eq_true rfl) rfl ?_
      refine r_goto (pc := 118) (off := (-86)) (tgt := 32) (by decide +kernel) (by decide) ?_
      refine r_lv [1, 2, 3, 0] rfl ?_
      exact ih (wr (v3 + 1)) m47 h
    refine r_if_le (pc := 33) (off := 88) (tgt := 121) (by decide +kernel) (by decide) (fun c33 => ?_) (fun c33 => ?_)
    · have ht33 := ite_t c33 ht33
      obtain rfl := Option.some.inj ht33
      refine r_lv [0, 1] rfl ?_
      exact E33_0 rfl
    · have ht33 := ite_f c33 ht33
      refine r_iload_n (pc := 36) 3 (n := 3) (by decide +kernel) rfl rfl ?_
      refine r_aload_n (pc := 37) 0 (n := 0) (by decide +kernel) rfl rfl ?_
      obtain ⟨g38, q38, ht33⟩ := bnd ht33
      refine r_get (pc := 38) (by decide +kernel) fl_Machine_40.r (by decide) rfl q38 ?_
      refine r_icmp_ge (pc := 41) (off := 80) (tgt := 121) (by decide +kernel) (by decide) (fun c41 => ?_) (fun c41 => ?_)
      · have ht33 := ite_t c41 ht33
        obtain rfl := Option.some.inj ht33
        refine r_lv [0, 1] rfl ?_
        exact E33_0 rfl
      · have ht33 := ite_f c41 ht33
        obtain rfl := Option.some.inj ht33
        exact E33_1 (show ¬ (1 : Int) = 0 by decide)
theorem sL_Machine_listAbove_10 {d mc ms : Nat} (hd : 4 ≤ d) {r : Mem} {k : Mem → Option (Mem)} {v0 : Int} (hk : ∀ (M : Mem), k M = some r → Rn Y_Machine_listAbove d mc ms 0 0 (none, r) 127 [] [] M) : ∀ (n : Nat) (v1 : Int) (M : Mem), L_Machine_listAbove_10 k v0 n v1 M = some r → Rn Y_Machine_listAbove d mc ms 0 0 (none, r) 10 [(0, (2, v0)), (1, (0, v1))] [] M := by
  intro n
  induction n with
  | zero => intro _ _ h; cases h
  | succ n ih =>
    intro v1 M h
    rw [L_Machine_listAbove_10] at h
    refine r_iload_n (pc := 10) 1 (n := 1) (by decide +kernel) rfl rfl ?_
    refine r_aload_n (pc := 11) 0 (n := 0) (by decide +kernel) rfl rfl ?_
    obtain ⟨g12, q12, h⟩ := bnd h
    refine r_get (pc := 12) (by decide +kernel) fl_Machine_54.r (by decide) rfl q12 ?_
    obtain ⟨g15, q15, h⟩ := bnd h
    refine r_get (pc := 15) (by decide +kernel) fl_Machine_81.r (by decide) rfl q15 ?_
    refine r_icmp_ge (pc := 18) (off := 109) (tgt := 127) (by decide +kernel) (by decide) (fun c18 => ?_) (fun c18 => ?_)
    · have h := ite_t c18 h
      refine r_lv [] rfl ?_
      exact hk  M h
    · have h := ite_f c18 h
      refine r_aload_n (pc := 21) 0 (n := 0) (by decide +kernel) rfl rfl ?_
      obtain ⟨g22, q22, h⟩ := bnd h
      refine r_get (pc := 22) (by decide +kernel) fl_Machine_54.r (by decide) rfl q22 ?_
      refine r_iload_n (pc := 25) 1 (n := 1) (by decide +kernel) rfl rfl ?_
      obtain ⟨_, q26c, h⟩ := bnd h
      obtain ⟨x26, q26, h⟩ := bnd h
      refine r_callV (pc := 26) (i := 101) (d2 := d - 1) (As := [(0, v1)]) (st := []) (st1 := [(0, v1), (2, g22)]) (by decide +kernel) yk_Signs_rankOf (by decide) rfl ⟨ml_Machine_101, vk_Signs_rankOf⟩ np_Signs_rankOf rfl (by omega) q26c (c_Signs_rankOf (d := d - 1) (by omega) q26) (Nat.le_of_ble_eq_true rfl) (Nat.le_of_ble_eq_true rfl) (Nat.le_of_ble_eq_true rfl) rfl ?_
      show Rn _ d _ _ 0 0 _ 29 [(0, (2, v0)), (1, (0, v1))] [(0, x26.1)] x26.2
      refine r_istore_n (pc := 29) (n := 2) (lv' := [(2, (0, x26.1)), (0, (2, v0)), (1, (0, v1))]) (by decide +kernel) rfl (Nat.le_of_ble_eq_true rfl) rfl ?_
      refine r_iconst (pc := 30) (z := 0) (by decide +kernel) ⟨by decide, by decide⟩ ?_
      refine r_istore_n (pc := 31) (n := 3) (lv' := [(3, (0, 0)), (2, (0, x26.1)), (0, (2, v0)), (1, (0, v1))]) (by decide +kernel) rfl (Nat.le_of_ble_eq_true rfl) rfl ?_
      refine r_lv [2, 3, 1, 0] rfl ?_
      refine sL_Machine_listAbove_32 (by omega) ?_ _ _  _ h
      intro m32 h
      refine r_iinc (pc := 121) 1 (n := 1) (lv' := [(1, (0, wr (v1 + 1))), (0, (2, v0))]) (by decide +kernel) rfl (Nat.le_of_ble_eq_true rfl) rfl ?_
      refine r_goto (pc := 124) (off := (-114)) (tgt := 10) (by decide +kernel) (by decide) ?_
      refine r_lv [1, 0] rfl ?_
      exact ih (wr (v1 + 1)) m32 h
theorem c_Machine_listAbove {d : Nat} (hd : 4 ≤ d) {a0 : Int} {M : Mem} {x : Mem} (h : D_Machine_listAbove a0 M = some x) : Ct d Y_Machine_listAbove [(2, a0)] M (none, x) 0 0 := by
  refine ct_of yk_Machine_listAbove (Nat.le_of_ble_eq_true rfl) ?_
  rw [D_Machine_listAbove] at h
  show Rn Y_Machine_listAbove d 0 0 0 0 (none, x) 0 [(0, (2, a0))] [] M
  refine r_aload_n (pc := 0) 0 (n := 0) (by decide +kernel) rfl rfl ?_
  obtain ⟨g1, q1, h⟩ := bnd h
  refine r_get (pc := 1) (by decide +kernel) fl_Machine_31.r (by decide) rfl q1 ?_
  refine r_iconst (pc := 4) (z := 0) (by decide +kernel) ⟨by decide, by decide⟩ ?_
  obtain ⟨x5, q5, h⟩ := bnd h
  refine r_callS (pc := 5) (i := 67) (d2 := d - 1) (As := [(2, g1), (0, 0)]) (st := []) (st1 := [(0, 0), (2, g1)]) (by decide +kernel) yk_Arr_fill_IIV ⟨ml_Machine_67, sk_Arr_fill_IIV⟩ np_Arr_fill_IIV rfl (by omega) (c_Arr_fill_IIV (d := d - 1) (by omega) q5) (Nat.le_of_ble_eq_true rfl) (Nat.le_of_ble_eq_true rfl) (Nat.le_of_ble_eq_true rfl) rfl ?_
  show Rn _ d _ _ 0 0 _ 8 [(0, (2, a0))] [] x5
  refine r_iconst (pc := 8) (z := 0) (by decide +kernel) ⟨by decide, by decide⟩ ?_
  refine r_istore_n (pc := 9) (n := 1) (lv' := [(1, (0, 0)), (0, (2, a0))]) (by decide +kernel) rfl (Nat.le_of_ble_eq_true rfl) rfl ?_
  refine r_lv [1, 0] rfl ?_
  refine sL_Machine_listAbove_10 (by omega) ?_ _ _  _ h
  intro m10 h
  obtain rfl := Option.some.inj h
  exact r_ret (pc := 127) (r := none) (by decide +kernel) rfl trivial (Nat.le_of_ble_eq_true rfl) (Nat.le_of_ble_eq_true rfl)

/-! TreeTongues$Machine.living()I -/
noncomputable def L_Machine_living_21 (k : Int → Mem → Option (Int × Mem)) (v0 : Int) (v2 : Int) : Nat → Int → Int → Mem → Option (Int × Mem)
  | 0 => fun _ _ _ => none
  | n + 1 => fun v1 v3 M => (gf M v0 1 14 10).bind fun g23 => if g23 ≤ v3 then (k v1 M) else ((gf M v0 1 14 7).bind fun g30 => (rd M 10 g30 v3).bind fun e34 => (if (iand e34 v1) = 0 then (some v1) else (lt (ior v1 (ishl 1 v3)) fun u1_45 => some u1_45)).bind fun (t37 : Int) => L_Machine_living_21 k v0 v2 n t37 (wr (v3 + 1)) M)
noncomputable def L_Machine_living_11 (k : Int → Mem → Option (Int × Mem)) (v0 : Int) : Nat → Int → Int → Mem → Option (Int × Mem)
  | 0 => fun _ _ _ => none
  | n + 1 => fun v1 v2 M => (gf M v0 1 14 10).bind fun g13 => if g13 ≤ v2 then (k v1 M) else (L_Machine_living_21 (fun w1_21 m21 => L_Machine_living_11 k v0 n w1_21 (wr (v2 + 1)) m21) v0 v2 FU v1 0 M)
noncomputable def D_Machine_living (a0 : Int) (M : Mem) : Option (Int × Mem) := (gf M a0 1 14 11).bind fun g1 => (ck M a0 1 14).bind fun _ => (D_Machine_listAbove a0 M).bind fun x6 => L_Machine_living_11 (fun w1_11 m11 => some (w1_11, m11)) a0 FU g1 0 x6
theorem sL_Machine_living_21 {d mc ms : Nat} (hd : 5 ≤ d) {r : Int × Mem} {k : Int → Mem → Option (Int × Mem)} {v0 : Int} {v2 : Int} (hk : ∀ (v1 : Int) (M : Mem), k v1 M = some r → Rn Y_Machine_living d mc ms 0 0 (some (0, r.1), r.2) 52 [(0, (2, v0)), (1, (0, v1)), (2, (0, v2))] [] M) : ∀ (n : Nat) (v1 : Int) (v3 : Int) (M : Mem), L_Machine_living_21 k v0 v2 n v1 v3 M = some r → Rn Y_Machine_living d mc ms 0 0 (some (0, r.1), r.2) 21 [(0, (2, v0)), (1, (0, v1)), (2, (0, v2)), (3, (0, v3))] [] M := by
  intro n
  induction n with
  | zero => intro _ _ _ h; cases h
  | succ n ih =>
    intro v1 v3 M h
    rw [L_Machine_living_21] at h
    refine r_iload_n (pc := 21) 3 (n := 3) (by decide +kernel) rfl rfl ?_
    refine r_aload_n (pc := 22) 0 (n := 0) (by decide +kernel) rfl rfl ?_
    obtain ⟨g23, q23, h⟩ := bnd h
    refine r_get (pc := 23) (by decide +kernel) fl_Machine_40.r (by decide) rfl q23 ?_
    refine r_icmp_ge (pc := 26) (off := 26) (tgt := 52) (by decide +kernel) (by decide) (fun c26 => ?_) (fun c26 => ?_)
    · have h := ite_t c26 h
      refine r_lv [0, 1, 2] rfl ?_
      exact hk v1 M h
    · have h := ite_f c26 h
      refine r_aload_n (pc := 29) 0 (n := 0) (by decide +kernel) rfl rfl ?_
      obtain ⟨g30, q30, h⟩ := bnd h
      refine r_get (pc := 30) (by decide +kernel) fl_Machine_31.r (by decide) rfl q30 ?_
      refine r_iload_n (pc := 33) 3 (n := 3) (by decide +kernel) rfl rfl ?_
      obtain ⟨e34, q34, h⟩ := bnd h
      refine r_iald (pc := 34) (by decide +kernel) q34 ?_
      refine r_iload_n (pc := 35) 1 (n := 1) (by decide +kernel) rfl rfl ?_
      refine r_iand (pc := 36) (by decide +kernel) ?_
      obtain ⟨t37, ht37, h⟩ := bnd h
      have E37_0 : Rn Y_Machine_living d mc ms 0 0 (some (0, r.1), r.2) 46 [(0, (2, v0)), (1, (0, t37)), (2, (0, v2)), (3, (0, v3))] [] M := by
        refine r_iinc (pc := 46) 3 (n := 1) (lv' := [(3, (0, wr (v3 + 1))), (0, (2, v0)), (1, (0, t37)), (2, (0, v2))]) (by decide +kernel) rfl (Nat.le_of_ble_eq_true rfl) rfl ?_
        refine r_goto (pc := 49) (off := (-28)) (tgt := 21) (by decide +kernel) (by decide) ?_
        refine r_lv [1, 2, 3, 0] rfl ?_
        exact ih t37 (wr (v3 + 1)) M h
      refine r_if_eq (pc := 37) (off := 9) (tgt := 46) (by decide +kernel) (by decide) (fun c37 => ?_) (fun c37 => ?_)
      · have ht37 := ite_t c37 ht37
        obtain rfl := Option.some.inj ht37
        exact E37_0
      · have ht37 := ite_f c37 ht37
        refine r_iload_n (pc := 40) 1 (n := 1) (by decide +kernel) rfl rfl ?_
        refine r_iconst (pc := 41) (z := 1) (by decide +kernel) ⟨by decide, by decide⟩ ?_
        refine r_iload_n (pc := 42) 3 (n := 3) (by decide +kernel) rfl rfl ?_
        refine r_ishl (pc := 43) (by decide +kernel) ?_
        refine r_ior (pc := 44) (by decide +kernel) ?_
        obtain ⟨u1_45, q45, ht37⟩ := lt_o ht37
        refine r_eq q45 ?_
        refine r_istore_n (pc := 45) (n := 1) (lv' := [(1, (0, u1_45)), (0, (2, v0)), (2, (0, v2)), (3, (0, v3))]) (by decide +kernel) rfl (Nat.le_of_ble_eq_true rfl) rfl ?_
        obtain rfl := Option.some.inj ht37
        refine r_lv [1, 0, 2, 3] rfl ?_
        exact E37_0
theorem sL_Machine_living_11 {d mc ms : Nat} (hd : 5 ≤ d) {r : Int × Mem} {k : Int → Mem → Option (Int × Mem)} {v0 : Int} (hk : ∀ (v1 : Int) (M : Mem), k v1 M = some r → Rn Y_Machine_living d mc ms 0 0 (some (0, r.1), r.2) 58 [(1, (0, v1))] [] M) : ∀ (n : Nat) (v1 : Int) (v2 : Int) (M : Mem), L_Machine_living_11 k v0 n v1 v2 M = some r → Rn Y_Machine_living d mc ms 0 0 (some (0, r.1), r.2) 11 [(0, (2, v0)), (1, (0, v1)), (2, (0, v2))] [] M := by
  intro n
  induction n with
  | zero => intro _ _ _ h; cases h
  | succ n ih =>
    intro v1 v2 M h
    rw [L_Machine_living_11] at h
    refine r_iload_n (pc := 11) 2 (n := 2) (by decide +kernel) rfl rfl ?_
    refine r_aload_n (pc := 12) 0 (n := 0) (by decide +kernel) rfl rfl ?_
    obtain ⟨g13, q13, h⟩ := bnd h
    refine r_get (pc := 13) (by decide +kernel) fl_Machine_40.r (by decide) rfl q13 ?_
    refine r_icmp_ge (pc := 16) (off := 42) (tgt := 58) (by decide +kernel) (by decide) (fun c16 => ?_) (fun c16 => ?_)
    · have h := ite_t c16 h
      refine r_lv [1] rfl ?_
      exact hk v1 M h
    · have h := ite_f c16 h
      refine r_iconst (pc := 19) (z := 0) (by decide +kernel) ⟨by decide, by decide⟩ ?_
      refine r_istore_n (pc := 20) (n := 3) (lv' := [(3, (0, 0)), (0, (2, v0)), (1, (0, v1)), (2, (0, v2))]) (by decide +kernel) rfl (Nat.le_of_ble_eq_true rfl) rfl ?_
      refine r_lv [1, 2, 3, 0] rfl ?_
      refine sL_Machine_living_21 (by omega) ?_ _ _ _  _ h
      intro w1_21 m21 h
      refine r_iinc (pc := 52) 2 (n := 1) (lv' := [(2, (0, wr (v2 + 1))), (0, (2, v0)), (1, (0, w1_21))]) (by decide +kernel) rfl (Nat.le_of_ble_eq_true rfl) rfl ?_
      refine r_goto (pc := 55) (off := (-44)) (tgt := 11) (by decide +kernel) (by decide) ?_
      refine r_lv [1, 2, 0] rfl ?_
      exact ih w1_21 (wr (v2 + 1)) m21 h
theorem c_Machine_living {d : Nat} (hd : 5 ≤ d) {a0 : Int} {M : Mem} {x : Int × Mem} (h : D_Machine_living a0 M = some x) : Ct d Y_Machine_living [(2, a0)] M (some (0, x.1), x.2) 0 0 := by
  refine ct_of yk_Machine_living (Nat.le_of_ble_eq_true rfl) ?_
  rw [D_Machine_living] at h
  show Rn Y_Machine_living d 0 0 0 0 (some (0, x.1), x.2) 0 [(0, (2, a0))] [] M
  refine r_aload_n (pc := 0) 0 (n := 0) (by decide +kernel) rfl rfl ?_
  obtain ⟨g1, q1, h⟩ := bnd h
  refine r_get (pc := 1) (by decide +kernel) fl_Machine_44.r (by decide) rfl q1 ?_
  refine r_istore_n (pc := 4) (n := 1) (lv' := [(1, (0, g1)), (0, (2, a0))]) (by decide +kernel) rfl (Nat.le_of_ble_eq_true rfl) rfl ?_
  refine r_aload_n (pc := 5) 1 (n := 0) (by decide +kernel) rfl rfl ?_
  obtain ⟨_, q6c, h⟩ := bnd h
  obtain ⟨x6, q6, h⟩ := bnd h
  refine r_callV (pc := 6) (i := 105) (d2 := d - 1) (As := []) (st := []) (st1 := [(2, a0)]) (by decide +kernel) yk_Machine_listAbove (by decide) rfl ⟨ml_Machine_105, vk_Machine_listAbove⟩ np_Machine_listAbove rfl (by omega) q6c (c_Machine_listAbove (d := d - 1) (by omega) q6) (Nat.le_of_ble_eq_true rfl) (Nat.le_of_ble_eq_true rfl) (Nat.le_of_ble_eq_true rfl) rfl ?_
  show Rn _ d _ _ 0 0 _ 9 [(1, (0, g1)), (0, (2, a0))] [] x6
  refine r_iconst (pc := 9) (z := 0) (by decide +kernel) ⟨by decide, by decide⟩ ?_
  refine r_istore_n (pc := 10) (n := 2) (lv' := [(2, (0, 0)), (1, (0, g1)), (0, (2, a0))]) (by decide +kernel) rfl (Nat.le_of_ble_eq_true rfl) rfl ?_
  refine r_lv [2, 1, 0] rfl ?_
  refine sL_Machine_living_11 (by omega) ?_ _ _ _  _ h
  intro w1_11 m11 h
  refine r_iload_n (pc := 58) 0 (n := 1) (by decide +kernel) rfl rfl ?_
  obtain rfl := Option.some.inj h
  exact r_ret (pc := 59) (r := some (0, w1_11)) (by decide +kernel) rfl trivial (Nat.le_of_ble_eq_true rfl) (Nat.le_of_ble_eq_true rfl)

/-! TreeTongues.parts(I)I -/
noncomputable def D_T_parts (a0 a1 : Int) (M : Mem) : Option (Int × Mem) := (ck M a0 8 8).bind fun _ => (D_T_find a0 a1 M).bind fun x2 => if x2.1 < 0 then (some ((-2), x2.2)) else ((gf x2.2 a0 8 8 7).bind fun g14 => if g14 < 16 then ((ck x2.2 a0 8 8).bind fun _ => (D_T_isLarge a0 x2.1 x2.2).bind fun x27 => if x27.1 = 0 then ((gf x27.2 a0 8 8 3).bind fun g37 => (gf x27.2 x2.1 7 8 1).bind fun g41 => (gf x27.2 x2.1 7 8 1).bind fun g45 => (ck x27.2 g45 1 14).bind fun _ => (D_Machine_living g45 x27.2).bind fun x48 => (ck x48.2 g37 2 6).bind fun _ => (D_Net_setOne g37 g41 x48.1 10 x48.2).bind fun x53 => (ck x53 a0 8 8).bind fun _ => (D_T_keep a0 x53).bind fun x57 => some (x57.1, x57.2)) else (some ((-5), x27.2))) else (some ((-4), x2.2)))
theorem c_T_parts {d : Nat} (hd : 8 ≤ d) {a0 a1 : Int} {M : Mem} {x : Int × Mem} (h : D_T_parts a0 a1 M = some x) : Ct d Y_T_parts [(2, a0), (0, a1)] M (some (0, x.1), x.2) 12 676 := by
  refine ct_of yk_T_parts (Nat.le_of_ble_eq_true rfl) ?_
  rw [D_T_parts] at h
  show Rn Y_T_parts d 12 676 0 0 (some (0, x.1), x.2) 0 [(0, (2, a0)), (1, (0, a1))] [] M
  refine r_aload_n (pc := 0) 0 (n := 0) (by decide +kernel) rfl rfl ?_
  refine r_iload_n (pc := 1) 1 (n := 1) (by decide +kernel) rfl rfl ?_
  obtain ⟨_, q2c, h⟩ := bnd h
  obtain ⟨x2, q2, h⟩ := bnd h
  refine r_callV (pc := 2) (i := 98) (d2 := d - 1) (As := [(0, a1)]) (st := []) (st1 := [(0, a1), (2, a0)]) (by decide +kernel) yk_T_find (by decide) rfl ⟨ml_T_98, vk_T_find⟩ np_T_find rfl (by omega) q2c (c_T_find (d := d - 1) (by omega) q2) (Nat.le_of_ble_eq_true rfl) (Nat.le_of_ble_eq_true rfl) (Nat.le_of_ble_eq_true rfl) rfl ?_
  show Rn _ d _ _ 0 0 _ 5 [(0, (2, a0)), (1, (0, a1))] [(2, x2.1)] x2.2
  refine r_astore_n (pc := 5) (n := 2) (lv' := [(2, (2, x2.1)), (0, (2, a0)), (1, (0, a1))]) (by decide +kernel) rfl (Nat.le_of_ble_eq_true rfl) rfl ?_
  refine r_aload_n (pc := 6) 0 (n := 2) (by decide +kernel) rfl rfl ?_
  refine r_ifnonnull (pc := 7) (off := 6) (tgt := 13) (by decide +kernel) (by decide) (fun c7 => ?_) (fun c7 => ?_)
  · have h := ite_f c7 h
    refine r_aload_n (pc := 13) 1 (n := 0) (by decide +kernel) rfl rfl ?_
    obtain ⟨g14, q14, h⟩ := bnd h
    refine r_get (pc := 14) (by decide +kernel) fl_T_63.r (by decide) rfl q14 ?_
    refine r_bipush (pc := 17) (z := 16) (by decide +kernel) ⟨by decide, by decide⟩ ?_
    refine r_icmp_lt (pc := 19) (off := 6) (tgt := 25) (by decide +kernel) (by decide) (fun c19 => ?_) (fun c19 => ?_)
    · have h := ite_t c19 h
      refine r_aload_n (pc := 25) 1 (n := 0) (by decide +kernel) rfl rfl ?_
      refine r_aload_n (pc := 26) 0 (n := 2) (by decide +kernel) rfl rfl ?_
      obtain ⟨_, q27c, h⟩ := bnd h
      obtain ⟨x27, q27, h⟩ := bnd h
      refine r_callV (pc := 27) (i := 122) (d2 := d - 1) (As := [(2, x2.1)]) (st := []) (st1 := [(2, x2.1), (2, a0)]) (by decide +kernel) yk_T_isLarge (by decide) rfl ⟨ml_T_122, vk_T_isLarge⟩ np_T_isLarge rfl (by omega) q27c (c_T_isLarge (d := d - 1) (by omega) q27) (Nat.le_of_ble_eq_true rfl) (Nat.le_of_ble_eq_true rfl) (Nat.le_of_ble_eq_true rfl) rfl ?_
      show Rn _ d _ _ 0 0 _ 30 [(2, (2, x2.1)), (0, (2, a0)), (1, (0, a1))] [(0, x27.1)] x27.2
      refine r_if_eq (pc := 30) (off := 6) (tgt := 36) (by decide +kernel) (by decide) (fun c30 => ?_) (fun c30 => ?_)
      · have h := ite_t c30 h
        refine r_aload_n (pc := 36) 1 (n := 0) (by decide +kernel) rfl rfl ?_
        obtain ⟨g37, q37, h⟩ := bnd h
        refine r_get (pc := 37) (by decide +kernel) fl_T_34.r (by decide) rfl q37 ?_
        refine r_aload_n (pc := 40) 0 (n := 2) (by decide +kernel) rfl rfl ?_
        obtain ⟨g41, q41, h⟩ := bnd h
        refine r_get (pc := 41) (by decide +kernel) fl_T_126 (by decide) rfl q41 ?_
        refine r_aload_n (pc := 44) 0 (n := 2) (by decide +kernel) rfl rfl ?_
        obtain ⟨g45, q45, h⟩ := bnd h
        refine r_get (pc := 45) (by decide +kernel) fl_T_126 (by decide) rfl q45 ?_
        obtain ⟨_, q48c, h⟩ := bnd h
        obtain ⟨x48, q48, h⟩ := bnd h
        refine r_callV (pc := 48) (i := 154) (d2 := d - 1) (As := []) (st := [(2, g41), (2, g37)]) (st1 := [(2, g45), (2, g41), (2, g37)]) (by decide +kernel) yk_Machine_living (by decide) rfl ⟨ml_T_154, vk_Machine_living⟩ np_Machine_living rfl (by omega) q48c (c_Machine_living (d := d - 1) (by omega) q48) (Nat.le_of_ble_eq_true rfl) (Nat.le_of_ble_eq_true rfl) (Nat.le_of_ble_eq_true rfl) rfl ?_
        show Rn _ d _ _ 0 0 _ 51 [(2, (2, x2.1)), (0, (2, a0)), (1, (0, a1))] [(0, x48.1), (2, g41), (2, g37)] x48.2
        refine r_bipush (pc := 51) (z := 10) (by decide +kernel) ⟨by decide, by decide⟩ ?_
        obtain ⟨_, q53c, h⟩ := bnd h
        obtain ⟨x53, q53, h⟩ := bnd h
        refine r_callV (pc := 53) (i := 140) (d2 := d - 1) (As := [(2, g41), (0, x48.1), (0, 10)]) (st := []) (st1 := [(0, 10), (0, x48.1), (2, g41), (2, g37)]) (by decide +kernel) yk_Net_setOne (by decide) rfl ⟨ml_T_140, vk_Net_setOne⟩ np_Net_setOne rfl (by omega) q53c (c_Net_setOne (d := d - 1) (by omega) q53) (Nat.le_of_ble_eq_true rfl) (Nat.le_of_ble_eq_true rfl) (Nat.le_of_ble_eq_true rfl) rfl ?_
        show Rn _ d _ _ 0 0 _ 56 [(2, (2, x2.1)), (0, (2, a0)), (1, (0, a1))] [] x53
        refine r_aload_n (pc := 56) 1 (n := 0) (by decide +kernel) rfl rfl ?_
        obtain ⟨_, q57c, h⟩ := bnd h
        obtain ⟨x57, q57, h⟩ := bnd h
        refine r_callV (pc := 57) (i := 133) (d2 := d - 1) (As := []) (st := []) (st1 := [(2, a0)]) (by decide +kernel) yk_T_keep (by decide) rfl ⟨ml_T_133, vk_T_keep⟩ np_T_keep rfl (by omega) q57c (c_T_keep (d := d - 1) (by omega) q57) (Nat.le_of_ble_eq_true rfl) (Nat.le_of_ble_eq_true rfl) (Nat.le_of_ble_eq_true rfl) rfl ?_
        show Rn _ d _ _ 12 676 _ 60 [(2, (2, x2.1)), (0, (2, a0)), (1, (0, a1))] [(0, x57.1)] x57.2
        obtain rfl := Option.some.inj h
        exact r_ret (pc := 60) (r := some (0, x57.1)) (by decide +kernel) rfl trivial (Nat.le_of_ble_eq_true rfl) (Nat.le_of_ble_eq_true rfl)
      · have h := ite_f c30 h
        refine r_bipush (pc := 33) (z := (-5)) (by decide +kernel) ⟨by decide, by decide⟩ ?_
        obtain rfl := Option.some.inj h
        exact r_ret (pc := 35) (r := some (0, (-5))) (by decide +kernel) rfl trivial (Nat.le_of_ble_eq_true rfl) (Nat.le_of_ble_eq_true rfl)
    · have h := ite_f c19 h
      refine r_bipush (pc := 22) (z := (-4)) (by decide +kernel) ⟨by decide, by decide⟩ ?_
      obtain rfl := Option.some.inj h
      exact r_ret (pc := 24) (r := some (0, (-4))) (by decide +kernel) rfl trivial (Nat.le_of_ble_eq_true rfl) (Nat.le_of_ble_eq_true rfl)
  · have h := ite_t c7 h
    refine r_bipush (pc := 10) (z := (-2)) (by decide +kernel) ⟨by decide, by decide⟩ ?_
    obtain rfl := Option.some.inj h
    exact r_ret (pc := 12) (r := some (0, (-2))) (by decide +kernel) rfl trivial (Nat.le_of_ble_eq_true rfl) (Nat.le_of_ble_eq_true rfl)

/-! TreeTongues$Machine.finalBit(I)I -/
noncomputable def D_Machine_finalBit (a0 a1 : Int) (M : Mem) : Option (Int × Mem) := (gf M a0 1 14 11).bind fun g1 => some (iand (ishr g1 a1) 1, M)
theorem c_Machine_finalBit {d : Nat} (hd : 1 ≤ d) {a0 a1 : Int} {M : Mem} {x : Int × Mem} (h : D_Machine_finalBit a0 a1 M = some x) : Ct d Y_Machine_finalBit [(2, a0), (0, a1)] M (some (0, x.1), x.2) 0 0 := by
  refine ct_of yk_Machine_finalBit (Nat.le_of_ble_eq_true rfl) ?_
  rw [D_Machine_finalBit] at h
  show Rn Y_Machine_finalBit d 0 0 0 0 (some (0, x.1), x.2) 0 [(0, (2, a0)), (1, (0, a1))] [] M
  refine r_aload_n (pc := 0) 0 (n := 0) (by decide +kernel) rfl rfl ?_
  obtain ⟨g1, q1, h⟩ := bnd h
  refine r_get (pc := 1) (by decide +kernel) fl_Machine_44.r (by decide) rfl q1 ?_
  refine r_iload_n (pc := 4) 1 (n := 1) (by decide +kernel) rfl rfl ?_
  refine r_ishr (pc := 5) (by decide +kernel) ?_
  refine r_iconst (pc := 6) (z := 1) (by decide +kernel) ⟨by decide, by decide⟩ ?_
  refine r_iand (pc := 7) (by decide +kernel) ?_
  obtain rfl := Option.some.inj h
  exact r_ret (pc := 8) (r := some (0, iand (ishr g1 a1) 1)) (by decide +kernel) rfl trivial (Nat.le_of_ble_eq_true rfl) (Nat.le_of_ble_eq_true rfl)

/-! TreeTongues$Net.setWithin(LTreeTongues$Machine;)V -/
noncomputable def L_Net_setWithin_63 (k : Mem → Option (Mem)) (v0 : Int) (v1 : Int) (v2 : Int) (v3 : Int) (v4 : Int) (v5 : Int) : Nat → Int → Mem → Option (Mem)
  | 0 => fun _ _ => none
  | n + 1 => fun v6 M => (gf M v0 2 6 0).bind fun g66 => (ck M g66 5 3).bind fun _ => (D_Signs_choices g66 v3 1 v2 M).bind fun x72 => if x72.1 ≤ v6 then (k  x72.2) else ((ck x72.2 v1 1 14).bind fun _ => (D_Machine_step v1 v3 v5 v6 x72.2).bind fun x84 => ((if v4 ≤ 0 then (some (0, x84.2)) else ((ck x84.2 v1 1 14).bind fun _ => (D_Machine_finalBit v1 v5 x84.2).bind fun x97 => if x97.1 = 1 then (some (1, x97.2)) else (some (0, x97.2)))).bind fun (t91i : Int × Mem) => if t91i.1 = 0 then (if v4 ≤ 1 then (some (x84.1, t91i.2)) else ((ck t91i.2 v1 1 14).bind fun _ => (D_Machine_finalBit v1 v6 t91i.2).bind fun x120 => if x120.1 = 1 then (some (v6, x120.2)) else (some (x84.1, x120.2)))) else (some (v5, t91i.2))).bind fun (t91 : Int × Mem) => (ck t91.2 v0 2 6).bind fun _ => (D_Net_lead v0 v3 v5 v6 (ishl 1 t91.1) t91.2).bind fun x141 => L_Net_setWithin_63 k v0 v1 v2 v3 v4 v5 n (wr (v6 + 1)) x141)
noncomputable def L_Net_setWithin_45 (k : Mem → Option (Mem)) (v0 : Int) (v1 : Int) (v2 : Int) (v3 : Int) (v4 : Int) : Nat → Int → Mem → Option (Mem)
  | 0 => fun _ _ => none
  | n + 1 => fun v5 M => (gf M v0 2 6 0).bind fun g48 => (ck M g48 5 3).bind fun _ => (D_Signs_choices g48 v3 0 v2 M).bind fun x54 => if x54.1 ≤ v5 then (k  x54.2) else (L_Net_setWithin_63 (fun  m63 => L_Net_setWithin_45 k v0 v1 v2 v3 v4 n (wr (v5 + 1)) m63) v0 v1 v2 v3 v4 v5 FU 0 x54.2)
noncomputable def L_Net_setWithin_21 (k : Mem → Option (Mem)) (v0 : Int) (v1 : Int) (v2 : Int) : Nat → Int → Mem → Option (Mem)
  | 0 => fun _ _ => none
  | n + 1 => fun v3 M => (gf M v0 2 6 0).bind fun g23 => (gf M g23 5 3 1).bind fun g26 => if g26 ≤ v3 then (k  M) else ((gf M v0 2 6 0).bind fun g33 => (ck M g33 5 3).bind fun _ => (D_Signs_rankOf g33 v3 M).bind fun x37 => L_Net_setWithin_45 (fun  m45 => L_Net_setWithin_21 k v0 v1 v2 n (wr (v3 + 1)) m45) v0 v1 v2 v3 x37.1 FU 0 x37.2)
noncomputable def D_Net_setWithin (a0 a1 : Int) (M : Mem) : Option (Mem) := (gf M a1 1 14 10).bind fun g2 => (gf M a1 1 14 11).bind fun g6 => (ck M a0 2 6).bind fun _ => (D_Net_begin a0 g2 g6 10 M).bind fun x11 => (gf x11 a1 1 14 10).bind fun g15 => L_Net_setWithin_21 (fun  m21 => some m21) a0 a1 g15 FU 0 x11
theorem sL_Net_setWithin_63 {d mc ms : Nat} (hd : 4 ≤ d) {r : Mem} {k : Mem → Option (Mem)} {v0 : Int} {v1 : Int} {v2 : Int} {v3 : Int} {v4 : Int} {v5 : Int} (hk : ∀ (M : Mem), k M = some r → Rn Y_Net_setWithin d mc ms 0 0 (none, r) 150 [(0, (2, v0)), (1, (2, v1)), (2, (0, v2)), (3, (0, v3)), (4, (0, v4)), (5, (0, v5))] [] M) : ∀ (n : Nat) (v6 : Int) (M : Mem), L_Net_setWithin_63 k v0 v1 v2 v3 v4 v5 n v6 M = some r → Rn Y_Net_setWithin d mc ms 0 0 (none, r) 63 [(0, (2, v0)), (1, (2, v1)), (2, (0, v2)), (3, (0, v3)), (4, (0, v4)), (5, (0, v5)), (6, (0, v6))] [] M := by
  intro n
  induction n with
  | zero => intro _ _ h; cases h
  | succ n ih =>
    intro v6 M h
    rw [L_Net_setWithin_63] at h
    refine r_iload (pc := 63) 6 (by decide +kernel) rfl ?_
    refine r_aload_n (pc := 65) 0 (n := 0) (by decide +kernel) rfl rfl ?_
    obtain ⟨g66, q66, h⟩ := bnd h
    refine r_get (pc := 66) (by decide +kernel) fl_Net_28.r (by decide) rfl q66 ?_
    refine r_iload_n (pc := 69) 3 (n := 3) (by decide +kernel) rfl rfl ?_
    refine r_iconst (pc := 70) (z := 1) (by decide +kernel) ⟨by decide, by decide⟩ ?_
    refine r_iload_n (pc := 71) 2 (n := 2) (by decide +kernel) rfl rfl ?_
    obtain ⟨_, q72c, h⟩ := bnd h
    obtain ⟨x72, q72, h⟩ := bnd h
    refine r_callV (pc := 72) (i := 49) (d2 := d - 1) (As := [(0, v3), (0, 1), (0, v2)]) (st := [(0, v6)]) (st1 := [(0, v2), (0, 1), (0, v3), (2, g66), (0, v6)]) (by decide +kernel) yk_Signs_choices (by decide) rfl ⟨ml_Net_49, vk_Signs_choices⟩ np_Signs_choices rfl (by omega) q72c (c_Signs_choices (d := d - 1) (by omega) q72) (Nat.le_of_ble_eq_true rfl) (Nat.le_of_ble_eq_true rfl) (Nat.le_of_ble_eq_true rfl) rfl ?_
    show Rn _ d _ _ 0 0 _ 75 [(0, (2, v0)), (1, (2, v1)), (2, (0, v2)), (3, (0, v3)), (4, (0, v4)), (5, (0, v5)), (6, (0, v6))] [(0, x72.1), (0, v6)] x72.2
    refine r_icmp_ge (pc := 75) (off := 75) (tgt := 150) (by decide +kernel) (by decide) (fun c75 => ?_) (fun c75 => ?_)
    · have h := ite_t c75 h
      refine r_lv [0, 1, 2, 3, 4, 5] rfl ?_
      exact hk  x72.2 h
    · have h := ite_f c75 h
      refine r_aload_n (pc := 78) 1 (n := 1) (by decide +kernel) rfl rfl ?_
      refine r_iload_n (pc := 79) 3 (n := 3) (by decide +kernel) rfl rfl ?_
      refine r_iload (pc := 80) 5 (by decide +kernel) rfl ?_
      refine r_iload (pc := 82) 6 (by decide +kernel) rfl ?_
      obtain ⟨_, q84c, h⟩ := bnd h
      obtain ⟨x84, q84, h⟩ := bnd h
      refine r_callV (pc := 84) (i := 53) (d2 := d - 1) (As := [(0, v3), (0, v5), (0, v6)]) (st := []) (st1 := [(0, v6), (0, v5), (0, v3), (2, v1)]) (by decide +kernel) yk_Machine_step (by decide) rfl ⟨ml_Net_53, vk_Machine_step⟩ np_Machine_step rfl (by omega) q84c (c_Machine_step (d := d - 1) (by omega) q84) (Nat.le_of_ble_eq_true rfl) (Nat.le_of_ble_eq_true rfl) (Nat.le_of_ble_eq_true rfl) rfl ?_
      show Rn _ d _ _ 0 0 _ 87 [(0, (2, v0)), (1, (2, v1)), (2, (0, v2)), (3, (0, v3)), (4, (0, v4)), (5, (0, v5)), (6, (0, v6))] [(0, x84.1)] x84.2
      refine r_istore (pc := 87) (lv' := [(7, (0, x84.1)), (0, (2, v0)), (1, (2, v1)), (2, (0, v2)), (3, (0, v3)), (4, (0, v4)), (5, (0, v5)), (6, (0, v6))]) (by decide +kernel) (Nat.le_of_ble_eq_true rfl) rfl ?_
      refine r_iload (pc := 89) 5 (by decide +kernel) rfl ?_
      obtain ⟨t91, ht91, h⟩ := bnd h
      have E91_0 : Rn Y_Net_setWithin d mc ms 0 0 (none, r) 131 [(0, (2, v0)), (1, (2, v1)), (2, (0, v2)), (3, (0, v3)), (4, (0, v4)), (5, (0, v5)), (6, (0, v6)), (7, (0, t91.1))] [] t91.2 := by
        refine r_aload_n (pc := 131) 0 (n := 0) (by decide +kernel) rfl rfl ?_
        refine r_iload_n (pc := 132) 3 (n := 3) (by decide +kernel) rfl rfl ?_
        refine r_iload (pc := 133) 5 (by decide +kernel) rfl ?_
        refine r_iload (pc := 135) 6 (by decide +kernel) rfl ?_
        refine r_iconst (pc := 137) (z := 1) (by decide +kernel) ⟨by decide, by decide⟩ ?_
        refine r_iload (pc := 138) 7 (by decide +kernel) rfl ?_
        refine r_ishl (pc := 140) (by decide +kernel) ?_
        obtain ⟨_, q141c, h⟩ := bnd h
        obtain ⟨x141, q141, h⟩ := bnd h
        refine r_callV (pc := 141) (i := 56) (d2 := d - 1) (As := [(0, v3), (0, v5), (0, v6), (0, ishl 1 t91.1)]) (st := []) (st1 := [(0, ishl 1 t91.1), (0, v6), (0, v5), (0, v3), (2, v0)]) (by decide +kernel) yk_Net_lead (by decide) rfl ⟨ml_Net_56, vk_Net_lead⟩ np_Net_lead rfl (by omega) q141c (c_Net_lead (d := d - 1) (by omega) q141) (Nat.le_of_ble_eq_true rfl) (Nat.le_of_ble_eq_true rfl) (Nat.le_of_ble_eq_true rfl) rfl ?_
        show Rn _ d _ _ 0 0 _ 144 [(0, (2, v0)), (1, (2, v1)), (2, (0, v2)), (3, (0, v3)), (4, (0, v4)), (5, (0, v5)), (6, (0, v6)), (7, (0, t91.1))] [] x141
        refine r_iinc (pc := 144) 6 (n := 1) (lv' := [(6, (0, wr (v6 + 1))), (0, (2, v0)), (1, (2, v1)), (2, (0, v2)), (3, (0, v3)), (4, (0, v4)), (5, (0, v5)), (7, (0, t91.1))]) (by decide +kernel) rfl (Nat.le_of_ble_eq_true rfl) rfl ?_
        refine r_goto (pc := 147) (off := (-84)) (tgt := 63) (by decide +kernel) (by decide) ?_
        refine r_lv [1, 2, 3, 4, 5, 6, 0] rfl ?_
        exact ih (wr (v6 + 1)) x141 h
      obtain ⟨t91i, ht91i, ht91⟩ := bnd ht91
      have E91i_0 : t91i.1 = 0 → Rn Y_Net_setWithin d mc ms 0 0 (none, r) 111 [(0, (2, v0)), (1, (2, v1)), (2, (0, v2)), (3, (0, v3)), (4, (0, v4)), (5, (0, v5)), (6, (0, v6)), (7, (0, x84.1))] [] t91i.2 := by
        intro y0
        have ht91 := ite_t y0 ht91
        refine r_iload (pc := 111) 4 (by decide +kernel) rfl ?_
        refine r_iconst (pc := 113) (z := 1) (by decide +kernel) ⟨by decide, by decide⟩ ?_
        refine r_icmp_le (pc := 114) (off := 17) (tgt := 131) (by decide +kernel) (by decide) (fun c114 => ?_) (fun c114 => ?_)
        · have ht91 := ite_t c114 ht91
          obtain rfl := Option.some.inj ht91
          exact E91_0
        · have ht91 := ite_f c114 ht91
          refine r_aload_n (pc := 117) 1 (n := 1) (by decide +kernel) rfl rfl ?_
          refine r_iload (pc := 118) 6 (by decide +kernel) rfl ?_
          obtain ⟨_, q120c, ht91⟩ := bnd ht91
          obtain ⟨x120, q120, ht91⟩ := bnd ht91
          refine r_callV (pc := 120) (i := 89) (d2 := d - 1) (As := [(0, v6)]) (st := []) (st1 := [(0, v6), (2, v1)]) (by decide +kernel) yk_Machine_finalBit (by decide) rfl ⟨ml_Net_89, vk_Machine_finalBit⟩ np_Machine_finalBit rfl (by omega) q120c (c_Machine_finalBit (d := d - 1) (by omega) q120) (Nat.le_of_ble_eq_true rfl) (Nat.le_of_ble_eq_true rfl) (Nat.le_of_ble_eq_true rfl) rfl ?_
          show Rn _ d _ _ 0 0 _ 123 [(0, (2, v0)), (1, (2, v1)), (2, (0, v2)), (3, (0, v3)), (4, (0, v4)), (5, (0, v5)), (6, (0, v6)), (7, (0, x84.1))] [(0, x120.1)] x120.2
          refine r_iconst (pc := 123) (z := 1) (by decide +kernel) ⟨by decide, by decide⟩ ?_
          refine r_icmp_ne (pc := 124) (off := 7) (tgt := 131) (by decide +kernel) (by decide) (fun c124 => ?_) (fun c124 => ?_)
          · have ht91 := ite_f c124 ht91
            obtain rfl := Option.some.inj ht91
            exact E91_0
          · have ht91 := ite_t c124 ht91
            refine r_iload (pc := 127) 6 (by decide +kernel) rfl ?_
            refine r_istore (pc := 129) (lv' := [(7, (0, v6)), (0, (2, v0)), (1, (2, v1)), (2, (0, v2)), (3, (0, v3)), (4, (0, v4)), (5, (0, v5)), (6, (0, v6))]) (by decide +kernel) (Nat.le_of_ble_eq_true rfl) rfl ?_
            obtain rfl := Option.some.inj ht91
            refine r_lv [1, 2, 3, 4, 5, 6, 7, 0] rfl ?_
            exact E91_0
      have E91i_1 : ¬ t91i.1 = 0 → Rn Y_Net_setWithin d mc ms 0 0 (none, r) 104 [(0, (2, v0)), (1, (2, v1)), (2, (0, v2)), (3, (0, v3)), (4, (0, v4)), (5, (0, v5)), (6, (0, v6))] [] t91i.2 := by
        intro n0
        have ht91 := ite_f n0 ht91
        refine r_iload (pc := 104) 5 (by decide +kernel) rfl ?_
        refine r_istore (pc := 106) (lv' := [(7, (0, v5)), (0, (2, v0)), (1, (2, v1)), (2, (0, v2)), (3, (0, v3)), (4, (0, v4)), (5, (0, v5)), (6, (0, v6))]) (by decide +kernel) (Nat.le_of_ble_eq_true rfl) rfl ?_
        refine r_goto (pc := 108) (off := 23) (tgt := 131) (by decide +kernel) (by decide) ?_
        obtain rfl := Option.some.inj ht91
        refine r_lv [1, 2, 3, 4, 5, 6, 7, 0] rfl ?_
        exact E91_0
      refine r_if_le (pc := 91) (off := 20) (tgt := 111) (by decide +kernel) (by decide) (fun c91 => ?_) (fun c91 => ?_)
      · have ht91i := ite_t c91 ht91i
        obtain rfl := Option.some.inj ht91i
        refine r_lv [1, 2, 3, 4, 5, 6, 7, 0] rfl ?_
        exact E91i_0 rfl
      · have ht91i := ite_f c91 ht91i
        refine r_aload_n (pc := 94) 2 (n := 1) (by decide +kernel) rfl rfl ?_
        refine r_iload (pc := 95) 6 (by decide +kernel) rfl ?_
        obtain ⟨_, q97c, ht91i⟩ := bnd ht91i
        obtain ⟨x97, q97, ht91i⟩ := bnd ht91i
        refine r_callV (pc := 97) (i := 89) (d2 := d - 1) (As := [(0, v5)]) (st := []) (st1 := [(0, v5), (2, v1)]) (by decide +kernel) yk_Machine_finalBit (by decide) rfl ⟨ml_Net_89, vk_Machine_finalBit⟩ np_Machine_finalBit rfl (by omega) q97c (c_Machine_finalBit (d := d - 1) (by omega) q97) (Nat.le_of_ble_eq_true rfl) (Nat.le_of_ble_eq_true rfl) (Nat.le_of_ble_eq_true rfl) rfl ?_
        show Rn _ d _ _ 0 0 _ 100 [(7, (0, x84.1)), (0, (2, v0)), (1, (2, v1)), (2, (0, v2)), (3, (0, v3)), (4, (0, v4)), (5, (0, v5)), (6, (0, v6))] [(0, x97.1)] x97.2
        refine r_iconst (pc := 100) (z := 1) (by decide +kernel) ⟨by decide, by decide⟩ ?_
        refine r_icmp_ne (pc := 101) (off := 10) (tgt := 111) (by decide +kernel) (by decide) (fun c101 => ?_) (fun c101 => ?_)
        · have ht91i := ite_f c101 ht91i
          obtain rfl := Option.some.inj ht91i
          refine r_lv [1, 2, 3, 4, 5, 6, 7, 0] rfl ?_
          exact E91i_0 rfl
        · have ht91i := ite_t c101 ht91i
          obtain rfl := Option.some.inj ht91i
          refine r_lv [1, 2, 3, 4, 5, 6, 7] rfl ?_
          exact E91i_1 (show ¬ (1 : Int) = 0 by decide)
theorem sL_Net_setWithin_45 {d mc ms : Nat} (hd : 4 ≤ d) {r : Mem} {k : Mem → Option (Mem)} {v0 : Int} {v1 : Int} {v2 : Int} {v3 : Int} {v4 : Int} (hk : ∀ (M : Mem), k M = some r → Rn Y_Net_setWithin d mc ms 0 0 (none, r) 156 [(0, (2, v0)), (1, (2, v1)), (2, (0, v2)), (3, (0, v3))] [] M) : ∀ (n : Nat) (v5 : Int) (M : Mem), L_Net_setWithin_45 k v0 v1 v2 v3 v4 n v5 M = some r → Rn Y_Net_setWithin d mc ms 0 0 (none, r) 45 [(0, (2, v0)), (1, (2, v1)), (2, (0, v2)), (3, (0, v3)), (4, (0, v4)), (5, (0, v5))] [] M := by
  intro n
  induction n with
  | zero => intro _ _ h; cases h
  | succ n ih =>
    intro v5 M h
    rw [L_Net_setWithin_45] at h
    refine r_iload (pc := 45) 5 (by decide +kernel) rfl ?_
    refine r_aload_n (pc := 47) 0 (n := 0) (by decide +kernel) rfl rfl ?_
    obtain ⟨g48, q48, h⟩ := bnd h
    refine r_get (pc := 48) (by decide +kernel) fl_Net_28.r (by decide) rfl q48 ?_
    refine r_iload_n (pc := 51) 3 (n := 3) (by decide +kernel) rfl rfl ?_
    refine r_iconst (pc := 52) (z := 0) (by decide +kernel) ⟨by decide, by decide⟩ ?_
    refine r_iload_n (pc := 53) 2 (n := 2) (by decide +kernel) rfl rfl ?_
    obtain ⟨_, q54c, h⟩ := bnd h
    obtain ⟨x54, q54, h⟩ := bnd h
    refine r_callV (pc := 54) (i := 49) (d2 := d - 1) (As := [(0, v3), (0, 0), (0, v2)]) (st := [(0, v5)]) (st1 := [(0, v2), (0, 0), (0, v3), (2, g48), (0, v5)]) (by decide +kernel) yk_Signs_choices (by decide) rfl ⟨ml_Net_49, vk_Signs_choices⟩ np_Signs_choices rfl (by omega) q54c (c_Signs_choices (d := d - 1) (by omega) q54) (Nat.le_of_ble_eq_true rfl) (Nat.le_of_ble_eq_true rfl) (Nat.le_of_ble_eq_true rfl) rfl ?_
    show Rn _ d _ _ 0 0 _ 57 [(0, (2, v0)), (1, (2, v1)), (2, (0, v2)), (3, (0, v3)), (4, (0, v4)), (5, (0, v5))] [(0, x54.1), (0, v5)] x54.2
    refine r_icmp_ge (pc := 57) (off := 99) (tgt := 156) (by decide +kernel) (by decide) (fun c57 => ?_) (fun c57 => ?_)
    · have h := ite_t c57 h
      refine r_lv [0, 1, 2, 3] rfl ?_
      exact hk  x54.2 h
    · have h := ite_f c57 h
      refine r_iconst (pc := 60) (z := 0) (by decide +kernel) ⟨by decide, by decide⟩ ?_
      refine r_istore (pc := 61) (lv' := [(6, (0, 0)), (0, (2, v0)), (1, (2, v1)), (2, (0, v2)), (3, (0, v3)), (4, (0, v4)), (5, (0, v5))]) (by decide +kernel) (Nat.le_of_ble_eq_true rfl) rfl ?_
      refine r_lv [1, 2, 3, 4, 5, 6, 0] rfl ?_
      refine sL_Net_setWithin_63 (by omega) ?_ _ _  _ h
      intro m63 h
      refine r_iinc (pc := 150) 5 (n := 1) (lv' := [(5, (0, wr (v5 + 1))), (0, (2, v0)), (1, (2, v1)), (2, (0, v2)), (3, (0, v3)), (4, (0, v4))]) (by decide +kernel) rfl (Nat.le_of_ble_eq_true rfl) rfl ?_
      refine r_goto (pc := 153) (off := (-108)) (tgt := 45) (by decide +kernel) (by decide) ?_
      refine r_lv [1, 2, 3, 4, 5, 0] rfl ?_
      exact ih (wr (v5 + 1)) m63 h
theorem sL_Net_setWithin_21 {d mc ms : Nat} (hd : 4 ≤ d) {r : Mem} {k : Mem → Option (Mem)} {v0 : Int} {v1 : Int} {v2 : Int} (hk : ∀ (M : Mem), k M = some r → Rn Y_Net_setWithin d mc ms 0 0 (none, r) 162 [] [] M) : ∀ (n : Nat) (v3 : Int) (M : Mem), L_Net_setWithin_21 k v0 v1 v2 n v3 M = some r → Rn Y_Net_setWithin d mc ms 0 0 (none, r) 21 [(0, (2, v0)), (1, (2, v1)), (2, (0, v2)), (3, (0, v3))] [] M := by
  intro n
  induction n with
  | zero => intro _ _ h; cases h
  | succ n ih =>
    intro v3 M h
    rw [L_Net_setWithin_21] at h
    refine r_iload_n (pc := 21) 3 (n := 3) (by decide +kernel) rfl rfl ?_
    refine r_aload_n (pc := 22) 0 (n := 0) (by decide +kernel) rfl rfl ?_
    obtain ⟨g23, q23, h⟩ := bnd h
    refine r_get (pc := 23) (by decide +kernel) fl_Net_28.r (by decide) rfl q23 ?_
    obtain ⟨g26, q26, h⟩ := bnd h
    refine r_get (pc := 26) (by decide +kernel) fl_Net_70.r (by decide) rfl q26 ?_
    refine r_icmp_ge (pc := 29) (off := 133) (tgt := 162) (by decide +kernel) (by decide) (fun c29 => ?_) (fun c29 => ?_)
    · have h := ite_t c29 h
      refine r_lv [] rfl ?_
      exact hk  M h
    · have h := ite_f c29 h
      refine r_aload_n (pc := 32) 0 (n := 0) (by decide +kernel) rfl rfl ?_
      obtain ⟨g33, q33, h⟩ := bnd h
      refine r_get (pc := 33) (by decide +kernel) fl_Net_28.r (by decide) rfl q33 ?_
      refine r_iload_n (pc := 36) 3 (n := 3) (by decide +kernel) rfl rfl ?_
      obtain ⟨_, q37c, h⟩ := bnd h
      obtain ⟨x37, q37, h⟩ := bnd h
      refine r_callV (pc := 37) (i := 85) (d2 := d - 1) (As := [(0, v3)]) (st := []) (st1 := [(0, v3), (2, g33)]) (by decide +kernel) yk_Signs_rankOf (by decide) rfl ⟨ml_Net_85, vk_Signs_rankOf⟩ np_Signs_rankOf rfl (by omega) q37c (c_Signs_rankOf (d := d - 1) (by omega) q37) (Nat.le_of_ble_eq_true rfl) (Nat.le_of_ble_eq_true rfl) (Nat.le_of_ble_eq_true rfl) rfl ?_
      show Rn _ d _ _ 0 0 _ 40 [(0, (2, v0)), (1, (2, v1)), (2, (0, v2)), (3, (0, v3))] [(0, x37.1)] x37.2
      refine r_istore (pc := 40) (lv' := [(4, (0, x37.1)), (0, (2, v0)), (1, (2, v1)), (2, (0, v2)), (3, (0, v3))]) (by decide +kernel) (Nat.le_of_ble_eq_true rfl) rfl ?_
      refine r_iconst (pc := 42) (z := 0) (by decide +kernel) ⟨by decide, by decide⟩ ?_
      refine r_istore (pc := 43) (lv' := [(5, (0, 0)), (4, (0, x37.1)), (0, (2, v0)), (1, (2, v1)), (2, (0, v2)), (3, (0, v3))]) (by decide +kernel) (Nat.le_of_ble_eq_true rfl) rfl ?_
      refine r_lv [2, 3, 4, 5, 1, 0] rfl ?_
      refine sL_Net_setWithin_45 (by omega) ?_ _ _  _ h
      intro m45 h
      refine r_iinc (pc := 156) 3 (n := 1) (lv' := [(3, (0, wr (v3 + 1))), (0, (2, v0)), (1, (2, v1)), (2, (0, v2))]) (by decide +kernel) rfl (Nat.le_of_ble_eq_true rfl) rfl ?_
      refine r_goto (pc := 159) (off := (-138)) (tgt := 21) (by decide +kernel) (by decide) ?_
      refine r_lv [1, 2, 3, 0] rfl ?_
      exact ih (wr (v3 + 1)) m45 h
theorem c_Net_setWithin {d : Nat} (hd : 4 ≤ d) {a0 a1 : Int} {M : Mem} {x : Mem} (h : D_Net_setWithin a0 a1 M = some x) : Ct d Y_Net_setWithin [(2, a0), (2, a1)] M (none, x) 0 0 := by
  refine ct_of yk_Net_setWithin (Nat.le_of_ble_eq_true rfl) ?_
  rw [D_Net_setWithin] at h
  show Rn Y_Net_setWithin d 0 0 0 0 (none, x) 0 [(0, (2, a0)), (1, (2, a1))] [] M
  refine r_aload_n (pc := 0) 0 (n := 0) (by decide +kernel) rfl rfl ?_
  refine r_aload_n (pc := 1) 1 (n := 1) (by decide +kernel) rfl rfl ?_
  obtain ⟨g2, q2, h⟩ := bnd h
  refine r_get (pc := 2) (by decide +kernel) fl_Net_44.r (by decide) rfl q2 ?_
  refine r_aload_n (pc := 5) 1 (n := 1) (by decide +kernel) rfl rfl ?_
  obtain ⟨g6, q6, h⟩ := bnd h
  refine r_get (pc := 6) (by decide +kernel) fl_Net_80.r (by decide) rfl q6 ?_
  refine r_bipush (pc := 9) (z := 10) (by decide +kernel) ⟨by decide, by decide⟩ ?_
  obtain ⟨_, q11c, h⟩ := bnd h
  obtain ⟨x11, q11, h⟩ := bnd h
  refine r_callV (pc := 11) (i := 66) (d2 := d - 1) (As := [(0, g2), (0, g6), (0, 10)]) (st := []) (st1 := [(0, 10), (0, g6), (0, g2), (2, a0)]) (by decide +kernel) yk_Net_begin (by decide) rfl ⟨ml_Net_66, vk_Net_begin⟩ np_Net_begin rfl (by omega) q11c (c_Net_begin (d := d - 1) (by omega) q11) (Nat.le_of_ble_eq_true rfl) (Nat.le_of_ble_eq_true rfl) (Nat.le_of_ble_eq_true rfl) rfl ?_
  show Rn _ d _ _ 0 0 _ 14 [(0, (2, a0)), (1, (2, a1))] [] x11
  refine r_aload_n (pc := 14) 1 (n := 1) (by decide +kernel) rfl rfl ?_
  obtain ⟨g15, q15, h⟩ := bnd h
  refine r_get (pc := 15) (by decide +kernel) fl_Net_44.r (by decide) rfl q15 ?_
  refine r_istore_n (pc := 18) (n := 2) (lv' := [(2, (0, g15)), (0, (2, a0)), (1, (2, a1))]) (by decide +kernel) rfl (Nat.le_of_ble_eq_true rfl) rfl ?_
  refine r_iconst (pc := 19) (z := 0) (by decide +kernel) ⟨by decide, by decide⟩ ?_
  refine r_istore_n (pc := 20) (n := 3) (lv' := [(3, (0, 0)), (2, (0, g15)), (0, (2, a0)), (1, (2, a1))]) (by decide +kernel) rfl (Nat.le_of_ble_eq_true rfl) rfl ?_
  refine r_lv [2, 3, 1, 0] rfl ?_
  refine sL_Net_setWithin_21 (by omega) ?_ _ _  _ h
  intro m21 h
  obtain rfl := Option.some.inj h
  exact r_ret (pc := 162) (r := none) (by decide +kernel) rfl trivial (Nat.le_of_ble_eq_true rfl) (Nat.le_of_ble_eq_true rfl)
