/-! TreeTonguesModel.parts(I)I -/
noncomputable def D_M_parts (a0 a1 : Int) (M : Mem) : Option (Int × Mem) := (ck M a0 9 54).bind fun _ => (D_M_isTongue a0 a1 M).bind fun x2 => if x2.1 = 0 then (some ((-2), x2.2)) else ((gf x2.2 a0 9 54 4).bind fun g12 => if g12 = 16 then (some ((-4), x2.2)) else ((ck x2.2 a0 9 54).bind fun _ => (D_M_load a0 a1 16 x2.2).bind fun x27 => if 0 ≤ x27.1 then ((ck x27.2 a0 9 54).bind fun _ => (D_M_usefulOf a0 16 x27.2).bind fun x40 => (pf x40.2 a0 9 54 25 x40.1).bind fun m43 => (ck m43 a0 9 54).bind fun _ => (D_M_plain a0 2 m43).bind fun x48 => (ck x48 a0 9 54).bind fun _ => (D_M_newTongue a0 x48).bind fun x52 => some (x52.1, x52.2)) else (some ((-5), x27.2))))
theorem c_M_parts {d : Nat} (hd : 9 ≤ d) {a0 a1 : Int} {M : Mem} {x : Int × Mem} (h : D_M_parts a0 a1 M = some x) : Ct d Y_M_parts [(2, a0), (0, a1)] M (some (0, x.1), x.2) 0 0 := by
  refine ct_of yk_M_parts (Nat.le_of_ble_eq_true rfl) ?_
  rw [D_M_parts] at h
  show Rn Y_M_parts d 0 0 0 0 (some (0, x.1), x.2) 0 [(0, (2, a0)), (1, (0, a1))] [] M
  refine r_aload_n (pc := 0) 0 (n := 0) (by decide +kernel) rfl rfl ?_
  refine r_iload_n (pc := 1) 1 (n := 1) (by decide +kernel) rfl rfl ?_
  obtain ⟨_, q2c, h⟩ := bnd h
  obtain ⟨x2, q2, h⟩ := bnd h
  refine r_callV (pc := 2) (i := 146) (d2 := d - 1) (As := [(0, a1)]) (st := []) (st1 := [(0, a1), (2, a0)]) (by decide +kernel) yk_M_isTongue (by decide) rfl ⟨ml_M_146, vk_M_isTongue⟩ np_M_isTongue rfl (by omega) q2c (c_M_isTongue (d := d - 1) (by omega) q2) (Nat.le_of_ble_eq_true rfl) (Nat.le_of_ble_eq_true rfl) (Nat.le_of_ble_eq_true rfl) rfl ?_
  show Rn _ d _ _ 0 0 _ 5 [(0, (2, a0)), (1, (0, a1))] [(0, x2.1)] x2.2
  refine r_if_ne (pc := 5) (off := 6) (tgt := 11) (by decide +kernel) (by decide) (fun c5 => ?_) (fun c5 => ?_)
  · have h := ite_f c5 h
    refine r_aload_n (pc := 11) 0 (n := 0) (by decide +kernel) rfl rfl ?_
    obtain ⟨g12, q12, h⟩ := bnd h
    refine r_get (pc := 12) (by decide +kernel) fl_M_132.r (by decide) rfl q12 ?_
    refine r_bipush (pc := 15) (z := 16) (by decide +kernel) ⟨by decide, by decide⟩ ?_
    refine r_icmp_ne (pc := 17) (off := 6) (tgt := 23) (by decide +kernel) (by decide) (fun c17 => ?_) (fun c17 => ?_)
    · have h := ite_f c17 h
      refine r_aload_n (pc := 23) 0 (n := 0) (by decide +kernel) rfl rfl ?_
      refine r_iload_n (pc := 24) 1 (n := 1) (by decide +kernel) rfl rfl ?_
      refine r_bipush (pc := 25) (z := 16) (by decide +kernel) ⟨by decide, by decide⟩ ?_
      obtain ⟨_, q27c, h⟩ := bnd h
      obtain ⟨x27, q27, h⟩ := bnd h
      refine r_callV (pc := 27) (i := 260) (d2 := d - 1) (As := [(0, a1), (0, 16)]) (st := []) (st1 := [(0, 16), (0, a1), (2, a0)]) (by decide +kernel) yk_M_load (by decide) rfl ⟨ml_M_260, vk_M_load⟩ np_M_load rfl (by omega) q27c (c_M_load (d := d - 1) (by omega) q27) (Nat.le_of_ble_eq_true rfl) (Nat.le_of_ble_eq_true rfl) (Nat.le_of_ble_eq_true rfl) rfl ?_
      show Rn _ d _ _ 0 0 _ 30 [(0, (2, a0)), (1, (0, a1))] [(0, x27.1)] x27.2
      refine r_if_ge (pc := 30) (off := 6) (tgt := 36) (by decide +kernel) (by decide) (fun c30 => ?_) (fun c30 => ?_)
      · have h := ite_t c30 h
        refine r_aload_n (pc := 36) 0 (n := 0) (by decide +kernel) rfl rfl ?_
        refine r_aload_n (pc := 37) 0 (n := 0) (by decide +kernel) rfl rfl ?_
        refine r_bipush (pc := 38) (z := 16) (by decide +kernel) ⟨by decide, by decide⟩ ?_
        obtain ⟨_, q40c, h⟩ := bnd h
        obtain ⟨x40, q40, h⟩ := bnd h
        refine r_callV (pc := 40) (i := 275) (d2 := d - 1) (As := [(0, 16)]) (st := [(2, a0)]) (st1 := [(0, 16), (2, a0), (2, a0)]) (by decide +kernel) yk_M_usefulOf (by decide) rfl ⟨ml_M_275, vk_M_usefulOf⟩ np_M_usefulOf rfl (by omega) q40c (c_M_usefulOf (d := d - 1) (by omega) q40) (Nat.le_of_ble_eq_true rfl) (Nat.le_of_ble_eq_true rfl) (Nat.le_of_ble_eq_true rfl) rfl ?_
        show Rn _ d _ _ 0 0 _ 43 [(0, (2, a0)), (1, (0, a1))] [(0, x40.1), (2, a0)] x40.2
        obtain ⟨m43, q43, h⟩ := bnd h
        refine r_put (pc := 43) (by decide +kernel) fl_M_192 (by decide) (Or.inr nf_9_25) rfl (fun h3 => by cases h3) q43 ?_
        refine r_aload_n (pc := 46) 0 (n := 0) (by decide +kernel) rfl rfl ?_
        refine r_iconst (pc := 47) (z := 2) (by decide +kernel) ⟨by decide, by decide⟩ ?_
        obtain ⟨_, q48c, h⟩ := bnd h
        obtain ⟨x48, q48, h⟩ := bnd h
        refine r_callV (pc := 48) (i := 268) (d2 := d - 1) (As := [(0, 2)]) (st := []) (st1 := [(0, 2), (2, a0)]) (by decide +kernel) yk_M_plain (by decide) rfl ⟨ml_M_268, vk_M_plain⟩ np_M_plain rfl (by omega) q48c (c_M_plain (d := d - 1) (by omega) q48) (Nat.le_of_ble_eq_true rfl) (Nat.le_of_ble_eq_true rfl) (Nat.le_of_ble_eq_true rfl) rfl ?_
        show Rn _ d _ _ 0 0 _ 51 [(0, (2, a0)), (1, (0, a1))] [] x48
        refine r_aload_n (pc := 51) 0 (n := 0) (by decide +kernel) rfl rfl ?_
        obtain ⟨_, q52c, h⟩ := bnd h
        obtain ⟨x52, q52, h⟩ := bnd h
        refine r_callV (pc := 52) (i := 264) (d2 := d - 1) (As := []) (st := []) (st1 := [(2, a0)]) (by decide +kernel) yk_M_newTongue (by decide) rfl ⟨ml_M_264, vk_M_newTongue⟩ np_M_newTongue rfl (by omega) q52c (c_M_newTongue (d := d - 1) (by omega) q52) (Nat.le_of_ble_eq_true rfl) (Nat.le_of_ble_eq_true rfl) (Nat.le_of_ble_eq_true rfl) rfl ?_
        show Rn _ d _ _ 0 0 _ 55 [(0, (2, a0)), (1, (0, a1))] [(0, x52.1)] x52.2
        obtain rfl := Option.some.inj h
        exact r_ret (pc := 55) (r := some (0, x52.1)) (by decide +kernel) rfl trivial (Nat.le_of_ble_eq_true rfl) (Nat.le_of_ble_eq_true rfl)
      · have h := ite_f c30 h
        refine r_bipush (pc := 33) (z := (-5)) (by decide +kernel) ⟨by decide, by decide⟩ ?_
        obtain rfl := Option.some.inj h
        exact r_ret (pc := 35) (r := some (0, (-5))) (by decide +kernel) rfl trivial (Nat.le_of_ble_eq_true rfl) (Nat.le_of_ble_eq_true rfl)
    · have h := ite_t c17 h
      refine r_bipush (pc := 20) (z := (-4)) (by decide +kernel) ⟨by decide, by decide⟩ ?_
      obtain rfl := Option.some.inj h
      exact r_ret (pc := 22) (r := some (0, (-4))) (by decide +kernel) rfl trivial (Nat.le_of_ble_eq_true rfl) (Nat.le_of_ble_eq_true rfl)
  · have h := ite_t c5 h
    refine r_bipush (pc := 8) (z := (-2)) (by decide +kernel) ⟨by decide, by decide⟩ ?_
    obtain rfl := Option.some.inj h
    exact r_ret (pc := 10) (r := some (0, (-2))) (by decide +kernel) rfl trivial (Nat.le_of_ble_eq_true rfl) (Nat.le_of_ble_eq_true rfl)

/-! TreeTonguesModel.within(I)I -/
noncomputable def D_M_within (a0 a1 : Int) (M : Mem) : Option (Int × Mem) := (ck M a0 9 54).bind fun _ => (D_M_isTongue a0 a1 M).bind fun x2 => if x2.1 = 0 then (some ((-2), x2.2)) else ((gf x2.2 a0 9 54 4).bind fun g12 => if g12 = 16 then (some ((-4), x2.2)) else ((ck x2.2 a0 9 54).bind fun _ => (D_M_load a0 a1 16 x2.2).bind fun x27 => if 0 ≤ x27.1 then ((pf x27.2 a0 9 54 20 4).bind fun m38 => (ck m38 a0 9 54).bind fun _ => (D_M_newTongue a0 m38).bind fun x42 => some (x42.1, x42.2)) else (some ((-5), x27.2))))
theorem c_M_within {d : Nat} (hd : 9 ≤ d) {a0 a1 : Int} {M : Mem} {x : Int × Mem} (h : D_M_within a0 a1 M = some x) : Ct d Y_M_within [(2, a0), (0, a1)] M (some (0, x.1), x.2) 0 0 := by
  refine ct_of yk_M_within (Nat.le_of_ble_eq_true rfl) ?_
  rw [D_M_within] at h
  show Rn Y_M_within d 0 0 0 0 (some (0, x.1), x.2) 0 [(0, (2, a0)), (1, (0, a1))] [] M
  refine r_aload_n (pc := 0) 0 (n := 0) (by decide +kernel) rfl rfl ?_
  refine r_iload_n (pc := 1) 1 (n := 1) (by decide +kernel) rfl rfl ?_
  obtain ⟨_, q2c, h⟩ := bnd h
  obtain ⟨x2, q2, h⟩ := bnd h
  refine r_callV (pc := 2) (i := 146) (d2 := d - 1) (As := [(0, a1)]) (st := []) (st1 := [(0, a1), (2, a0)]) (by decide +kernel) yk_M_isTongue (by decide) rfl ⟨ml_M_146, vk_M_isTongue⟩ np_M_isTongue rfl (by omega) q2c (c_M_isTongue (d := d - 1) (by omega) q2) (Nat.le_of_ble_eq_true rfl) (Nat.le_of_ble_eq_true rfl) (Nat.le_of_ble_eq_true rfl) rfl ?_
  show Rn _ d _ _ 0 0 _ 5 [(0, (2, a0)), (1, (0, a1))] [(0, x2.1)] x2.2
  refine r_if_ne (pc := 5) (off := 6) (tgt := 11) (by decide +kernel) (by decide) (fun c5 => ?_) (fun c5 => ?_)
  · have h := ite_f c5 h
    refine r_aload_n (pc := 11) 0 (n := 0) (by decide +kernel) rfl rfl ?_
    obtain ⟨g12, q12, h⟩ := bnd h
    refine r_get (pc := 12) (by decide +kernel) fl_M_132.r (by decide) rfl q12 ?_
    refine r_bipush (pc := 15) (z := 16) (by decide +kernel) ⟨by decide, by decide⟩ ?_
    refine r_icmp_ne (pc := 17) (off := 6) (tgt := 23) (by decide +kernel) (by decide) (fun c17 => ?_) (fun c17 => ?_)
    · have h := ite_f c17 h
      refine r_aload_n (pc := 23) 0 (n := 0) (by decide +kernel) rfl rfl ?_
      refine r_iload_n (pc := 24) 1 (n := 1) (by decide +kernel) rfl rfl ?_
      refine r_bipush (pc := 25) (z := 16) (by decide +kernel) ⟨by decide, by decide⟩ ?_
      obtain ⟨_, q27c, h⟩ := bnd h
      obtain ⟨x27, q27, h⟩ := bnd h
      refine r_callV (pc := 27) (i := 260) (d2 := d - 1) (As := [(0, a1), (0, 16)]) (st := []) (st1 := [(0, 16), (0, a1), (2, a0)]) (by decide +kernel) yk_M_load (by decide) rfl ⟨ml_M_260, vk_M_load⟩ np_M_load rfl (by omega) q27c (c_M_load (d := d - 1) (by omega) q27) (Nat.le_of_ble_eq_true rfl) (Nat.le_of_ble_eq_true rfl) (Nat.le_of_ble_eq_true rfl) rfl ?_
      show Rn _ d _ _ 0 0 _ 30 [(0, (2, a0)), (1, (0, a1))] [(0, x27.1)] x27.2
      refine r_if_ge (pc := 30) (off := 6) (tgt := 36) (by decide +kernel) (by decide) (fun c30 => ?_) (fun c30 => ?_)
      · have h := ite_t c30 h
        refine r_aload_n (pc := 36) 0 (n := 0) (by decide +kernel) rfl rfl ?_
        refine r_iconst (pc := 37) (z := 4) (by decide +kernel) ⟨by decide, by decide⟩ ?_
        obtain ⟨m38, q38, h⟩ := bnd h
        refine r_put (pc := 38) (by decide +kernel) fl_M_170 (by decide) (Or.inr nf_9_20) rfl (fun h3 => by cases h3) q38 ?_
        refine r_aload_n (pc := 41) 0 (n := 0) (by decide +kernel) rfl rfl ?_
        obtain ⟨_, q42c, h⟩ := bnd h
        obtain ⟨x42, q42, h⟩ := bnd h
        refine r_callV (pc := 42) (i := 264) (d2 := d - 1) (As := []) (st := []) (st1 := [(2, a0)]) (by decide +kernel) yk_M_newTongue (by decide) rfl ⟨ml_M_264, vk_M_newTongue⟩ np_M_newTongue rfl (by omega) q42c (c_M_newTongue (d := d - 1) (by omega) q42) (Nat.le_of_ble_eq_true rfl) (Nat.le_of_ble_eq_true rfl) (Nat.le_of_ble_eq_true rfl) rfl ?_
        show Rn _ d _ _ 0 0 _ 45 [(0, (2, a0)), (1, (0, a1))] [(0, x42.1)] x42.2
        obtain rfl := Option.some.inj h
        exact r_ret (pc := 45) (r := some (0, x42.1)) (by decide +kernel) rfl trivial (Nat.le_of_ble_eq_true rfl) (Nat.le_of_ble_eq_true rfl)
      · have h := ite_f c30 h
        refine r_bipush (pc := 33) (z := (-5)) (by decide +kernel) ⟨by decide, by decide⟩ ?_
        obtain rfl := Option.some.inj h
        exact r_ret (pc := 35) (r := some (0, (-5))) (by decide +kernel) rfl trivial (Nat.le_of_ble_eq_true rfl) (Nat.le_of_ble_eq_true rfl)
    · have h := ite_t c17 h
      refine r_bipush (pc := 20) (z := (-4)) (by decide +kernel) ⟨by decide, by decide⟩ ?_
      obtain rfl := Option.some.inj h
      exact r_ret (pc := 22) (r := some (0, (-4))) (by decide +kernel) rfl trivial (Nat.le_of_ble_eq_true rfl) (Nat.le_of_ble_eq_true rfl)
  · have h := ite_t c5 h
    refine r_bipush (pc := 8) (z := (-2)) (by decide +kernel) ⟨by decide, by decide⟩ ?_
    obtain rfl := Option.some.inj h
    exact r_ret (pc := 10) (r := some (0, (-2))) (by decide +kernel) rfl trivial (Nat.le_of_ble_eq_true rfl) (Nat.le_of_ble_eq_true rfl)

/-! TreeTonguesModel.grafted(III)I -/
noncomputable def D_M_grafted (a0 a1 a2 a3 : Int) (M : Mem) : Option (Int × Mem) := (ck M a0 9 54).bind fun _ => (D_M_isTongue a0 a1 M).bind fun x2 => if x2.1 = 0 then (some ((-2), x2.2)) else ((ck x2.2 a0 9 54).bind fun _ => (D_M_isTongue a0 a3 x2.2).bind fun x10 => if x10.1 = 0 then (some ((-2), x10.2)) else ((ck x10.2 a0 9 54).bind fun _ => (D_M_isSign a0 a2 x10.2).bind fun x18 => if x18.1 = 0 then (some ((-2), x18.2)) else ((gf x18.2 a0 9 54 1).bind fun g25 => (rd x18.2 10 g25 a2).bind fun e29 => if e29 = 0 then ((gf x18.2 a0 9 54 4).bind fun g37 => if g37 = 16 then (some ((-4), x18.2)) else ((ck x18.2 a0 9 54).bind fun _ => (D_M_load a0 a1 16 x18.2).bind fun x52 => if x52.1 < 0 then (some ((-5), x52.2)) else ((ck x52.2 a0 9 54).bind fun _ => (D_M_load a0 a3 17 x52.2).bind fun x62 => if 0 ≤ x62.1 then ((pf x62.2 a0 9 54 20 5).bind fun m73 => (pf m73 a0 9 54 24 a2).bind fun m78 => (ck m78 a0 9 54).bind fun _ => (D_M_newTongue a0 m78).bind fun x82 => some (x82.1, x82.2)) else (some ((-5), x62.2))))) else (some ((-2), x18.2)))))
theorem c_M_grafted {d : Nat} (hd : 9 ≤ d) {a0 a1 a2 a3 : Int} {M : Mem} {x : Int × Mem} (h : D_M_grafted a0 a1 a2 a3 M = some x) : Ct d Y_M_grafted [(2, a0), (0, a1), (0, a2), (0, a3)] M (some (0, x.1), x.2) 0 0 := by
  refine ct_of yk_M_grafted (Nat.le_of_ble_eq_true rfl) ?_
  rw [D_M_grafted] at h
  show Rn Y_M_grafted d 0 0 0 0 (some (0, x.1), x.2) 0 [(0, (2, a0)), (1, (0, a1)), (2, (0, a2)), (3, (0, a3))] [] M
  refine r_aload_n (pc := 0) 0 (n := 0) (by decide +kernel) rfl rfl ?_
  refine r_iload_n (pc := 1) 1 (n := 1) (by decide +kernel) rfl rfl ?_
  obtain ⟨_, q2c, h⟩ := bnd h
  obtain ⟨x2, q2, h⟩ := bnd h
  refine r_callV (pc := 2) (i := 146) (d2 := d - 1) (As := [(0, a1)]) (st := []) (st1 := [(0, a1), (2, a0)]) (by decide +kernel) yk_M_isTongue (by decide) rfl ⟨ml_M_146, vk_M_isTongue⟩ np_M_isTongue rfl (by omega) q2c (c_M_isTongue (d := d - 1) (by omega) q2) (Nat.le_of_ble_eq_true rfl) (Nat.le_of_ble_eq_true rfl) (Nat.le_of_ble_eq_true rfl) rfl ?_
  show Rn _ d _ _ 0 0 _ 5 [(0, (2, a0)), (1, (0, a1)), (2, (0, a2)), (3, (0, a3))] [(0, x2.1)] x2.2
  refine r_if_eq (pc := 5) (off := 28) (tgt := 33) (by decide +kernel) (by decide) (fun c5 => ?_) (fun c5 => ?_)
  · have h := ite_t c5 h
    refine r_bipush (pc := 33) (z := (-2)) (by decide +kernel) ⟨by decide, by decide⟩ ?_
    obtain rfl := Option.some.inj h
    exact r_ret (pc := 35) (r := some (0, (-2))) (by decide +kernel) rfl trivial (Nat.le_of_ble_eq_true rfl) (Nat.le_of_ble_eq_true rfl)
  · have h := ite_f c5 h
    refine r_aload_n (pc := 8) 0 (n := 0) (by decide +kernel) rfl rfl ?_
    refine r_iload_n (pc := 9) 3 (n := 3) (by decide +kernel) rfl rfl ?_
    obtain ⟨_, q10c, h⟩ := bnd h
    obtain ⟨x10, q10, h⟩ := bnd h
    refine r_callV (pc := 10) (i := 146) (d2 := d - 1) (As := [(0, a3)]) (st := []) (st1 := [(0, a3), (2, a0)]) (by decide +kernel) yk_M_isTongue (by decide) rfl ⟨ml_M_146, vk_M_isTongue⟩ np_M_isTongue rfl (by omega) q10c (c_M_isTongue (d := d - 1) (by omega) q10) (Nat.le_of_ble_eq_true rfl) (Nat.le_of_ble_eq_true rfl) (Nat.le_of_ble_eq_true rfl) rfl ?_
    show Rn _ d _ _ 0 0 _ 13 [(0, (2, a0)), (1, (0, a1)), (2, (0, a2)), (3, (0, a3))] [(0, x10.1)] x10.2
    refine r_if_eq (pc := 13) (off := 20) (tgt := 33) (by decide +kernel) (by decide) (fun c13 => ?_) (fun c13 => ?_)
    · have h := ite_t c13 h
      refine r_bipush (pc := 33) (z := (-2)) (by decide +kernel) ⟨by decide, by decide⟩ ?_
      obtain rfl := Option.some.inj h
      exact r_ret (pc := 35) (r := some (0, (-2))) (by decide +kernel) rfl trivial (Nat.le_of_ble_eq_true rfl) (Nat.le_of_ble_eq_true rfl)
    · have h := ite_f c13 h
      refine r_aload_n (pc := 16) 0 (n := 0) (by decide +kernel) rfl rfl ?_
      refine r_iload_n (pc := 17) 2 (n := 2) (by decide +kernel) rfl rfl ?_
      obtain ⟨_, q18c, h⟩ := bnd h
      obtain ⟨x18, q18, h⟩ := bnd h
      refine r_callV (pc := 18) (i := 137) (d2 := d - 1) (As := [(0, a2)]) (st := []) (st1 := [(0, a2), (2, a0)]) (by decide +kernel) yk_M_isSign (by decide) rfl ⟨ml_M_137, vk_M_isSign⟩ np_M_isSign rfl (by omega) q18c (c_M_isSign (d := d - 1) (by omega) q18) (Nat.le_of_ble_eq_true rfl) (Nat.le_of_ble_eq_true rfl) (Nat.le_of_ble_eq_true rfl) rfl ?_
      show Rn _ d _ _ 0 0 _ 21 [(0, (2, a0)), (1, (0, a1)), (2, (0, a2)), (3, (0, a3))] [(0, x18.1)] x18.2
      refine r_if_eq (pc := 21) (off := 12) (tgt := 33) (by decide +kernel) (by decide) (fun c21 => ?_) (fun c21 => ?_)
      · have h := ite_t c21 h
        refine r_bipush (pc := 33) (z := (-2)) (by decide +kernel) ⟨by decide, by decide⟩ ?_
        obtain rfl := Option.some.inj h
        exact r_ret (pc := 35) (r := some (0, (-2))) (by decide +kernel) rfl trivial (Nat.le_of_ble_eq_true rfl) (Nat.le_of_ble_eq_true rfl)
      · have h := ite_f c21 h
        refine r_aload_n (pc := 24) 0 (n := 0) (by decide +kernel) rfl rfl ?_
        obtain ⟨g25, q25, h⟩ := bnd h
        refine r_get (pc := 25) (by decide +kernel) fl_M_7.r (by decide) rfl q25 ?_
        refine r_iload_n (pc := 28) 2 (n := 2) (by decide +kernel) rfl rfl ?_
        obtain ⟨e29, q29, h⟩ := bnd h
        refine r_iald (pc := 29) (by decide +kernel) q29 ?_
        refine r_if_eq (pc := 30) (off := 6) (tgt := 36) (by decide +kernel) (by decide) (fun c30 => ?_) (fun c30 => ?_)
        · have h := ite_t c30 h
          refine r_aload_n (pc := 36) 0 (n := 0) (by decide +kernel) rfl rfl ?_
          obtain ⟨g37, q37, h⟩ := bnd h
          refine r_get (pc := 37) (by decide +kernel) fl_M_132.r (by decide) rfl q37 ?_
          refine r_bipush (pc := 40) (z := 16) (by decide +kernel) ⟨by decide, by decide⟩ ?_
          refine r_icmp_ne (pc := 42) (off := 6) (tgt := 48) (by decide +kernel) (by decide) (fun c42 => ?_) (fun c42 => ?_)
          · have h := ite_f c42 h
            refine r_aload_n (pc := 48) 0 (n := 0) (by decide +kernel) rfl rfl ?_
            refine r_iload_n (pc := 49) 1 (n := 1) (by decide +kernel) rfl rfl ?_
            refine r_bipush (pc := 50) (z := 16) (by decide +kernel) ⟨by decide, by decide⟩ ?_
            obtain ⟨_, q52c, h⟩ := bnd h
            obtain ⟨x52, q52, h⟩ := bnd h
            refine r_callV (pc := 52) (i := 260) (d2 := d - 1) (As := [(0, a1), (0, 16)]) (st := []) (st1 := [(0, 16), (0, a1), (2, a0)]) (by decide +kernel) yk_M_load (by decide) rfl ⟨ml_M_260, vk_M_load⟩ np_M_load rfl (by omega) q52c (c_M_load (d := d - 1) (by omega) q52) (Nat.le_of_ble_eq_true rfl) (Nat.le_of_ble_eq_true rfl) (Nat.le_of_ble_eq_true rfl) rfl ?_
            show Rn _ d _ _ 0 0 _ 55 [(0, (2, a0)), (1, (0, a1)), (2, (0, a2)), (3, (0, a3))] [(0, x52.1)] x52.2
            refine r_if_lt (pc := 55) (off := 13) (tgt := 68) (by decide +kernel) (by decide) (fun c55 => ?_) (fun c55 => ?_)
            · have h := ite_t c55 h
              refine r_bipush (pc := 68) (z := (-5)) (by decide +kernel) ⟨by decide, by decide⟩ ?_
              obtain rfl := Option.some.inj h
              exact r_ret (pc := 70) (r := some (0, (-5))) (by decide +kernel) rfl trivial (Nat.le_of_ble_eq_true rfl) (Nat.le_of_ble_eq_true rfl)
            · have h := ite_f c55 h
              refine r_aload_n (pc := 58) 0 (n := 0) (by decide +kernel) rfl rfl ?_
              refine r_iload_n (pc := 59) 3 (n := 3) (by decide +kernel) rfl rfl ?_
              refine r_bipush (pc := 60) (z := 17) (by decide +kernel) ⟨by decide, by decide⟩ ?_
              obtain ⟨_, q62c, h⟩ := bnd h
              obtain ⟨x62, q62, h⟩ := bnd h
              refine r_callV (pc := 62) (i := 260) (d2 := d - 1) (As := [(0, a3), (0, 17)]) (st := []) (st1 := [(0, 17), (0, a3), (2, a0)]) (by decide +kernel) yk_M_load (by decide) rfl ⟨ml_M_260, vk_M_load⟩ np_M_load rfl (by omega) q62c (c_M_load (d := d - 1) (by omega) q62) (Nat.le_of_ble_eq_true rfl) (Nat.le_of_ble_eq_true rfl) (Nat.le_of_ble_eq_true rfl) rfl ?_
              show Rn _ d _ _ 0 0 _ 65 [(0, (2, a0)), (1, (0, a1)), (2, (0, a2)), (3, (0, a3))] [(0, x62.1)] x62.2
              refine r_if_ge (pc := 65) (off := 6) (tgt := 71) (by decide +kernel) (by decide) (fun c65 => ?_) (fun c65 => ?_)
              · have h := ite_t c65 h
                refine r_aload_n (pc := 71) 0 (n := 0) (by decide +kernel) rfl rfl ?_
                refine r_iconst (pc := 72) (z := 5) (by decide +kernel) ⟨by decide, by decide⟩ ?_
                obtain ⟨m73, q73, h⟩ := bnd h
                refine r_put (pc := 73) (by decide +kernel) fl_M_170 (by decide) (Or.inr nf_9_20) rfl (fun h3 => by cases h3) q73 ?_
                refine r_aload_n (pc := 76) 0 (n := 0) (by decide +kernel) rfl rfl ?_
                refine r_iload_n (pc := 77) 2 (n := 2) (by decide +kernel) rfl rfl ?_
                obtain ⟨m78, q78, h⟩ := bnd h
                refine r_put (pc := 78) (by decide +kernel) fl_M_167 (by decide) (Or.inr nf_9_24) rfl (fun h3 => by cases h3) q78 ?_
                refine r_aload_n (pc := 81) 0 (n := 0) (by decide +kernel) rfl rfl ?_
                obtain ⟨_, q82c, h⟩ := bnd h
                obtain ⟨x82, q82, h⟩ := bnd h
                refine r_callV (pc := 82) (i := 264) (d2 := d - 1) (As := []) (st := []) (st1 := [(2, a0)]) (by decide +kernel) yk_M_newTongue (by decide) rfl ⟨ml_M_264, vk_M_newTongue⟩ np_M_newTongue rfl (by omega) q82c (c_M_newTongue (d := d - 1) (by omega) q82) (Nat.le_of_ble_eq_true rfl) (Nat.le_of_ble_eq_true rfl) (Nat.le_of_ble_eq_true rfl) rfl ?_
                show Rn _ d _ _ 0 0 _ 85 [(0, (2, a0)), (1, (0, a1)), (2, (0, a2)), (3, (0, a3))] [(0, x82.1)] x82.2
                obtain rfl := Option.some.inj h
                exact r_ret (pc := 85) (r := some (0, x82.1)) (by decide +kernel) rfl trivial (Nat.le_of_ble_eq_true rfl) (Nat.le_of_ble_eq_true rfl)
              · have h := ite_f c65 h
                refine r_bipush (pc := 68) (z := (-5)) (by decide +kernel) ⟨by decide, by decide⟩ ?_
                obtain rfl := Option.some.inj h
                exact r_ret (pc := 70) (r := some (0, (-5))) (by decide +kernel) rfl trivial (Nat.le_of_ble_eq_true rfl) (Nat.le_of_ble_eq_true rfl)
          · have h := ite_t c42 h
            refine r_bipush (pc := 45) (z := (-4)) (by decide +kernel) ⟨by decide, by decide⟩ ?_
            obtain rfl := Option.some.inj h
            exact r_ret (pc := 47) (r := some (0, (-4))) (by decide +kernel) rfl trivial (Nat.le_of_ble_eq_true rfl) (Nat.le_of_ble_eq_true rfl)
        · have h := ite_f c30 h
          refine r_bipush (pc := 33) (z := (-2)) (by decide +kernel) ⟨by decide, by decide⟩ ?_
          obtain rfl := Option.some.inj h
          exact r_ret (pc := 35) (r := some (0, (-2))) (by decide +kernel) rfl trivial (Nat.le_of_ble_eq_true rfl) (Nat.le_of_ble_eq_true rfl)

/-! TreeTonguesModel.undo()I -/
noncomputable def D_M_undo (a0 : Int) (M : Mem) : Option (Int × Mem) := (gf M a0 9 54 4).bind fun g1 => if g1 = 0 then (some ((-3), M)) else ((gf M a0 9 54 4).bind fun g12 => (pf M a0 9 54 4 (wr (g12 - 1))).bind fun m17 => (gf m17 a0 9 54 4).bind fun g21 => some (g21, m17))
theorem c_M_undo {d : Nat} (hd : 1 ≤ d) {a0 : Int} {M : Mem} {x : Int × Mem} (h : D_M_undo a0 M = some x) : Ct d Y_M_undo [(2, a0)] M (some (0, x.1), x.2) 0 0 := by
  refine ct_of yk_M_undo (Nat.le_of_ble_eq_true rfl) ?_
  rw [D_M_undo] at h
  show Rn Y_M_undo d 0 0 0 0 (some (0, x.1), x.2) 0 [(0, (2, a0))] [] M
  refine r_aload_n (pc := 0) 0 (n := 0) (by decide +kernel) rfl rfl ?_
  obtain ⟨g1, q1, h⟩ := bnd h
  refine r_get (pc := 1) (by decide +kernel) fl_M_132.r (by decide) rfl q1 ?_
  refine r_if_ne (pc := 4) (off := 6) (tgt := 10) (by decide +kernel) (by decide) (fun c4 => ?_) (fun c4 => ?_)
  · have h := ite_f c4 h
    refine r_aload_n (pc := 10) 0 (n := 0) (by decide +kernel) rfl rfl ?_
    refine r_dup (pc := 11) (by decide +kernel) rfl ?_
    obtain ⟨g12, q12, h⟩ := bnd h
    refine r_get (pc := 12) (by decide +kernel) fl_M_132.r (by decide) rfl q12 ?_
    refine r_iconst (pc := 15) (z := 1) (by decide +kernel) ⟨by decide, by decide⟩ ?_
    refine r_isub (pc := 16) (by decide +kernel) ?_
    obtain ⟨m17, q17, h⟩ := bnd h
    refine r_put (pc := 17) (by decide +kernel) fl_M_132 (by decide) (Or.inr nf_9_4) rfl (fun h3 => by cases h3) q17 ?_
    refine r_aload_n (pc := 20) 0 (n := 0) (by decide +kernel) rfl rfl ?_
    obtain ⟨g21, q21, h⟩ := bnd h
    refine r_get (pc := 21) (by decide +kernel) fl_M_132.r (by decide) rfl q21 ?_
    obtain rfl := Option.some.inj h
    exact r_ret (pc := 24) (r := some (0, g21)) (by decide +kernel) rfl trivial (Nat.le_of_ble_eq_true rfl) (Nat.le_of_ble_eq_true rfl)
  · have h := ite_t c4 h
    refine r_bipush (pc := 7) (z := (-3)) (by decide +kernel) ⟨by decide, by decide⟩ ?_
    obtain rfl := Option.some.inj h
    exact r_ret (pc := 9) (r := some (0, (-3))) (by decide +kernel) rfl trivial (Nat.le_of_ble_eq_true rfl) (Nat.le_of_ble_eq_true rfl)

/-! TreeTonguesModel.classes(I)I -/
noncomputable def D_M_classes (a0 a1 : Int) (M : Mem) : Option (Int × Mem) := (ck M a0 9 54).bind fun _ => (D_M_isTongue a0 a1 M).bind fun x2 => if x2.1 = 0 then (some ((-2), x2.2)) else ((ck x2.2 a0 9 54).bind fun _ => (D_M_load a0 a1 16 x2.2).bind fun x17 => if 0 ≤ x17.1 then ((gf x17.2 a0 9 54 13).bind fun g29 => (rd x17.2 10 g29 16).bind fun e34 => some (e34, x17.2)) else (some ((-5), x17.2)))
theorem c_M_classes {d : Nat} (hd : 9 ≤ d) {a0 a1 : Int} {M : Mem} {x : Int × Mem} (h : D_M_classes a0 a1 M = some x) : Ct d Y_M_classes [(2, a0), (0, a1)] M (some (0, x.1), x.2) 0 0 := by
  refine ct_of yk_M_classes (Nat.le_of_ble_eq_true rfl) ?_
  rw [D_M_classes] at h
  show Rn Y_M_classes d 0 0 0 0 (some (0, x.1), x.2) 0 [(0, (2, a0)), (1, (0, a1))] [] M
  refine r_aload_n (pc := 0) 0 (n := 0) (by decide +kernel) rfl rfl ?_
  refine r_iload_n (pc := 1) 1 (n := 1) (by decide +kernel) rfl rfl ?_
  obtain ⟨_, q2c, h⟩ := bnd h
  obtain ⟨x2, q2, h⟩ := bnd h
  refine r_callV (pc := 2) (i := 146) (d2 := d - 1) (As := [(0, a1)]) (st := []) (st1 := [(0, a1), (2, a0)]) (by decide +kernel) yk_M_isTongue (by decide) rfl ⟨ml_M_146, vk_M_isTongue⟩ np_M_isTongue rfl (by omega) q2c (c_M_isTongue (d := d - 1) (by omega) q2) (Nat.le_of_ble_eq_true rfl) (Nat.le_of_ble_eq_true rfl) (Nat.le_of_ble_eq_true rfl) rfl ?_
  show Rn _ d _ _ 0 0 _ 5 [(0, (2, a0)), (1, (0, a1))] [(0, x2.1)] x2.2
  refine r_if_ne (pc := 5) (off := 8) (tgt := 13) (by decide +kernel) (by decide) (fun c5 => ?_) (fun c5 => ?_)
  · have h := ite_f c5 h
    refine r_aload_n (pc := 13) 0 (n := 0) (by decide +kernel) rfl rfl ?_
    refine r_iload_n (pc := 14) 1 (n := 1) (by decide +kernel) rfl rfl ?_
    refine r_bipush (pc := 15) (z := 16) (by decide +kernel) ⟨by decide, by decide⟩ ?_
    obtain ⟨_, q17c, h⟩ := bnd h
    obtain ⟨x17, q17, h⟩ := bnd h
    refine r_callV (pc := 17) (i := 260) (d2 := d - 1) (As := [(0, a1), (0, 16)]) (st := []) (st1 := [(0, 16), (0, a1), (2, a0)]) (by decide +kernel) yk_M_load (by decide) rfl ⟨ml_M_260, vk_M_load⟩ np_M_load rfl (by omega) q17c (c_M_load (d := d - 1) (by omega) q17) (Nat.le_of_ble_eq_true rfl) (Nat.le_of_ble_eq_true rfl) (Nat.le_of_ble_eq_true rfl) rfl ?_
    show Rn _ d _ _ 0 0 _ 20 [(0, (2, a0)), (1, (0, a1))] [(0, x17.1)] x17.2
    refine r_if_ge (pc := 20) (off := 8) (tgt := 28) (by decide +kernel) (by decide) (fun c20 => ?_) (fun c20 => ?_)
    · have h := ite_t c20 h
      refine r_aload_n (pc := 28) 0 (n := 0) (by decide +kernel) rfl rfl ?_
      obtain ⟨g29, q29, h⟩ := bnd h
      refine r_get (pc := 29) (by decide +kernel) fl_M_41.r (by decide) rfl q29 ?_
      refine r_bipush (pc := 32) (z := 16) (by decide +kernel) ⟨by decide, by decide⟩ ?_
      obtain ⟨e34, q34, h⟩ := bnd h
      refine r_iald (pc := 34) (by decide +kernel) q34 ?_
      obtain rfl := Option.some.inj h
      exact r_ret (pc := 35) (r := some (0, e34)) (by decide +kernel) rfl trivial (Nat.le_of_ble_eq_true rfl) (Nat.le_of_ble_eq_true rfl)
    · have h := ite_f c20 h
      refine r_bipush (pc := 23) (z := (-5)) (by decide +kernel) ⟨by decide, by decide⟩ ?_
      refine r_goto (pc := 25) (off := 10) (tgt := 35) (by decide +kernel) (by decide) ?_
      obtain rfl := Option.some.inj h
      exact r_ret (pc := 35) (r := some (0, (-5))) (by decide +kernel) rfl trivial (Nat.le_of_ble_eq_true rfl) (Nat.le_of_ble_eq_true rfl)
  · have h := ite_t c5 h
    refine r_bipush (pc := 8) (z := (-2)) (by decide +kernel) ⟨by decide, by decide⟩ ?_
    refine r_goto (pc := 10) (off := 25) (tgt := 35) (by decide +kernel) (by decide) ?_
    obtain rfl := Option.some.inj h
    exact r_ret (pc := 35) (r := some (0, (-2))) (by decide +kernel) rfl trivial (Nat.le_of_ble_eq_true rfl) (Nat.le_of_ble_eq_true rfl)

/-! TreeTonguesModel.go(IIII)I -/
noncomputable def D_M_go (a0 a1 a2 a3 a4 : Int) (M : Mem) : Option (Int × Mem) := (ck M a0 9 54).bind fun _ => (D_M_isTongue a0 a1 M).bind fun x2 => if x2.1 = 0 then (some ((-2), x2.2)) else ((ck x2.2 a0 9 54).bind fun _ => (D_M_isSign a0 a2 x2.2).bind fun x10 => if x10.1 = 0 then (some ((-2), x10.2)) else ((ck x10.2 a0 9 54).bind fun _ => (D_M_load a0 a1 16 x10.2).bind fun x23 => if 0 ≤ x23.1 then ((gf x23.2 a0 9 54 13).bind fun g33 => (rd x23.2 10 g33 16).bind fun e38 => lt (wr (e38 - 1)) fun u5_41 => (gf x23.2 a0 9 54 1).bind fun g44 => (rd x23.2 10 g44 a2).bind fun e48 => (if e48 ≤ 0 then (some (0, x23.2)) else ((D_M_in a3 0 u5_41 x23.2).bind fun x58 => if x58.1 = 0 then (some (1, x58.2)) else (some (0, x58.2)))).bind fun (t49 : Int × Mem) => if t49.1 = 0 then ((gf t49.2 a0 9 54 1).bind fun g65 => (rd t49.2 10 g65 a2).bind fun e69 => (if e69 ≤ 1 then (some (0, t49.2)) else ((D_M_in a4 0 u5_41 t49.2).bind fun x81 => if x81.1 = 0 then (some (1, x81.2)) else (some (0, x81.2)))).bind fun (t71 : Int × Mem) => if t71.1 = 0 then ((gf t71.2 a0 9 54 1).bind fun g95 => (rd t71.2 10 g95 a2).bind fun e99 => (if e99 ≤ 0 then (some 0) else (some a3)).bind fun (t100 : Int) => (gf t71.2 a0 9 54 1).bind fun g109 => (rd t71.2 10 g109 a2).bind fun e113 => (if e113 ≤ 1 then (some 0) else (some a4)).bind fun (t115 : Int) => (ck t71.2 a0 9 54).bind fun _ => (D_M_step a0 16 a2 t100 t115 t71.2).bind fun x124 => some (x124.1, x124.2)) else (some ((-2), t71.2))) else (some ((-2), t49.2))) else (some ((-5), x23.2))))
theorem c_M_go {d : Nat} (hd : 9 ≤ d) {a0 a1 a2 a3 a4 : Int} {M : Mem} {x : Int × Mem} (h : D_M_go a0 a1 a2 a3 a4 M = some x) : Ct d Y_M_go [(2, a0), (0, a1), (0, a2), (0, a3), (0, a4)] M (some (0, x.1), x.2) 0 0 := by
  refine ct_of yk_M_go (Nat.le_of_ble_eq_true rfl) ?_
  rw [D_M_go] at h
  show Rn Y_M_go d 0 0 0 0 (some (0, x.1), x.2) 0 [(0, (2, a0)), (1, (0, a1)), (2, (0, a2)), (3, (0, a3)), (4, (0, a4))] [] M
  refine r_aload_n (pc := 0) 0 (n := 0) (by decide +kernel) rfl rfl ?_
  refine r_iload_n (pc := 1) 1 (n := 1) (by decide +kernel) rfl rfl ?_
  obtain ⟨_, q2c, h⟩ := bnd h
  obtain ⟨x2, q2, h⟩ := bnd h
  refine r_callV (pc := 2) (i := 146) (d2 := d - 1) (As := [(0, a1)]) (st := []) (st1 := [(0, a1), (2, a0)]) (by decide +kernel) yk_M_isTongue (by decide) rfl ⟨ml_M_146, vk_M_isTongue⟩ np_M_isTongue rfl (by omega) q2c (c_M_isTongue (d := d - 1) (by omega) q2) (Nat.le_of_ble_eq_true rfl) (Nat.le_of_ble_eq_true rfl) (Nat.le_of_ble_eq_true rfl) rfl ?_
  show Rn _ d _ _ 0 0 _ 5 [(0, (2, a0)), (1, (0, a1)), (2, (0, a2)), (3, (0, a3)), (4, (0, a4))] [(0, x2.1)] x2.2
  refine r_if_eq (pc := 5) (off := 11) (tgt := 16) (by decide +kernel) (by decide) (fun c5 => ?_) (fun c5 => ?_)
  · have h := ite_t c5 h
    refine r_bipush (pc := 16) (z := (-2)) (by decide +kernel) ⟨by decide, by decide⟩ ?_
    obtain rfl := Option.some.inj h
    exact r_ret (pc := 18) (r := some (0, (-2))) (by decide +kernel) rfl trivial (Nat.le_of_ble_eq_true rfl) (Nat.le_of_ble_eq_true rfl)
  · have h := ite_f c5 h
    refine r_aload_n (pc := 8) 0 (n := 0) (by decide +kernel) rfl rfl ?_
    refine r_iload_n (pc := 9) 2 (n := 2) (by decide +kernel) rfl rfl ?_
    obtain ⟨_, q10c, h⟩ := bnd h
    obtain ⟨x10, q10, h⟩ := bnd h
    refine r_callV (pc := 10) (i := 137) (d2 := d - 1) (As := [(0, a2)]) (st := []) (st1 := [(0, a2), (2, a0)]) (by decide +kernel) yk_M_isSign (by decide) rfl ⟨ml_M_137, vk_M_isSign⟩ np_M_isSign rfl (by omega) q10c (c_M_isSign (d := d - 1) (by omega) q10) (Nat.le_of_ble_eq_true rfl) (Nat.le_of_ble_eq_true rfl) (Nat.le_of_ble_eq_true rfl) rfl ?_
    show Rn _ d _ _ 0 0 _ 13 [(0, (2, a0)), (1, (0, a1)), (2, (0, a2)), (3, (0, a3)), (4, (0, a4))] [(0, x10.1)] x10.2
    refine r_if_ne (pc := 13) (off := 6) (tgt := 19) (by decide +kernel) (by decide) (fun c13 => ?_) (fun c13 => ?_)
    · have h := ite_f c13 h
      refine r_aload_n (pc := 19) 0 (n := 0) (by decide +kernel) rfl rfl ?_
      refine r_iload_n (pc := 20) 1 (n := 1) (by decide +kernel) rfl rfl ?_
      refine r_bipush (pc := 21) (z := 16) (by decide +kernel) ⟨by decide, by decide⟩ ?_
      obtain ⟨_, q23c, h⟩ := bnd h
      obtain ⟨x23, q23, h⟩ := bnd h
      refine r_callV (pc := 23) (i := 260) (d2 := d - 1) (As := [(0, a1), (0, 16)]) (st := []) (st1 := [(0, 16), (0, a1), (2, a0)]) (by decide +kernel) yk_M_load (by decide) rfl ⟨ml_M_260, vk_M_load⟩ np_M_load rfl (by omega) q23c (c_M_load (d := d - 1) (by omega) q23) (Nat.le_of_ble_eq_true rfl) (Nat.le_of_ble_eq_true rfl) (Nat.le_of_ble_eq_true rfl) rfl ?_
      show Rn _ d _ _ 0 0 _ 26 [(0, (2, a0)), (1, (0, a1)), (2, (0, a2)), (3, (0, a3)), (4, (0, a4))] [(0, x23.1)] x23.2
      refine r_if_ge (pc := 26) (off := 6) (tgt := 32) (by decide +kernel) (by decide) (fun c26 => ?_) (fun c26 => ?_)
      · have h := ite_t c26 h
        refine r_aload_n (pc := 32) 0 (n := 0) (by decide +kernel) rfl rfl ?_
        obtain ⟨g33, q33, h⟩ := bnd h
        refine r_get (pc := 33) (by decide +kernel) fl_M_41.r (by decide) rfl q33 ?_
        refine r_bipush (pc := 36) (z := 16) (by decide +kernel) ⟨by decide, by decide⟩ ?_
        obtain ⟨e38, q38, h⟩ := bnd h
        refine r_iald (pc := 38) (by decide +kernel) q38 ?_
        refine r_iconst (pc := 39) (z := 1) (by decide +kernel) ⟨by decide, by decide⟩ ?_
        refine r_isub (pc := 40) (by decide +kernel) ?_
        obtain ⟨u5_41, q41, h⟩ := lt_o h
        refine r_eq q41 ?_
        refine r_istore (pc := 41) (lv' := [(5, (0, u5_41)), (0, (2, a0)), (1, (0, a1)), (2, (0, a2)), (3, (0, a3)), (4, (0, a4))]) (by decide +kernel) (Nat.le_of_ble_eq_true rfl) rfl ?_
        refine r_aload_n (pc := 43) 1 (n := 0) (by decide +kernel) rfl rfl ?_
        obtain ⟨g44, q44, h⟩ := bnd h
        refine r_get (pc := 44) (by decide +kernel) fl_M_7.r (by decide) rfl q44 ?_
        refine r_iload_n (pc := 47) 3 (n := 2) (by decide +kernel) rfl rfl ?_
        obtain ⟨e48, q48, h⟩ := bnd h
        refine r_iald (pc := 48) (by decide +kernel) q48 ?_
        obtain ⟨t49, ht49, h⟩ := bnd h
        have E49_0 : t49.1 = 0 → Rn Y_M_go d 0 0 0 0 (some (0, x.1), x.2) 64 [(0, (2, a0)), (2, (0, a2)), (3, (0, a3)), (4, (0, a4)), (5, (0, u5_41))] [] t49.2 := by
          intro y0
          have h := ite_t y0 h
          refine r_aload_n (pc := 64) 0 (n := 0) (by decide +kernel) rfl rfl ?_
          obtain ⟨g65, q65, h⟩ := bnd h
          refine r_get (pc := 65) (by decide +kernel) fl_M_7.r (by decide) rfl q65 ?_
          refine r_iload_n (pc := 68) 1 (n := 2) (by decide +kernel) rfl rfl ?_
          obtain ⟨e69, q69, h⟩ := bnd h
          refine r_iald (pc := 69) (by decide +kernel) q69 ?_
          refine r_iconst (pc := 70) (z := 1) (by decide +kernel) ⟨by decide, by decide⟩ ?_
          obtain ⟨t71, ht71, h⟩ := bnd h
          have E71_0 : t71.1 = 0 → Rn Y_M_go d 0 0 0 0 (some (0, x.1), x.2) 90 [(0, (2, a0)), (2, (0, a2)), (3, (0, a3)), (4, (0, a4))] [] t71.2 := by
            intro y0
            have h := ite_t y0 h
            refine r_aload_n (pc := 90) 0 (n := 0) (by decide +kernel) rfl rfl ?_
            refine r_bipush (pc := 91) (z := 16) (by decide +kernel) ⟨by decide, by decide⟩ ?_
            refine r_iload_n (pc := 93) 1 (n := 2) (by decide +kernel) rfl rfl ?_
            refine r_aload_n (pc := 94) 0 (n := 0) (by decide +kernel) rfl rfl ?_
            obtain ⟨g95, q95, h⟩ := bnd h
            refine r_get (pc := 95) (by decide +kernel) fl_M_7.r (by decide) rfl q95 ?_
            refine r_iload_n (pc := 98) 1 (n := 2) (by decide +kernel) rfl rfl ?_
            obtain ⟨e99, q99, h⟩ := bnd h
            refine r_iald (pc := 99) (by decide +kernel) q99 ?_
            obtain ⟨t100, ht100, h⟩ := bnd h
            have E100_0 : Rn Y_M_go d 0 0 0 0 (some (0, x.1), x.2) 108 [(0, (2, a0)), (2, (0, a2)), (4, (0, a4))] [(0, t100), (0, a2), (0, 16), (2, a0)] t71.2 := by
              refine r_aload_n (pc := 108) 0 (n := 0) (by decide +kernel) rfl rfl ?_
              obtain ⟨g109, q109, h⟩ := bnd h
              refine r_get (pc := 109) (by decide +kernel) fl_M_7.r (by decide) rfl q109 ?_
              refine r_iload_n (pc := 112) 1 (n := 2) (by decide +kernel) rfl rfl ?_
              obtain ⟨e113, q113, h⟩ := bnd h
              refine r_iald (pc := 113) (by decide +kernel) q113 ?_
              refine r_iconst (pc := 114) (z := 1) (by decide +kernel) ⟨by decide, by decide⟩ ?_
              obtain ⟨t115, ht115, h⟩ := bnd h
              have E115_0 : Rn Y_M_go d 0 0 0 0 (some (0, x.1), x.2) 124 [] [(0, t115), (0, t100), (0, a2), (0, 16), (2, a0)] t71.2 := by
                obtain ⟨_, q124c, h⟩ := bnd h
                obtain ⟨x124, q124, h⟩ := bnd h
                refine r_callV (pc := 124) (i := 155) (d2 := d - 1) (As := [(0, 16), (0, a2), (0, t100), (0, t115)]) (st := []) (st1 := [(0, t115), (0, t100), (0, a2), (0, 16), (2, a0)]) (by decide +kernel) yk_M_step (by decide) rfl ⟨ml_M_155, vk_M_step⟩ np_M_step rfl (by omega) q124c (c_M_step (d := d - 1) (by omega) q124) (Nat.le_of_ble_eq_true rfl) (Nat.le_of_ble_eq_true rfl) (Nat.le_of_ble_eq_true rfl) rfl ?_
                show Rn _ d _ _ 0 0 _ 127 [] [(0, x124.1)] x124.2
                obtain rfl := Option.some.inj h
                exact r_ret (pc := 127) (r := some (0, x124.1)) (by decide +kernel) rfl trivial (Nat.le_of_ble_eq_true rfl) (Nat.le_of_ble_eq_true rfl)
              refine r_icmp_le (pc := 115) (off := 8) (tgt := 123) (by decide +kernel) (by decide) (fun c115 => ?_) (fun c115 => ?_)
              · have ht115 := ite_t c115 ht115
                refine r_iconst (pc := 123) (z := 0) (by decide +kernel) ⟨by decide, by decide⟩ ?_
                obtain rfl := Option.some.inj ht115
                refine r_lv [] rfl ?_
                exact E115_0
              · have ht115 := ite_f c115 ht115
                refine r_iload (pc := 118) 2 (by decide +kernel) rfl ?_
                refine r_goto (pc := 120) (off := 4) (tgt := 124) (by decide +kernel) (by decide) ?_
                obtain rfl := Option.some.inj ht115
                refine r_lv [] rfl ?_
                exact E115_0
            refine r_if_le (pc := 100) (off := 7) (tgt := 107) (by decide +kernel) (by decide) (fun c100 => ?_) (fun c100 => ?_)
            · have ht100 := ite_t c100 ht100
              refine r_iconst (pc := 107) (z := 0) (by decide +kernel) ⟨by decide, by decide⟩ ?_
              obtain rfl := Option.some.inj ht100
              refine r_lv [0, 1, 3] rfl ?_
              exact E100_0
            · have ht100 := ite_f c100 ht100
              refine r_iload_n (pc := 103) 2 (n := 3) (by decide +kernel) rfl rfl ?_
              refine r_goto (pc := 104) (off := 4) (tgt := 108) (by decide +kernel) (by decide) ?_
              obtain rfl := Option.some.inj ht100
              refine r_lv [0, 1, 3] rfl ?_
              exact E100_0
          have E71_1 : ¬ t71.1 = 0 → Rn Y_M_go d 0 0 0 0 (some (0, x.1), x.2) 87 [] [] t71.2 := by
            intro n0
            have h := ite_f n0 h
            refine r_bipush (pc := 87) (z := (-2)) (by decide +kernel) ⟨by decide, by decide⟩ ?_
            obtain rfl := Option.some.inj h
            exact r_ret (pc := 89) (r := some (0, (-2))) (by decide +kernel) rfl trivial (Nat.le_of_ble_eq_true rfl) (Nat.le_of_ble_eq_true rfl)
          refine r_icmp_le (pc := 71) (off := 19) (tgt := 90) (by decide +kernel) (by decide) (fun c71 => ?_) (fun c71 => ?_)
          · have ht71 := ite_t c71 ht71
            obtain rfl := Option.some.inj ht71
            refine r_lv [0, 1, 2, 3] rfl ?_
            exact E71_0 rfl
          · have ht71 := ite_f c71 ht71
            refine r_iload (pc := 74) 3 (by decide +kernel) rfl ?_
            refine r_i2l (pc := 76) (by decide +kernel) ?_
            refine r_lconst (pc := 77) (n := 0) (z := 0) (by decide +kernel) rfl ?_
            refine r_iload (pc := 78) 4 (by decide +kernel) rfl ?_
            refine r_i2l (pc := 80) (by decide +kernel) ?_
            obtain ⟨x81, q81, ht71⟩ := bnd ht71
            refine r_callS (pc := 81) (i := 128) (d2 := d - 1) (As := [(1, a4), (1, 0), (1, u5_41)]) (st := []) (st1 := [(1, u5_41), (1, 0), (1, a4)]) (by decide +kernel) yk_M_in ⟨ml_M_128, sk_M_in⟩ np_M_in rfl (by omega) (c_M_in (d := d - 1) (by omega) q81) (Nat.le_of_ble_eq_true rfl) (Nat.le_of_ble_eq_true rfl) (Nat.le_of_ble_eq_true rfl) rfl ?_
            show Rn _ d _ _ 0 0 _ 84 [(0, (2, a0)), (2, (0, a2)), (3, (0, a3)), (4, (0, a4)), (5, (0, u5_41))] [(0, x81.1)] x81.2
            refine r_if_ne (pc := 84) (off := 6) (tgt := 90) (by decide +kernel) (by decide) (fun c84 => ?_) (fun c84 => ?_)
            · have ht71 := ite_f c84 ht71
              obtain rfl := Option.some.inj ht71
              refine r_lv [0, 1, 2, 3] rfl ?_
              exact E71_0 rfl
            · have ht71 := ite_t c84 ht71
              obtain rfl := Option.some.inj ht71
              refine r_lv [] rfl ?_
              exact E71_1 (show ¬ (1 : Int) = 0 by decide)
        have E49_1 : ¬ t49.1 = 0 → Rn Y_M_go d 0 0 0 0 (some (0, x.1), x.2) 87 [] [] t49.2 := by
          intro n0
          have h := ite_f n0 h
          refine r_bipush (pc := 87) (z := (-2)) (by decide +kernel) ⟨by decide, by decide⟩ ?_
          obtain rfl := Option.some.inj h
          exact r_ret (pc := 89) (r := some (0, (-2))) (by decide +kernel) rfl trivial (Nat.le_of_ble_eq_true rfl) (Nat.le_of_ble_eq_true rfl)
        refine r_if_le (pc := 49) (off := 15) (tgt := 64) (by decide +kernel) (by decide) (fun c49 => ?_) (fun c49 => ?_)
        · have ht49 := ite_t c49 ht49
          obtain rfl := Option.some.inj ht49
          refine r_lv [1, 3, 4, 5, 0] rfl ?_
          exact E49_0 rfl
        · have ht49 := ite_f c49 ht49
          refine r_iload_n (pc := 52) 4 (n := 3) (by decide +kernel) rfl rfl ?_
          refine r_i2l (pc := 53) (by decide +kernel) ?_
          refine r_lconst (pc := 54) (n := 0) (z := 0) (by decide +kernel) rfl ?_
          refine r_iload (pc := 55) 0 (by decide +kernel) rfl ?_
          refine r_i2l (pc := 57) (by decide +kernel) ?_
          obtain ⟨x58, q58, ht49⟩ := bnd ht49
          refine r_callS (pc := 58) (i := 128) (d2 := d - 1) (As := [(1, a3), (1, 0), (1, u5_41)]) (st := []) (st1 := [(1, u5_41), (1, 0), (1, a3)]) (by decide +kernel) yk_M_in ⟨ml_M_128, sk_M_in⟩ np_M_in rfl (by omega) (c_M_in (d := d - 1) (by omega) q58) (Nat.le_of_ble_eq_true rfl) (Nat.le_of_ble_eq_true rfl) (Nat.le_of_ble_eq_true rfl) rfl ?_
          show Rn _ d _ _ 0 0 _ 61 [(5, (0, u5_41)), (0, (2, a0)), (1, (0, a1)), (2, (0, a2)), (3, (0, a3)), (4, (0, a4))] [(0, x58.1)] x58.2
          refine r_if_eq (pc := 61) (off := 26) (tgt := 87) (by decide +kernel) (by decide) (fun c61 => ?_) (fun c61 => ?_)
          · have ht49 := ite_t c61 ht49
            obtain rfl := Option.some.inj ht49
            refine r_lv [] rfl ?_
            exact E49_1 (show ¬ (1 : Int) = 0 by decide)
          · have ht49 := ite_f c61 ht49
            obtain rfl := Option.some.inj ht49
            refine r_lv [1, 3, 4, 5, 0] rfl ?_
            exact E49_0 rfl
      · have h := ite_f c26 h
        refine r_bipush (pc := 29) (z := (-5)) (by decide +kernel) ⟨by decide, by decide⟩ ?_
        obtain rfl := Option.some.inj h
        exact r_ret (pc := 31) (r := some (0, (-5))) (by decide +kernel) rfl trivial (Nat.le_of_ble_eq_true rfl) (Nat.le_of_ble_eq_true rfl)
    · have h := ite_t c13 h
      refine r_bipush (pc := 16) (z := (-2)) (by decide +kernel) ⟨by decide, by decide⟩ ?_
      obtain rfl := Option.some.inj h
      exact r_ret (pc := 18) (r := some (0, (-2))) (by decide +kernel) rfl trivial (Nat.le_of_ble_eq_true rfl) (Nat.le_of_ble_eq_true rfl)

/-! TreeTonguesModel.isLast(II)I -/
noncomputable def D_M_isLast (a0 a1 a2 : Int) (M : Mem) : Option (Int × Mem) := (ck M a0 9 54).bind fun _ => (D_M_isTongue a0 a1 M).bind fun x2 => if x2.1 = 0 then (some ((-2), x2.2)) else ((ck x2.2 a0 9 54).bind fun _ => (D_M_load a0 a1 16 x2.2).bind fun x15 => if 0 ≤ x15.1 then ((gf x15.2 a0 9 54 13).bind fun g28 => (rd x15.2 10 g28 16).bind fun e33 => (D_M_in a2 0 (wr (e33 - 1)) x15.2).bind fun x37 => if x37.1 = 0 then (some ((-2), x37.2)) else ((gf x37.2 a0 9 54 15).bind fun g49 => (rd x37.2 12 g49 (wr (96 + a2))).bind fun e56 => if e56 = 0 then (some (0, x37.2)) else (some (1, x37.2)))) else (some ((-5), x15.2)))
theorem c_M_isLast {d : Nat} (hd : 9 ≤ d) {a0 a1 a2 : Int} {M : Mem} {x : Int × Mem} (h : D_M_isLast a0 a1 a2 M = some x) : Ct d Y_M_isLast [(2, a0), (0, a1), (0, a2)] M (some (0, x.1), x.2) 0 0 := by
  refine ct_of yk_M_isLast (Nat.le_of_ble_eq_true rfl) ?_
  rw [D_M_isLast] at h
  show Rn Y_M_isLast d 0 0 0 0 (some (0, x.1), x.2) 0 [(0, (2, a0)), (1, (0, a1)), (2, (0, a2))] [] M
  refine r_aload_n (pc := 0) 0 (n := 0) (by decide +kernel) rfl rfl ?_
  refine r_iload_n (pc := 1) 1 (n := 1) (by decide +kernel) rfl rfl ?_
  obtain ⟨_, q2c, h⟩ := bnd h
  obtain ⟨x2, q2, h⟩ := bnd h
  refine r_callV (pc := 2) (i := 146) (d2 := d - 1) (As := [(0, a1)]) (st := []) (st1 := [(0, a1), (2, a0)]) (by decide +kernel) yk_M_isTongue (by decide) rfl ⟨ml_M_146, vk_M_isTongue⟩ np_M_isTongue rfl (by omega) q2c (c_M_isTongue (d := d - 1) (by omega) q2) (Nat.le_of_ble_eq_true rfl) (Nat.le_of_ble_eq_true rfl) (Nat.le_of_ble_eq_true rfl) rfl ?_
  show Rn _ d _ _ 0 0 _ 5 [(0, (2, a0)), (1, (0, a1)), (2, (0, a2))] [(0, x2.1)] x2.2
  refine r_if_ne (pc := 5) (off := 6) (tgt := 11) (by decide +kernel) (by decide) (fun c5 => ?_) (fun c5 => ?_)
  · have h := ite_f c5 h
    refine r_aload_n (pc := 11) 0 (n := 0) (by decide +kernel) rfl rfl ?_
    refine r_iload_n (pc := 12) 1 (n := 1) (by decide +kernel) rfl rfl ?_
    refine r_bipush (pc := 13) (z := 16) (by decide +kernel) ⟨by decide, by decide⟩ ?_
    obtain ⟨_, q15c, h⟩ := bnd h
    obtain ⟨x15, q15, h⟩ := bnd h
    refine r_callV (pc := 15) (i := 260) (d2 := d - 1) (As := [(0, a1), (0, 16)]) (st := []) (st1 := [(0, 16), (0, a1), (2, a0)]) (by decide +kernel) yk_M_load (by decide) rfl ⟨ml_M_260, vk_M_load⟩ np_M_load rfl (by omega) q15c (c_M_load (d := d - 1) (by omega) q15) (Nat.le_of_ble_eq_true rfl) (Nat.le_of_ble_eq_true rfl) (Nat.le_of_ble_eq_true rfl) rfl ?_
    show Rn _ d _ _ 0 0 _ 18 [(0, (2, a0)), (1, (0, a1)), (2, (0, a2))] [(0, x15.1)] x15.2
    refine r_if_ge (pc := 18) (off := 6) (tgt := 24) (by decide +kernel) (by decide) (fun c18 => ?_) (fun c18 => ?_)
    · have h := ite_t c18 h
      refine r_iload_n (pc := 24) 2 (n := 2) (by decide +kernel) rfl rfl ?_
      refine r_i2l (pc := 25) (by decide +kernel) ?_
      refine r_lconst (pc := 26) (n := 0) (z := 0) (by decide +kernel) rfl ?_
      refine r_aload_n (pc := 27) 0 (n := 0) (by decide +kernel) rfl rfl ?_
      obtain ⟨g28, q28, h⟩ := bnd h
      refine r_get (pc := 28) (by decide +kernel) fl_M_41.r (by decide) rfl q28 ?_
      refine r_bipush (pc := 31) (z := 16) (by decide +kernel) ⟨by decide, by decide⟩ ?_
      obtain ⟨e33, q33, h⟩ := bnd h
      refine r_iald (pc := 33) (by decide +kernel) q33 ?_
      refine r_iconst (pc := 34) (z := 1) (by decide +kernel) ⟨by decide, by decide⟩ ?_
      refine r_isub (pc := 35) (by decide +kernel) ?_
      refine r_i2l (pc := 36) (by decide +kernel) ?_
      obtain ⟨x37, q37, h⟩ := bnd h
      refine r_callS (pc := 37) (i := 128) (d2 := d - 1) (As := [(1, a2), (1, 0), (1, wr (e33 - 1))]) (st := []) (st1 := [(1, wr (e33 - 1)), (1, 0), (1, a2)]) (by decide +kernel) yk_M_in ⟨ml_M_128, sk_M_in⟩ np_M_in rfl (by omega) (c_M_in (d := d - 1) (by omega) q37) (Nat.le_of_ble_eq_true rfl) (Nat.le_of_ble_eq_true rfl) (Nat.le_of_ble_eq_true rfl) rfl ?_
      show Rn _ d _ _ 0 0 _ 40 [(0, (2, a0)), (1, (0, a1)), (2, (0, a2))] [(0, x37.1)] x37.2
      refine r_if_ne (pc := 40) (off := 8) (tgt := 48) (by decide +kernel) (by decide) (fun c40 => ?_) (fun c40 => ?_)
      · have h := ite_f c40 h
        refine r_aload_n (pc := 48) 0 (n := 0) (by decide +kernel) rfl rfl ?_
        obtain ⟨g49, q49, h⟩ := bnd h
        refine r_get (pc := 49) (by decide +kernel) fl_M_47.r (by decide) rfl q49 ?_
        refine r_bipush (pc := 52) (z := 96) (by decide +kernel) ⟨by decide, by decide⟩ ?_
        refine r_iload_n (pc := 54) 2 (n := 2) (by decide +kernel) rfl rfl ?_
        refine r_iadd (pc := 55) (by decide +kernel) ?_
        obtain ⟨e56, q56, h⟩ := bnd h
        refine r_zald (pc := 56) (by decide +kernel) q56 ?_
        refine r_if_eq (pc := 57) (off := 7) (tgt := 64) (by decide +kernel) (by decide) (fun c57 => ?_) (fun c57 => ?_)
        · have h := ite_t c57 h
          refine r_iconst (pc := 64) (z := 0) (by decide +kernel) ⟨by decide, by decide⟩ ?_
          obtain rfl := Option.some.inj h
          exact r_ret (pc := 65) (r := some (0, 0)) (by decide +kernel) rfl trivial (Nat.le_of_ble_eq_true rfl) (Nat.le_of_ble_eq_true rfl)
        · have h := ite_f c57 h
          refine r_iconst (pc := 60) (z := 1) (by decide +kernel) ⟨by decide, by decide⟩ ?_
          refine r_goto (pc := 61) (off := 4) (tgt := 65) (by decide +kernel) (by decide) ?_
          obtain rfl := Option.some.inj h
          exact r_ret (pc := 65) (r := some (0, 1)) (by decide +kernel) rfl trivial (Nat.le_of_ble_eq_true rfl) (Nat.le_of_ble_eq_true rfl)
      · have h := ite_t c40 h
        refine r_bipush (pc := 43) (z := (-2)) (by decide +kernel) ⟨by decide, by decide⟩ ?_
        refine r_goto (pc := 45) (off := 20) (tgt := 65) (by decide +kernel) (by decide) ?_
        obtain rfl := Option.some.inj h
        exact r_ret (pc := 65) (r := some (0, (-2))) (by decide +kernel) rfl trivial (Nat.le_of_ble_eq_true rfl) (Nat.le_of_ble_eq_true rfl)
    · have h := ite_f c18 h
      refine r_bipush (pc := 21) (z := (-5)) (by decide +kernel) ⟨by decide, by decide⟩ ?_
      obtain rfl := Option.some.inj h
      exact r_ret (pc := 23) (r := some (0, (-5))) (by decide +kernel) rfl trivial (Nat.le_of_ble_eq_true rfl) (Nat.le_of_ble_eq_true rfl)
  · have h := ite_t c5 h
    refine r_bipush (pc := 8) (z := (-2)) (by decide +kernel) ⟨by decide, by decide⟩ ?_
    obtain rfl := Option.some.inj h
    exact r_ret (pc := 10) (r := some (0, (-2))) (by decide +kernel) rfl trivial (Nat.le_of_ble_eq_true rfl) (Nat.le_of_ble_eq_true rfl)

/-! TreeTonguesModel.size(II)I -/
noncomputable def D_M_size (a0 a1 a2 : Int) (M : Mem) : Option (Int × Mem) := (ck M a0 9 54).bind fun _ => (D_M_isTongue a0 a1 M).bind fun x2 => if x2.1 = 0 then (some ((-2), x2.2)) else ((ck x2.2 a0 9 54).bind fun _ => (D_M_load a0 a1 16 x2.2).bind fun x15 => if 0 ≤ x15.1 then ((gf x15.2 a0 9 54 13).bind fun g28 => (rd x15.2 10 g28 16).bind fun e33 => (D_M_in a2 0 (wr (e33 - 1)) x15.2).bind fun x37 => if x37.1 = 0 then (some ((-2), x37.2)) else ((gf x37.2 a0 9 54 16).bind fun g44 => (rd x37.2 10 g44 (wr (96 + a2))).bind fun e51 => some (e51, x37.2))) else (some ((-5), x15.2)))
theorem c_M_size {d : Nat} (hd : 9 ≤ d) {a0 a1 a2 : Int} {M : Mem} {x : Int × Mem} (h : D_M_size a0 a1 a2 M = some x) : Ct d Y_M_size [(2, a0), (0, a1), (0, a2)] M (some (0, x.1), x.2) 0 0 := by
  refine ct_of yk_M_size (Nat.le_of_ble_eq_true rfl) ?_
  rw [D_M_size] at h
  show Rn Y_M_size d 0 0 0 0 (some (0, x.1), x.2) 0 [(0, (2, a0)), (1, (0, a1)), (2, (0, a2))] [] M
  refine r_aload_n (pc := 0) 0 (n := 0) (by decide +kernel) rfl rfl ?_
  refine r_iload_n (pc := 1) 1 (n := 1) (by decide +kernel) rfl rfl ?_
  obtain ⟨_, q2c, h⟩ := bnd h
  obtain ⟨x2, q2, h⟩ := bnd h
  refine r_callV (pc := 2) (i := 146) (d2 := d - 1) (As := [(0, a1)]) (st := []) (st1 := [(0, a1), (2, a0)]) (by decide +kernel) yk_M_isTongue (by decide) rfl ⟨ml_M_146, vk_M_isTongue⟩ np_M_isTongue rfl (by omega) q2c (c_M_isTongue (d := d - 1) (by omega) q2) (Nat.le_of_ble_eq_true rfl) (Nat.le_of_ble_eq_true rfl) (Nat.le_of_ble_eq_true rfl) rfl ?_
  show Rn _ d _ _ 0 0 _ 5 [(0, (2, a0)), (1, (0, a1)), (2, (0, a2))] [(0, x2.1)] x2.2
  refine r_if_ne (pc := 5) (off := 6) (tgt := 11) (by decide +kernel) (by decide) (fun c5 => ?_) (fun c5 => ?_)
  · have h := ite_f c5 h
    refine r_aload_n (pc := 11) 0 (n := 0) (by decide +kernel) rfl rfl ?_
    refine r_iload_n (pc := 12) 1 (n := 1) (by decide +kernel) rfl rfl ?_
    refine r_bipush (pc := 13) (z := 16) (by decide +kernel) ⟨by decide, by decide⟩ ?_
    obtain ⟨_, q15c, h⟩ := bnd h
    obtain ⟨x15, q15, h⟩ := bnd h
    refine r_callV (pc := 15) (i := 260) (d2 := d - 1) (As := [(0, a1), (0, 16)]) (st := []) (st1 := [(0, 16), (0, a1), (2, a0)]) (by decide +kernel) yk_M_load (by decide) rfl ⟨ml_M_260, vk_M_load⟩ np_M_load rfl (by omega) q15c (c_M_load (d := d - 1) (by omega) q15) (Nat.le_of_ble_eq_true rfl) (Nat.le_of_ble_eq_true rfl) (Nat.le_of_ble_eq_true rfl) rfl ?_
    show Rn _ d _ _ 0 0 _ 18 [(0, (2, a0)), (1, (0, a1)), (2, (0, a2))] [(0, x15.1)] x15.2
    refine r_if_ge (pc := 18) (off := 6) (tgt := 24) (by decide +kernel) (by decide) (fun c18 => ?_) (fun c18 => ?_)
    · have h := ite_t c18 h
      refine r_iload_n (pc := 24) 2 (n := 2) (by decide +kernel) rfl rfl ?_
      refine r_i2l (pc := 25) (by decide +kernel) ?_
      refine r_lconst (pc := 26) (n := 0) (z := 0) (by decide +kernel) rfl ?_
      refine r_aload_n (pc := 27) 0 (n := 0) (by decide +kernel) rfl rfl ?_
      obtain ⟨g28, q28, h⟩ := bnd h
      refine r_get (pc := 28) (by decide +kernel) fl_M_41.r (by decide) rfl q28 ?_
      refine r_bipush (pc := 31) (z := 16) (by decide +kernel) ⟨by decide, by decide⟩ ?_
      obtain ⟨e33, q33, h⟩ := bnd h
      refine r_iald (pc := 33) (by decide +kernel) q33 ?_
      refine r_iconst (pc := 34) (z := 1) (by decide +kernel) ⟨by decide, by decide⟩ ?_
      refine r_isub (pc := 35) (by decide +kernel) ?_
      refine r_i2l (pc := 36) (by decide +kernel) ?_
      obtain ⟨x37, q37, h⟩ := bnd h
      refine r_callS (pc := 37) (i := 128) (d2 := d - 1) (As := [(1, a2), (1, 0), (1, wr (e33 - 1))]) (st := []) (st1 := [(1, wr (e33 - 1)), (1, 0), (1, a2)]) (by decide +kernel) yk_M_in ⟨ml_M_128, sk_M_in⟩ np_M_in rfl (by omega) (c_M_in (d := d - 1) (by omega) q37) (Nat.le_of_ble_eq_true rfl) (Nat.le_of_ble_eq_true rfl) (Nat.le_of_ble_eq_true rfl) rfl ?_
      show Rn _ d _ _ 0 0 _ 40 [(0, (2, a0)), (1, (0, a1)), (2, (0, a2))] [(0, x37.1)] x37.2
      refine r_if_eq (pc := 40) (off := 15) (tgt := 55) (by decide +kernel) (by decide) (fun c40 => ?_) (fun c40 => ?_)
      · have h := ite_t c40 h
        refine r_bipush (pc := 55) (z := (-2)) (by decide +kernel) ⟨by decide, by decide⟩ ?_
        obtain rfl := Option.some.inj h
        exact r_ret (pc := 57) (r := some (0, (-2))) (by decide +kernel) rfl trivial (Nat.le_of_ble_eq_true rfl) (Nat.le_of_ble_eq_true rfl)
      · have h := ite_f c40 h
        refine r_aload_n (pc := 43) 0 (n := 0) (by decide +kernel) rfl rfl ?_
        obtain ⟨g44, q44, h⟩ := bnd h
        refine r_get (pc := 44) (by decide +kernel) fl_M_50.r (by decide) rfl q44 ?_
        refine r_bipush (pc := 47) (z := 96) (by decide +kernel) ⟨by decide, by decide⟩ ?_
        refine r_iload_n (pc := 49) 2 (n := 2) (by decide +kernel) rfl rfl ?_
        refine r_iadd (pc := 50) (by decide +kernel) ?_
        obtain ⟨e51, q51, h⟩ := bnd h
        refine r_iald (pc := 51) (by decide +kernel) q51 ?_
        refine r_goto (pc := 52) (off := 5) (tgt := 57) (by decide +kernel) (by decide) ?_
        obtain rfl := Option.some.inj h
        exact r_ret (pc := 57) (r := some (0, e51)) (by decide +kernel) rfl trivial (Nat.le_of_ble_eq_true rfl) (Nat.le_of_ble_eq_true rfl)
    · have h := ite_f c18 h
      refine r_bipush (pc := 21) (z := (-5)) (by decide +kernel) ⟨by decide, by decide⟩ ?_
      obtain rfl := Option.some.inj h
      exact r_ret (pc := 23) (r := some (0, (-5))) (by decide +kernel) rfl trivial (Nat.le_of_ble_eq_true rfl) (Nat.le_of_ble_eq_true rfl)
  · have h := ite_t c5 h
    refine r_bipush (pc := 8) (z := (-2)) (by decide +kernel) ⟨by decide, by decide⟩ ?_
    obtain rfl := Option.some.inj h
    exact r_ret (pc := 10) (r := some (0, (-2))) (by decide +kernel) rfl trivial (Nat.le_of_ble_eq_true rfl) (Nat.le_of_ble_eq_true rfl)

/-! TreeTonguesModel.isTree()Z -/
noncomputable def L_M_isTree_38 (k : Int → Int → Mem → Option (Int × Mem)) (v0 : Int) (v2 : Int) (v3 : Int) : Nat → Int → Int → Int → Mem → Option (Int × Mem)
  | 0 => fun _ _ _ _ => none
  | n + 1 => fun v1 v4 v5 M => if v3 ≤ v5 then (k v1 v4 M) else ((gf M v0 9 54 42).bind fun g50 => (rd M 10 g50 (wr (v1 + (-1)))).bind fun e54 => lt (wr (v4 + e54)) fun u4_56 => L_M_isTree_38 k v0 v2 v3 n (wr (v1 + (-1))) u4_56 (wr (v5 + 1)) M)
noncomputable def L_M_isTree_9 (k : Int → Mem → Option (Int × Mem)) (v0 : Int) : Nat → Int → Int → Mem → Option (Int × Mem)
  | 0 => fun _ _ _ => none
  | n + 1 => fun v1 v2 M => if v2 < 0 then (k v1 M) else ((gf M v0 9 54 1).bind fun g14 => (gf M v0 9 54 2).bind fun g18 => (rd M 10 g18 v2).bind fun e22 => (rd M 10 g14 e22).bind fun e23 => if e23 ≤ v1 then (L_M_isTree_38 (fun w1_38 w4_38 m38 => (gf m38 v0 9 54 42).bind fun g65 => (wt m38 10 g65 w1_38 w4_38).bind fun m71 => (gf m71 v0 9 54 44).bind fun g73 => (wt m71 10 g73 v2 w4_38).bind fun m79 => L_M_isTree_9 k v0 n (wr (w1_38 + 1)) (wr (v2 + (-1))) m79) v0 v2 e23 FU v1 1 0 M) else (some (0, M)))
noncomputable def D_M_isTree (a0 : Int) (M : Mem) : Option (Int × Mem) := (gf M a0 9 54 3).bind fun g3 => lt (wr (g3 - 1)) fun u2_8 => L_M_isTree_9 (fun w1_9 m9 => if w1_9 = 1 then (some (1, m9)) else (some (0, m9))) a0 FU 0 u2_8 M
theorem sL_M_isTree_38 {d mc ms : Nat} (hd : 1 ≤ d) {r : Int × Mem} {k : Int → Int → Mem → Option (Int × Mem)} {v0 : Int} {v2 : Int} {v3 : Int} (hk : ∀ (v1 : Int) (v4 : Int) (M : Mem), k v1 v4 M = some r → Rn Y_M_isTree d mc ms 0 0 (some (0, r.1), r.2) 64 [(0, (2, v0)), (1, (0, v1)), (2, (0, v2)), (4, (0, v4))] [] M) : ∀ (n : Nat) (v1 : Int) (v4 : Int) (v5 : Int) (M : Mem), L_M_isTree_38 k v0 v2 v3 n v1 v4 v5 M = some r → Rn Y_M_isTree d mc ms 0 0 (some (0, r.1), r.2) 38 [(0, (2, v0)), (1, (0, v1)), (2, (0, v2)), (3, (0, v3)), (4, (0, v4)), (5, (0, v5))] [] M := by
  intro n
  induction n with
  | zero => intro _ _ _ _ h; cases h
  | succ n ih =>
    intro v1 v4 v5 M h
    rw [L_M_isTree_38] at h
    refine r_iload (pc := 38) 5 (by decide +kernel) rfl ?_
    refine r_iload_n (pc := 40) 3 (n := 3) (by decide +kernel) rfl rfl ?_
    refine r_icmp_ge (pc := 41) (off := 23) (tgt := 64) (by decide +kernel) (by decide) (fun c41 => ?_) (fun c41 => ?_)
    · have h := ite_t c41 h
      refine r_lv [0, 1, 2, 4] rfl ?_
      exact hk v1 v4 M h
    · have h := ite_f c41 h
      refine r_iinc (pc := 44) 1 (n := (-1)) (lv' := [(1, (0, wr (v1 + (-1)))), (0, (2, v0)), (2, (0, v2)), (3, (0, v3)), (4, (0, v4)), (5, (0, v5))]) (by decide +kernel) rfl (Nat.le_of_ble_eq_true rfl) rfl ?_
      refine r_iload (pc := 47) 4 (by decide +kernel) rfl ?_
      refine r_aload_n (pc := 49) 1 (n := 0) (by decide +kernel) rfl rfl ?_
      obtain ⟨g50, q50, h⟩ := bnd h
      refine r_get (pc := 50) (by decide +kernel) fl_M_93.r (by decide) rfl q50 ?_
      refine r_iload_n (pc := 53) 0 (n := 1) (by decide +kernel) rfl rfl ?_
      obtain ⟨e54, q54, h⟩ := bnd h
      refine r_iald (pc := 54) (by decide +kernel) q54 ?_
      refine r_iadd (pc := 55) (by decide +kernel) ?_
      obtain ⟨u4_56, q56, h⟩ := lt_o h
      refine r_eq q56 ?_
      refine r_istore (pc := 56) (lv' := [(4, (0, u4_56)), (1, (0, wr (v1 + (-1)))), (0, (2, v0)), (2, (0, v2)), (3, (0, v3)), (5, (0, v5))]) (by decide +kernel) (Nat.le_of_ble_eq_true rfl) rfl ?_
      refine r_iinc (pc := 58) 5 (n := 1) (lv' := [(5, (0, wr (v5 + 1))), (4, (0, u4_56)), (1, (0, wr (v1 + (-1)))), (0, (2, v0)), (2, (0, v2)), (3, (0, v3))]) (by decide +kernel) rfl (Nat.le_of_ble_eq_true rfl) rfl ?_
      refine r_goto (pc := 61) (off := (-23)) (tgt := 38) (by decide +kernel) (by decide) ?_
      refine r_lv [3, 2, 4, 5, 1, 0] rfl ?_
      exact ih (wr (v1 + (-1))) u4_56 (wr (v5 + 1)) M h
theorem sL_M_isTree_9 {d mc ms : Nat} (hd : 1 ≤ d) {r : Int × Mem} {k : Int → Mem → Option (Int × Mem)} {v0 : Int} (hk : ∀ (v1 : Int) (M : Mem), k v1 M = some r → Rn Y_M_isTree d mc ms 0 0 (some (0, r.1), r.2) 89 [(1, (0, v1))] [] M) : ∀ (n : Nat) (v1 : Int) (v2 : Int) (M : Mem), L_M_isTree_9 k v0 n v1 v2 M = some r → Rn Y_M_isTree d mc ms 0 0 (some (0, r.1), r.2) 9 [(0, (2, v0)), (1, (0, v1)), (2, (0, v2))] [] M := by
  intro n
  induction n with
  | zero => intro _ _ _ h; cases h
  | succ n ih =>
    intro v1 v2 M h
    rw [L_M_isTree_9] at h
    refine r_iload_n (pc := 9) 2 (n := 2) (by decide +kernel) rfl rfl ?_
    refine r_if_lt (pc := 10) (off := 79) (tgt := 89) (by decide +kernel) (by decide) (fun c10 => ?_) (fun c10 => ?_)
    · have h := ite_t c10 h
      refine r_lv [1] rfl ?_
      exact hk v1 M h
    · have h := ite_f c10 h
      refine r_aload_n (pc := 13) 0 (n := 0) (by decide +kernel) rfl rfl ?_
      obtain ⟨g14, q14, h⟩ := bnd h
      refine r_get (pc := 14) (by decide +kernel) fl_M_7.r (by decide) rfl q14 ?_
      refine r_aload_n (pc := 17) 0 (n := 0) (by decide +kernel) rfl rfl ?_
      obtain ⟨g18, q18, h⟩ := bnd h
      refine r_get (pc := 18) (by decide +kernel) fl_M_13.r (by decide) rfl q18 ?_
      refine r_iload_n (pc := 21) 2 (n := 2) (by decide +kernel) rfl rfl ?_
      obtain ⟨e22, q22, h⟩ := bnd h
      refine r_iald (pc := 22) (by decide +kernel) q22 ?_
      obtain ⟨e23, q23, h⟩ := bnd h
      refine r_iald (pc := 23) (by decide +kernel) q23 ?_
      refine r_istore_n (pc := 24) (n := 3) (lv' := [(3, (0, e23)), (0, (2, v0)), (1, (0, v1)), (2, (0, v2))]) (by decide +kernel) rfl (Nat.le_of_ble_eq_true rfl) rfl ?_
      refine r_iload_n (pc := 25) 2 (n := 1) (by decide +kernel) rfl rfl ?_
      refine r_iload_n (pc := 26) 0 (n := 3) (by decide +kernel) rfl rfl ?_
      refine r_icmp_ge (pc := 27) (off := 5) (tgt := 32) (by decide +kernel) (by decide) (fun c27 => ?_) (fun c27 => ?_)
      · have h := ite_t c27 h
        refine r_iconst (pc := 32) (z := 1) (by decide +kernel) ⟨by decide, by decide⟩ ?_
        refine r_istore (pc := 33) (lv' := [(4, (0, 1)), (3, (0, e23)), (0, (2, v0)), (1, (0, v1)), (2, (0, v2))]) (by decide +kernel) (Nat.le_of_ble_eq_true rfl) rfl ?_
        refine r_iconst (pc := 35) (z := 0) (by decide +kernel) ⟨by decide, by decide⟩ ?_
        refine r_istore (pc := 36) (lv' := [(5, (0, 0)), (4, (0, 1)), (3, (0, e23)), (0, (2, v0)), (1, (0, v1)), (2, (0, v2))]) (by decide +kernel) (Nat.le_of_ble_eq_true rfl) rfl ?_
        refine r_lv [3, 4, 5, 2, 1, 0] rfl ?_
        refine sL_M_isTree_38 (by omega) ?_ _ _ _ _  _ h
        intro w1_38 w4_38 m38 h
        refine r_aload_n (pc := 64) 0 (n := 0) (by decide +kernel) rfl rfl ?_
        obtain ⟨g65, q65, h⟩ := bnd h
        refine r_get (pc := 65) (by decide +kernel) fl_M_93.r (by decide) rfl q65 ?_
        refine r_iload_n (pc := 68) 1 (n := 1) (by decide +kernel) rfl rfl ?_
        refine r_iload (pc := 69) 3 (by decide +kernel) rfl ?_
        obtain ⟨m71, q71, h⟩ := bnd h
        refine r_iast (pc := 71) (by decide +kernel) q71 ?_
        refine r_aload_n (pc := 72) 0 (n := 0) (by decide +kernel) rfl rfl ?_
        obtain ⟨g73, q73, h⟩ := bnd h
        refine r_get (pc := 73) (by decide +kernel) fl_M_99.r (by decide) rfl q73 ?_
        refine r_iload_n (pc := 76) 2 (n := 2) (by decide +kernel) rfl rfl ?_
        refine r_iload (pc := 77) 3 (by decide +kernel) rfl ?_
        obtain ⟨m79, q79, h⟩ := bnd h
        refine r_iast (pc := 79) (by decide +kernel) q79 ?_
        refine r_iinc (pc := 80) 1 (n := 1) (lv' := [(1, (0, wr (w1_38 + 1))), (0, (2, v0)), (2, (0, v2)), (4, (0, w4_38))]) (by decide +kernel) rfl (Nat.le_of_ble_eq_true rfl) rfl ?_
        refine r_iinc (pc := 83) 2 (n := (-1)) (lv' := [(2, (0, wr (v2 + (-1)))), (1, (0, wr (w1_38 + 1))), (0, (2, v0)), (4, (0, w4_38))]) (by decide +kernel) rfl (Nat.le_of_ble_eq_true rfl) rfl ?_
        refine r_goto (pc := 86) (off := (-77)) (tgt := 9) (by decide +kernel) (by decide) ?_
        refine r_lv [2, 1, 0] rfl ?_
        exact ih (wr (w1_38 + 1)) (wr (v2 + (-1))) m79 h
      · have h := ite_f c27 h
        refine r_iconst (pc := 30) (z := 0) (by decide +kernel) ⟨by decide, by decide⟩ ?_
        obtain rfl := Option.some.inj h
        exact r_ret (pc := 31) (r := some (0, 0)) (by decide +kernel) rfl (Or.inl rfl) (Nat.le_of_ble_eq_true rfl) (Nat.le_of_ble_eq_true rfl)
theorem c_M_isTree {d : Nat} (hd : 1 ≤ d) {a0 : Int} {M : Mem} {x : Int × Mem} (h : D_M_isTree a0 M = some x) : Ct d Y_M_isTree [(2, a0)] M (some (0, x.1), x.2) 0 0 := by
  refine ct_of yk_M_isTree (Nat.le_of_ble_eq_true rfl) ?_
  rw [D_M_isTree] at h
  show Rn Y_M_isTree d 0 0 0 0 (some (0, x.1), x.2) 0 [(0, (2, a0))] [] M
  refine r_iconst (pc := 0) (z := 0) (by decide +kernel) ⟨by decide, by decide⟩ ?_
  refine r_istore_n (pc := 1) (n := 1) (lv' := [(1, (0, 0)), (0, (2, a0))]) (by decide +kernel) rfl (Nat.le_of_ble_eq_true rfl) rfl ?_
  refine r_aload_n (pc := 2) 1 (n := 0) (by decide +kernel) rfl rfl ?_
  obtain ⟨g3, q3, h⟩ := bnd h
  refine r_get (pc := 3) (by decide +kernel) fl_M_141.r (by decide) rfl q3 ?_
  refine r_iconst (pc := 6) (z := 1) (by decide +kernel) ⟨by decide, by decide⟩ ?_
  refine r_isub (pc := 7) (by decide +kernel) ?_
  obtain ⟨u2_8, q8, h⟩ := lt_o h
  refine r_eq q8 ?_
  refine r_istore_n (pc := 8) (n := 2) (lv' := [(2, (0, u2_8)), (1, (0, 0)), (0, (2, a0))]) (by decide +kernel) rfl (Nat.le_of_ble_eq_true rfl) rfl ?_
  refine r_lv [2, 1, 0] rfl ?_
  refine sL_M_isTree_9 (by omega) ?_ _ _ _  _ h
  intro w1_9 m9 h
  refine r_iload_n (pc := 89) 0 (n := 1) (by decide +kernel) rfl rfl ?_
  refine r_iconst (pc := 90) (z := 1) (by decide +kernel) ⟨by decide, by decide⟩ ?_
  refine r_icmp_ne (pc := 91) (off := 7) (tgt := 98) (by decide +kernel) (by decide) (fun c91 => ?_) (fun c91 => ?_)
  · have h := ite_f c91 h
    refine r_iconst (pc := 98) (z := 0) (by decide +kernel) ⟨by decide, by decide⟩ ?_
    obtain rfl := Option.some.inj h
    exact r_ret (pc := 99) (r := some (0, 0)) (by decide +kernel) rfl (Or.inl rfl) (Nat.le_of_ble_eq_true rfl) (Nat.le_of_ble_eq_true rfl)
  · have h := ite_t c91 h
    refine r_iconst (pc := 94) (z := 1) (by decide +kernel) ⟨by decide, by decide⟩ ?_
    refine r_goto (pc := 95) (off := 4) (tgt := 99) (by decide +kernel) (by decide) ?_
    obtain rfl := Option.some.inj h
    exact r_ret (pc := 99) (r := some (0, 1)) (by decide +kernel) rfl (Or.inr rfl) (Nat.le_of_ble_eq_true rfl) (Nat.le_of_ble_eq_true rfl)

/-! TreeTonguesModel.classify()V -/
noncomputable def L_M_classify_9 (k : Mem → Option (Mem)) (v0 : Int) : Nat → Int → Int → Mem → Option (Mem)
  | 0 => fun _ _ _ => none
  | n + 1 => fun v1 v2 M => if v2 < 0 then (k  M) else ((gf M v0 9 54 2).bind fun g14 => (rd M 10 g14 v2).bind fun e18 => (gf M v0 9 54 1).bind fun g21 => (rd M 10 g21 e18).bind fun e25 => (if e25 ≤ 0 then (some 0) else ((gf M v0 9 54 42).bind fun g30 => (rd M 10 g30 (wr (v1 - 1))).bind fun e36 => some e36)).bind fun (t26 : Int) => (gf M v0 9 54 1).bind fun g44 => (rd M 10 g44 e18).bind fun e48 => (if e48 ≤ 1 then (some 0) else ((gf M v0 9 54 42).bind fun g54 => (rd M 10 g54 (wr (v1 - 2))).bind fun e60 => some e60)).bind fun (t50 : Int) => (gf M v0 9 54 1).bind fun g69 => (rd M 10 g69 e18).bind fun e73 => lt (wr (v1 - e73)) fun u1_75 => (gf M v0 9 54 42).bind fun g77 => (ck M v0 9 54).bind fun _ => (D_M_step v0 16 e18 t26 t50 M).bind fun x89 => (wt x89.2 10 g77 u1_75 x89.1).bind fun m92 => (gf m92 v0 9 54 43).bind fun g94 => (gf m92 v0 9 54 42).bind fun g99 => (rd m92 10 g99 u1_75).bind fun e103 => (wt m92 10 g94 v2 e103).bind fun m104 => L_M_classify_9 k v0 n (wr (u1_75 + 1)) (wr (v2 + (-1))) m104)
noncomputable def D_M_classify (a0 : Int) (M : Mem) : Option (Mem) := (gf M a0 9 54 3).bind fun g3 => lt (wr (g3 - 1)) fun u2_8 => L_M_classify_9 (fun  m9 => some m9) a0 FU 0 u2_8 M
theorem sL_M_classify_9 {d mc ms : Nat} (hd : 2 ≤ d) {r : Mem} {k : Mem → Option (Mem)} {v0 : Int} (hk : ∀ (M : Mem), k M = some r → Rn Y_M_classify d mc ms 0 0 (none, r) 114 [] [] M) : ∀ (n : Nat) (v1 : Int) (v2 : Int) (M : Mem), L_M_classify_9 k v0 n v1 v2 M = some r → Rn Y_M_classify d mc ms 0 0 (none, r) 9 [(0, (2, v0)), (1, (0, v1)), (2, (0, v2))] [] M := by
  intro n
  induction n with
  | zero => intro _ _ _ h; cases h
  | succ n ih =>
    intro v1 v2 M h
    rw [L_M_classify_9] at h
    refine r_iload_n (pc := 9) 2 (n := 2) (by decide +kernel) rfl rfl ?_
    refine r_if_lt (pc := 10) (off := 104) (tgt := 114) (by decide +kernel) (by decide) (fun c10 => ?_) (fun c10 => ?_)
    · have h := ite_t c10 h
      refine r_lv [] rfl ?_
      exact hk  M h
    · have h := ite_f c10 h
      refine r_aload_n (pc := 13) 0 (n := 0) (by decide +kernel) rfl rfl ?_
      obtain ⟨g14, q14, h⟩ := bnd h
      refine r_get (pc := 14) (by decide +kernel) fl_M_13.r (by decide) rfl q14 ?_
      refine r_iload_n (pc := 17) 2 (n := 2) (by decide +kernel) rfl rfl ?_
      obtain ⟨e18, q18, h⟩ := bnd h
      refine r_iald (pc := 18) (by decide +kernel) q18 ?_
      refine r_istore_n (pc := 19) (n := 3) (lv' := [(3, (0, e18)), (0, (2, v0)), (1, (0, v1)), (2, (0, v2))]) (by decide +kernel) rfl (Nat.le_of_ble_eq_true rfl) rfl ?_
      refine r_aload_n (pc := 20) 1 (n := 0) (by decide +kernel) rfl rfl ?_
      obtain ⟨g21, q21, h⟩ := bnd h
      refine r_get (pc := 21) (by decide +kernel) fl_M_7.r (by decide) rfl q21 ?_
      refine r_iload_n (pc := 24) 0 (n := 3) (by decide +kernel) rfl rfl ?_
      obtain ⟨e25, q25, h⟩ := bnd h
      refine r_iald (pc := 25) (by decide +kernel) q25 ?_
      obtain ⟨t26, ht26, h⟩ := bnd h
      have E26_0 : Rn Y_M_classify d mc ms 0 0 (none, r) 41 [(0, (2, v0)), (1, (0, v1)), (2, (0, v2)), (3, (0, e18))] [(0, t26)] M := by
        refine r_istore (pc := 41) (lv' := [(4, (0, t26)), (0, (2, v0)), (1, (0, v1)), (2, (0, v2)), (3, (0, e18))]) (by decide +kernel) (Nat.le_of_ble_eq_true rfl) rfl ?_
        refine r_aload_n (pc := 43) 1 (n := 0) (by decide +kernel) rfl rfl ?_
        obtain ⟨g44, q44, h⟩ := bnd h
        refine r_get (pc := 44) (by decide +kernel) fl_M_7.r (by decide) rfl q44 ?_
        refine r_iload_n (pc := 47) 4 (n := 3) (by decide +kernel) rfl rfl ?_
        obtain ⟨e48, q48, h⟩ := bnd h
        refine r_iald (pc := 48) (by decide +kernel) q48 ?_
        refine r_iconst (pc := 49) (z := 1) (by decide +kernel) ⟨by decide, by decide⟩ ?_
        obtain ⟨t50, ht50, h⟩ := bnd h
        have E50_0 : Rn Y_M_classify d mc ms 0 0 (none, r) 65 [(0, (2, v0)), (1, (0, v1)), (2, (0, v2)), (3, (0, e18)), (4, (0, t26))] [(0, t50)] M := by
          refine r_istore (pc := 65) (lv' := [(5, (0, t50)), (0, (2, v0)), (1, (0, v1)), (2, (0, v2)), (3, (0, e18)), (4, (0, t26))]) (by decide +kernel) (Nat.le_of_ble_eq_true rfl) rfl ?_
          refine r_iload_n (pc := 67) 2 (n := 1) (by decide +kernel) rfl rfl ?_
          refine r_aload_n (pc := 68) 1 (n := 0) (by decide +kernel) rfl rfl ?_
          obtain ⟨g69, q69, h⟩ := bnd h
          refine r_get (pc := 69) (by decide +kernel) fl_M_7.r (by decide) rfl q69 ?_
          refine r_iload_n (pc := 72) 4 (n := 3) (by decide +kernel) rfl rfl ?_
          obtain ⟨e73, q73, h⟩ := bnd h
          refine r_iald (pc := 73) (by decide +kernel) q73 ?_
          refine r_isub (pc := 74) (by decide +kernel) ?_
          obtain ⟨u1_75, q75, h⟩ := lt_o h
          refine r_eq q75 ?_
          refine r_istore_n (pc := 75) (n := 1) (lv' := [(1, (0, u1_75)), (5, (0, t50)), (0, (2, v0)), (2, (0, v2)), (3, (0, e18)), (4, (0, t26))]) (by decide +kernel) rfl (Nat.le_of_ble_eq_true rfl) rfl ?_
          refine r_aload_n (pc := 76) 2 (n := 0) (by decide +kernel) rfl rfl ?_
          obtain ⟨g77, q77, h⟩ := bnd h
          refine r_get (pc := 77) (by decide +kernel) fl_M_93.r (by decide) rfl q77 ?_
          refine r_iload_n (pc := 80) 0 (n := 1) (by decide +kernel) rfl rfl ?_
          refine r_aload_n (pc := 81) 2 (n := 0) (by decide +kernel) rfl rfl ?_
          refine r_bipush (pc := 82) (z := 16) (by decide +kernel) ⟨by decide, by decide⟩ ?_
          refine r_iload_n (pc := 84) 4 (n := 3) (by decide +kernel) rfl rfl ?_
          refine r_iload (pc := 85) 5 (by decide +kernel) rfl ?_
          refine r_iload (pc := 87) 1 (by decide +kernel) rfl ?_
          obtain ⟨_, q89c, h⟩ := bnd h
          obtain ⟨x89, q89, h⟩ := bnd h
          refine r_callV (pc := 89) (i := 155) (d2 := d - 1) (As := [(0, 16), (0, e18), (0, t26), (0, t50)]) (st := [(0, u1_75), (2, g77)]) (st1 := [(0, t50), (0, t26), (0, e18), (0, 16), (2, v0), (0, u1_75), (2, g77)]) (by decide +kernel) yk_M_step (by decide) rfl ⟨ml_M_155, vk_M_step⟩ np_M_step rfl (by omega) q89c (c_M_step (d := d - 1) (by omega) q89) (Nat.le_of_ble_eq_true rfl) (Nat.le_of_ble_eq_true rfl) (Nat.le_of_ble_eq_true rfl) rfl ?_
          show Rn _ d _ _ 0 0 _ 92 [(1, (0, u1_75)), (5, (0, t50)), (0, (2, v0)), (2, (0, v2)), (3, (0, e18)), (4, (0, t26))] [(0, x89.1), (0, u1_75), (2, g77)] x89.2
          obtain ⟨m92, q92, h⟩ := bnd h
          refine r_iast (pc := 92) (by decide +kernel) q92 ?_
          refine r_aload_n (pc := 93) 2 (n := 0) (by decide +kernel) rfl rfl ?_
          obtain ⟨g94, q94, h⟩ := bnd h
          refine r_get (pc := 94) (by decide +kernel) fl_M_96.r (by decide) rfl q94 ?_
          refine r_iload_n (pc := 97) 3 (n := 2) (by decide +kernel) rfl rfl ?_
          refine r_aload_n (pc := 98) 2 (n := 0) (by decide +kernel) rfl rfl ?_
          obtain ⟨g99, q99, h⟩ := bnd h
          refine r_get (pc := 99) (by decide +kernel) fl_M_93.r (by decide) rfl q99 ?_
          refine r_iload_n (pc := 102) 0 (n := 1) (by decide +kernel) rfl rfl ?_
          obtain ⟨e103, q103, h⟩ := bnd h
          refine r_iald (pc := 103) (by decide +kernel) q103 ?_
          obtain ⟨m104, q104, h⟩ := bnd h
          refine r_iast (pc := 104) (by decide +kernel) q104 ?_
          refine r_iinc (pc := 105) 0 (n := 1) (lv' := [(1, (0, wr (u1_75 + 1))), (5, (0, t50)), (0, (2, v0)), (2, (0, v2)), (3, (0, e18)), (4, (0, t26))]) (by decide +kernel) rfl (Nat.le_of_ble_eq_true rfl) rfl ?_
          refine r_iinc (pc := 108) 3 (n := (-1)) (lv' := [(2, (0, wr (v2 + (-1)))), (1, (0, wr (u1_75 + 1))), (5, (0, t50)), (0, (2, v0)), (3, (0, e18)), (4, (0, t26))]) (by decide +kernel) rfl (Nat.le_of_ble_eq_true rfl) rfl ?_
          refine r_goto (pc := 111) (off := (-102)) (tgt := 9) (by decide +kernel) (by decide) ?_
          refine r_lv [3, 1, 0] rfl ?_
          exact ih (wr (u1_75 + 1)) (wr (v2 + (-1))) m104 h
        refine r_icmp_le (pc := 50) (off := 14) (tgt := 64) (by decide +kernel) (by decide) (fun c50 => ?_) (fun c50 => ?_)
        · have ht50 := ite_t c50 ht50
          refine r_iconst (pc := 64) (z := 0) (by decide +kernel) ⟨by decide, by decide⟩ ?_
          obtain rfl := Option.some.inj ht50
          refine r_lv [1, 2, 3, 4, 0] rfl ?_
          exact E50_0
        · have ht50 := ite_f c50 ht50
          refine r_aload_n (pc := 53) 1 (n := 0) (by decide +kernel) rfl rfl ?_
          obtain ⟨g54, q54, ht50⟩ := bnd ht50
          refine r_get (pc := 54) (by decide +kernel) fl_M_93.r (by decide) rfl q54 ?_
          refine r_iload_n (pc := 57) 2 (n := 1) (by decide +kernel) rfl rfl ?_
          refine r_iconst (pc := 58) (z := 2) (by decide +kernel) ⟨by decide, by decide⟩ ?_
          refine r_isub (pc := 59) (by decide +kernel) ?_
          obtain ⟨e60, q60, ht50⟩ := bnd ht50
          refine r_iald (pc := 60) (by decide +kernel) q60 ?_
          refine r_goto (pc := 61) (off := 4) (tgt := 65) (by decide +kernel) (by decide) ?_
          obtain rfl := Option.some.inj ht50
          refine r_lv [1, 2, 3, 4, 0] rfl ?_
          exact E50_0
      refine r_if_le (pc := 26) (off := 14) (tgt := 40) (by decide +kernel) (by decide) (fun c26 => ?_) (fun c26 => ?_)
      · have ht26 := ite_t c26 ht26
        refine r_iconst (pc := 40) (z := 0) (by decide +kernel) ⟨by decide, by decide⟩ ?_
        obtain rfl := Option.some.inj ht26
        refine r_lv [1, 2, 3, 0] rfl ?_
        exact E26_0
      · have ht26 := ite_f c26 ht26
        refine r_aload_n (pc := 29) 1 (n := 0) (by decide +kernel) rfl rfl ?_
        obtain ⟨g30, q30, ht26⟩ := bnd ht26
        refine r_get (pc := 30) (by decide +kernel) fl_M_93.r (by decide) rfl q30 ?_
        refine r_iload_n (pc := 33) 2 (n := 1) (by decide +kernel) rfl rfl ?_
        refine r_iconst (pc := 34) (z := 1) (by decide +kernel) ⟨by decide, by decide⟩ ?_
        refine r_isub (pc := 35) (by decide +kernel) ?_
        obtain ⟨e36, q36, ht26⟩ := bnd ht26
        refine r_iald (pc := 36) (by decide +kernel) q36 ?_
        refine r_goto (pc := 37) (off := 4) (tgt := 41) (by decide +kernel) (by decide) ?_
        obtain rfl := Option.some.inj ht26
        refine r_lv [1, 2, 3, 0] rfl ?_
        exact E26_0
theorem c_M_classify {d : Nat} (hd : 2 ≤ d) {a0 : Int} {M : Mem} {x : Mem} (h : D_M_classify a0 M = some x) : Ct d Y_M_classify [(2, a0)] M (none, x) 0 0 := by
  refine ct_of yk_M_classify (Nat.le_of_ble_eq_true rfl) ?_
  rw [D_M_classify] at h
  show Rn Y_M_classify d 0 0 0 0 (none, x) 0 [(0, (2, a0))] [] M
  refine r_iconst (pc := 0) (z := 0) (by decide +kernel) ⟨by decide, by decide⟩ ?_
  refine r_istore_n (pc := 1) (n := 1) (lv' := [(1, (0, 0)), (0, (2, a0))]) (by decide +kernel) rfl (Nat.le_of_ble_eq_true rfl) rfl ?_
  refine r_aload_n (pc := 2) 1 (n := 0) (by decide +kernel) rfl rfl ?_
  obtain ⟨g3, q3, h⟩ := bnd h
  refine r_get (pc := 3) (by decide +kernel) fl_M_141.r (by decide) rfl q3 ?_
  refine r_iconst (pc := 6) (z := 1) (by decide +kernel) ⟨by decide, by decide⟩ ?_
  refine r_isub (pc := 7) (by decide +kernel) ?_
  obtain ⟨u2_8, q8, h⟩ := lt_o h
  refine r_eq q8 ?_
  refine r_istore_n (pc := 8) (n := 2) (lv' := [(2, (0, u2_8)), (1, (0, 0)), (0, (2, a0))]) (by decide +kernel) rfl (Nat.le_of_ble_eq_true rfl) rfl ?_
  refine r_lv [2, 1, 0] rfl ?_
  refine sL_M_classify_9 (by omega) ?_ _ _ _  _ h
  intro m9 h
  obtain rfl := Option.some.inj h
  exact r_ret (pc := 114) (r := none) (by decide +kernel) rfl trivial (Nat.le_of_ble_eq_true rfl) (Nat.le_of_ble_eq_true rfl)

/-! TreeTonguesModel.asked(I)I -/
noncomputable def D_M_asked (a0 a1 : Int) (M : Mem) : Option (Int × Mem) := (ck M a0 9 54).bind fun _ => (D_M_isTongue a0 a1 M).bind fun x2 => if x2.1 = 0 then (some ((-2), x2.2)) else ((ck x2.2 a0 9 54).bind fun _ => (D_M_isTree a0 x2.2).bind fun x12 => if x12.1 = 0 then (some ((-3), x12.2)) else ((ck x12.2 a0 9 54).bind fun _ => (D_M_load a0 a1 16 x12.2).bind fun x25 => if 0 ≤ x25.1 then ((ck x25.2 a0 9 54).bind fun _ => (D_M_classify a0 x25.2).bind fun x35 => some (0, x35)) else (some ((-5), x25.2))))
theorem c_M_asked {d : Nat} (hd : 9 ≤ d) {a0 a1 : Int} {M : Mem} {x : Int × Mem} (h : D_M_asked a0 a1 M = some x) : Ct d Y_M_asked [(2, a0), (0, a1)] M (some (0, x.1), x.2) 0 0 := by
  refine ct_of yk_M_asked (Nat.le_of_ble_eq_true rfl) ?_
  rw [D_M_asked] at h
  show Rn Y_M_asked d 0 0 0 0 (some (0, x.1), x.2) 0 [(0, (2, a0)), (1, (0, a1))] [] M
  refine r_aload_n (pc := 0) 0 (n := 0) (by decide +kernel) rfl rfl ?_
  refine r_iload_n (pc := 1) 1 (n := 1) (by decide +kernel) rfl rfl ?_
  obtain ⟨_, q2c, h⟩ := bnd h
  obtain ⟨x2, q2, h⟩ := bnd h
  refine r_callV (pc := 2) (i := 146) (d2 := d - 1) (As := [(0, a1)]) (st := []) (st1 := [(0, a1), (2, a0)]) (by decide +kernel) yk_M_isTongue (by decide) rfl ⟨ml_M_146, vk_M_isTongue⟩ np_M_isTongue rfl (by omega) q2c (c_M_isTongue (d := d - 1) (by omega) q2) (Nat.le_of_ble_eq_true rfl) (Nat.le_of_ble_eq_true rfl) (Nat.le_of_ble_eq_true rfl) rfl ?_
  show Rn _ d _ _ 0 0 _ 5 [(0, (2, a0)), (1, (0, a1))] [(0, x2.1)] x2.2
  refine r_if_ne (pc := 5) (off := 6) (tgt := 11) (by decide +kernel) (by decide) (fun c5 => ?_) (fun c5 => ?_)
  · have h := ite_f c5 h
    refine r_aload_n (pc := 11) 0 (n := 0) (by decide +kernel) rfl rfl ?_
    obtain ⟨_, q12c, h⟩ := bnd h
    obtain ⟨x12, q12, h⟩ := bnd h
    refine r_callV (pc := 12) (i := 278) (d2 := d - 1) (As := []) (st := []) (st1 := [(2, a0)]) (by decide +kernel) yk_M_isTree (by decide) rfl ⟨ml_M_278, vk_M_isTree⟩ np_M_isTree rfl (by omega) q12c (c_M_isTree (d := d - 1) (by omega) q12) (Nat.le_of_ble_eq_true rfl) (Nat.le_of_ble_eq_true rfl) (Nat.le_of_ble_eq_true rfl) rfl ?_
    show Rn _ d _ _ 0 0 _ 15 [(0, (2, a0)), (1, (0, a1))] [(0, x12.1)] x12.2
    refine r_if_ne (pc := 15) (off := 6) (tgt := 21) (by decide +kernel) (by decide) (fun c15 => ?_) (fun c15 => ?_)
    · have h := ite_f c15 h
      refine r_aload_n (pc := 21) 0 (n := 0) (by decide +kernel) rfl rfl ?_
      refine r_iload_n (pc := 22) 1 (n := 1) (by decide +kernel) rfl rfl ?_
      refine r_bipush (pc := 23) (z := 16) (by decide +kernel) ⟨by decide, by decide⟩ ?_
      obtain ⟨_, q25c, h⟩ := bnd h
      obtain ⟨x25, q25, h⟩ := bnd h
      refine r_callV (pc := 25) (i := 260) (d2 := d - 1) (As := [(0, a1), (0, 16)]) (st := []) (st1 := [(0, 16), (0, a1), (2, a0)]) (by decide +kernel) yk_M_load (by decide) rfl ⟨ml_M_260, vk_M_load⟩ np_M_load rfl (by omega) q25c (c_M_load (d := d - 1) (by omega) q25) (Nat.le_of_ble_eq_true rfl) (Nat.le_of_ble_eq_true rfl) (Nat.le_of_ble_eq_true rfl) rfl ?_
      show Rn _ d _ _ 0 0 _ 28 [(0, (2, a0)), (1, (0, a1))] [(0, x25.1)] x25.2
      refine r_if_ge (pc := 28) (off := 6) (tgt := 34) (by decide +kernel) (by decide) (fun c28 => ?_) (fun c28 => ?_)
      · have h := ite_t c28 h
        refine r_aload_n (pc := 34) 0 (n := 0) (by decide +kernel) rfl rfl ?_
        obtain ⟨_, q35c, h⟩ := bnd h
        obtain ⟨x35, q35, h⟩ := bnd h
        refine r_callV (pc := 35) (i := 282) (d2 := d - 1) (As := []) (st := []) (st1 := [(2, a0)]) (by decide +kernel) yk_M_classify (by decide) rfl ⟨ml_M_282, vk_M_classify⟩ np_M_classify rfl (by omega) q35c (c_M_classify (d := d - 1) (by omega) q35) (Nat.le_of_ble_eq_true rfl) (Nat.le_of_ble_eq_true rfl) (Nat.le_of_ble_eq_true rfl) rfl ?_
        show Rn _ d _ _ 0 0 _ 38 [(0, (2, a0)), (1, (0, a1))] [] x35
        refine r_iconst (pc := 38) (z := 0) (by decide +kernel) ⟨by decide, by decide⟩ ?_
        obtain rfl := Option.some.inj h
        exact r_ret (pc := 39) (r := some (0, 0)) (by decide +kernel) rfl trivial (Nat.le_of_ble_eq_true rfl) (Nat.le_of_ble_eq_true rfl)
      · have h := ite_f c28 h
        refine r_bipush (pc := 31) (z := (-5)) (by decide +kernel) ⟨by decide, by decide⟩ ?_
        obtain rfl := Option.some.inj h
        exact r_ret (pc := 33) (r := some (0, (-5))) (by decide +kernel) rfl trivial (Nat.le_of_ble_eq_true rfl) (Nat.le_of_ble_eq_true rfl)
    · have h := ite_t c15 h
      refine r_bipush (pc := 18) (z := (-3)) (by decide +kernel) ⟨by decide, by decide⟩ ?_
      obtain rfl := Option.some.inj h
      exact r_ret (pc := 20) (r := some (0, (-3))) (by decide +kernel) rfl trivial (Nat.le_of_ble_eq_true rfl) (Nat.le_of_ble_eq_true rfl)
  · have h := ite_t c5 h
    refine r_bipush (pc := 8) (z := (-2)) (by decide +kernel) ⟨by decide, by decide⟩ ?_
    obtain rfl := Option.some.inj h
    exact r_ret (pc := 10) (r := some (0, (-2))) (by decide +kernel) rfl trivial (Nat.le_of_ble_eq_true rfl) (Nat.le_of_ble_eq_true rfl)
