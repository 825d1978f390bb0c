/-! TreeTongues$Census.writeParts(LTreeTongues$Machine;IIIIJ)I -/
noncomputable def D_Census_writeParts (w : Int → Int → Int → Int → Int → Mem → Option (Int × Mem)) (a0 a1 a2 a3 a4 a5 a6 : Int) (M : Mem) : Option (Int × Mem) := (gf M a0 0 4 0).bind fun g1 => (ck M g1 5 3).bind fun _ => (D_Signs_rankOf g1 a2 M).bind fun x5 => (pf x5.2 a0 0 4 3 a6).bind fun m13 => (if x5.1 ≤ 0 then (some (0, m13)) else ((ck m13 a0 0 4).bind fun _ => (w a0 a1 a4 (wr (a5 + 1)) a6 m13).bind fun x31 => some (x31.1, x31.2))).bind fun (t18 : Int × Mem) => (if x5.1 ≤ 1 then (some (0, t18.2)) else ((ck t18.2 a0 0 4).bind fun _ => (D_Census_weighSeconds a0 a1 a2 t18.1 a5 t18.2).bind fun x56 => (gf x56 a0 0 4 3).bind fun g72 => (ck x56 a0 0 4).bind fun _ => (w a0 a1 (wr ((wr (a3 - 1)) - a4)) (wr (a5 + 1)) g72 x56).bind fun x75 => some (x75.1, x75.2))).bind fun (t46 : Int × Mem) => (ck t46.2 a1 1 14).bind fun _ => (D_Machine_step a1 a2 t18.1 t46.1 t46.2).bind fun x86 => some (x86.1, x86.2)
theorem c_Census_writeParts {d : Nat} (hd : 5 ≤ d) {w : Int → Int → Int → Int → Int → Mem → Option (Int × Mem)} (hw : ∀ {a0 a1 a2 a3 a4 : Int} {M : Mem} {x : Int × Mem}, w a0 a1 a2 a3 a4 M = some x → Ct (d - 1) Y_Census_write [(2, a0), (2, a1), (0, a2), (0, a3), (1, a4)] M (some (0, x.1), x.2) 0 0) {a0 a1 a2 a3 a4 a5 a6 : Int} {M : Mem} {x : Int × Mem} (h : D_Census_writeParts w a0 a1 a2 a3 a4 a5 a6 M = some x) : Ct d Y_Census_writeParts [(2, a0), (2, a1), (0, a2), (0, a3), (0, a4), (0, a5), (1, a6)] M (some (0, x.1), x.2) 0 0 := by
  refine ct_of yk_Census_writeParts (Nat.le_of_ble_eq_true rfl) ?_
  rw [D_Census_writeParts] at h
  show Rn Y_Census_writeParts d 0 0 0 0 (some (0, x.1), x.2) 0 [(0, (2, a0)), (1, (2, a1)), (2, (0, a2)), (3, (0, a3)), (4, (0, a4)), (5, (0, a5)), (6, (1, a6))] [] M
  refine r_aload_n (pc := 0) 0 (n := 0) (by decide +kernel) rfl rfl ?_
  obtain ⟨g1, q1, h⟩ := bnd h
  refine r_get (pc := 1) (by decide +kernel) fl_Census_19.r (by decide) rfl q1 ?_
  refine r_iload_n (pc := 4) 2 (n := 2) (by decide +kernel) rfl rfl ?_
  obtain ⟨_, q5c, h⟩ := bnd h
  obtain ⟨x5, q5, h⟩ := bnd h
  refine r_callV (pc := 5) (i := 97) (d2 := d - 1) (As := [(0, a2)]) (st := []) (st1 := [(0, a2), (2, g1)]) (by decide +kernel) yk_Signs_rankOf (by decide) rfl ⟨ml_Census_97, vk_Signs_rankOf⟩ np_Signs_rankOf rfl (by omega) q5c (c_Signs_rankOf (d := d - 1) (by omega) q5) (Nat.le_of_ble_eq_true rfl) (Nat.le_of_ble_eq_true rfl) (Nat.le_of_ble_eq_true rfl) rfl ?_
  show Rn _ d _ _ 0 0 _ 8 [(0, (2, a0)), (1, (2, a1)), (2, (0, a2)), (3, (0, a3)), (4, (0, a4)), (5, (0, a5)), (6, (1, a6))] [(0, x5.1)] x5.2
  refine r_istore (pc := 8) (lv' := [(8, (0, x5.1)), (0, (2, a0)), (1, (2, a1)), (2, (0, a2)), (3, (0, a3)), (4, (0, a4)), (5, (0, a5)), (6, (1, a6))]) (by decide +kernel) (Nat.le_of_ble_eq_true rfl) rfl ?_
  refine r_aload_n (pc := 10) 1 (n := 0) (by decide +kernel) rfl rfl ?_
  refine r_lload (pc := 11) 7 (by decide +kernel) rfl ?_
  obtain ⟨m13, q13, h⟩ := bnd h
  refine r_put (pc := 13) (by decide +kernel) fl_Census_15 (by decide) (Or.inr nf_0_3) rfl (fun h3 => by cases h3) q13 ?_
  refine r_iload (pc := 16) 0 (by decide +kernel) rfl ?_
  obtain ⟨t18, ht18, h⟩ := bnd h
  have E18_0 : Rn Y_Census_writeParts d 0 0 0 0 (some (0, x.1), x.2) 38 [(0, (2, a0)), (1, (2, a1)), (2, (0, a2)), (3, (0, a3)), (4, (0, a4)), (5, (0, a5)), (8, (0, x5.1))] [(0, t18.1)] t18.2 := by
    refine r_istore (pc := 38) (lv' := [(9, (0, t18.1)), (0, (2, a0)), (1, (2, a1)), (2, (0, a2)), (3, (0, a3)), (4, (0, a4)), (5, (0, a5)), (8, (0, x5.1))]) (by decide +kernel) (Nat.le_of_ble_eq_true rfl) rfl ?_
    refine r_iconst (pc := 40) (z := 0) (by decide +kernel) ⟨by decide, by decide⟩ ?_
    refine r_istore (pc := 41) (lv' := [(10, (0, 0)), (9, (0, t18.1)), (0, (2, a0)), (1, (2, a1)), (2, (0, a2)), (3, (0, a3)), (4, (0, a4)), (5, (0, a5)), (8, (0, x5.1))]) (by decide +kernel) (Nat.le_of_ble_eq_true rfl) rfl ?_
    refine r_iload (pc := 43) 8 (by decide +kernel) rfl ?_
    refine r_iconst (pc := 45) (z := 1) (by decide +kernel) ⟨by decide, by decide⟩ ?_
    obtain ⟨t46, ht46, h⟩ := bnd h
    have E46_0 : Rn Y_Census_writeParts d 0 0 0 0 (some (0, x.1), x.2) 80 [(1, (2, a1)), (2, (0, a2)), (9, (0, t18.1)), (10, (0, t46.1))] [] t46.2 := by
      refine r_aload_n (pc := 80) 0 (n := 1) (by decide +kernel) rfl rfl ?_
      refine r_iload_n (pc := 81) 1 (n := 2) (by decide +kernel) rfl rfl ?_
      refine r_iload (pc := 82) 2 (by decide +kernel) rfl ?_
      refine r_iload (pc := 84) 3 (by decide +kernel) rfl ?_
      obtain ⟨_, q86c, h⟩ := bnd h
      obtain ⟨x86, q86, h⟩ := bnd h
      refine r_callV (pc := 86) (i := 100) (d2 := d - 1) (As := [(0, a2), (0, t18.1), (0, t46.1)]) (st := []) (st1 := [(0, t46.1), (0, t18.1), (0, a2), (2, a1)]) (by decide +kernel) yk_Machine_step (by decide) rfl ⟨ml_Census_100, vk_Machine_step⟩ np_Machine_step rfl (by omega) q86c (c_Machine_step (d := d - 1) (by omega) q86) (Nat.le_of_ble_eq_true rfl) (Nat.le_of_ble_eq_true rfl) (Nat.le_of_ble_eq_true rfl) rfl ?_
      show Rn _ d _ _ 0 0 _ 89 [(1, (2, a1)), (2, (0, a2)), (9, (0, t18.1)), (10, (0, t46.1))] [(0, x86.1)] x86.2
      obtain rfl := Option.some.inj h
      exact r_ret (pc := 89) (r := some (0, x86.1)) (by decide +kernel) rfl trivial (Nat.le_of_ble_eq_true rfl) (Nat.le_of_ble_eq_true rfl)
    refine r_icmp_le (pc := 46) (off := 34) (tgt := 80) (by decide +kernel) (by decide) (fun c46 => ?_) (fun c46 => ?_)
    · have ht46 := ite_t c46 ht46
      obtain rfl := Option.some.inj ht46
      refine r_lv [3, 4, 1, 0] rfl ?_
      exact E46_0
    · have ht46 := ite_f c46 ht46
      refine r_aload_n (pc := 49) 2 (n := 0) (by decide +kernel) rfl rfl ?_
      refine r_aload_n (pc := 50) 3 (n := 1) (by decide +kernel) rfl rfl ?_
      refine r_iload_n (pc := 51) 4 (n := 2) (by decide +kernel) rfl rfl ?_
      refine r_iload (pc := 52) 1 (by decide +kernel) rfl ?_
      refine r_iload (pc := 54) 7 (by decide +kernel) rfl ?_
      obtain ⟨_, q56c, ht46⟩ := bnd ht46
      obtain ⟨x56, q56, ht46⟩ := bnd ht46
      refine r_callV (pc := 56) (i := 136) (d2 := d - 1) (As := [(2, a1), (0, a2), (0, t18.1), (0, a5)]) (st := []) (st1 := [(0, a5), (0, t18.1), (0, a2), (2, a1), (2, a0)]) (by decide +kernel) yk_Census_weighSeconds (by decide) rfl ⟨ml_Census_136, vk_Census_weighSeconds⟩ np_Census_weighSeconds rfl (by omega) q56c (c_Census_weighSeconds (d := d - 1) (by omega) q56) (Nat.le_of_ble_eq_true rfl) (Nat.le_of_ble_eq_true rfl) (Nat.le_of_ble_eq_true rfl) rfl ?_
      show Rn _ d _ _ 0 0 _ 59 [(10, (0, 0)), (9, (0, t18.1)), (0, (2, a0)), (1, (2, a1)), (2, (0, a2)), (3, (0, a3)), (4, (0, a4)), (5, (0, a5)), (8, (0, x5.1))] [] x56
      refine r_aload_n (pc := 59) 2 (n := 0) (by decide +kernel) rfl rfl ?_
      refine r_aload_n (pc := 60) 3 (n := 1) (by decide +kernel) rfl rfl ?_
      refine r_iload_n (pc := 61) 5 (n := 3) (by decide +kernel) rfl rfl ?_
      refine r_iconst (pc := 62) (z := 1) (by decide +kernel) ⟨by decide, by decide⟩ ?_
      refine r_isub (pc := 63) (by decide +kernel) ?_
      refine r_iload (pc := 64) 6 (by decide +kernel) rfl ?_
      refine r_isub (pc := 66) (by decide +kernel) ?_
      refine r_iload (pc := 67) 7 (by decide +kernel) rfl ?_
      refine r_iconst (pc := 69) (z := 1) (by decide +kernel) ⟨by decide, by decide⟩ ?_
      refine r_iadd (pc := 70) (by decide +kernel) ?_
      refine r_aload_n (pc := 71) 2 (n := 0) (by decide +kernel) rfl rfl ?_
      obtain ⟨g72, q72, ht46⟩ := bnd ht46
      refine r_get (pc := 72) (by decide +kernel) fl_Census_15.r (by decide) rfl q72 ?_
      obtain ⟨_, q75c, ht46⟩ := bnd ht46
      obtain ⟨x75, q75, ht46⟩ := bnd ht46
      refine r_callV (pc := 75) (i := 60) (d2 := d - 1) (As := [(2, a1), (0, wr ((wr (a3 - 1)) - a4)), (0, wr (a5 + 1)), (1, g72)]) (st := []) (st1 := [(1, g72), (0, wr (a5 + 1)), (0, wr ((wr (a3 - 1)) - a4)), (2, a1), (2, a0)]) (by decide +kernel) yk_Census_write (by decide) rfl ⟨ml_Census_60, vk_Census_write⟩ np_Census_write rfl (by omega) q75c (hw q75) (Nat.le_of_ble_eq_true rfl) (Nat.le_of_ble_eq_true rfl) (Nat.le_of_ble_eq_true rfl) rfl ?_
      show Rn _ d _ _ 0 0 _ 78 [(10, (0, 0)), (9, (0, t18.1)), (0, (2, a0)), (1, (2, a1)), (2, (0, a2)), (3, (0, a3)), (4, (0, a4)), (5, (0, a5)), (8, (0, x5.1))] [(0, x75.1)] x75.2
      refine r_istore (pc := 78) (lv' := [(10, (0, x75.1)), (9, (0, t18.1)), (0, (2, a0)), (1, (2, a1)), (2, (0, a2)), (3, (0, a3)), (4, (0, a4)), (5, (0, a5)), (8, (0, x5.1))]) (by decide +kernel) (Nat.le_of_ble_eq_true rfl) rfl ?_
      obtain rfl := Option.some.inj ht46
      refine r_lv [3, 4, 1, 0] rfl ?_
      exact E46_0
  refine r_if_le (pc := 18) (off := 19) (tgt := 37) (by decide +kernel) (by decide) (fun c18 => ?_) (fun c18 => ?_)
  · have ht18 := ite_t c18 ht18
    refine r_iconst (pc := 37) (z := 0) (by decide +kernel) ⟨by decide, by decide⟩ ?_
    obtain rfl := Option.some.inj ht18
    refine r_lv [1, 2, 3, 4, 5, 6, 0] rfl ?_
    exact E18_0
  · have ht18 := ite_f c18 ht18
    refine r_aload_n (pc := 21) 1 (n := 0) (by decide +kernel) rfl rfl ?_
    refine r_aload_n (pc := 22) 2 (n := 1) (by decide +kernel) rfl rfl ?_
    refine r_iload (pc := 23) 5 (by decide +kernel) rfl ?_
    refine r_iload (pc := 25) 6 (by decide +kernel) rfl ?_
    refine r_iconst (pc := 27) (z := 1) (by decide +kernel) ⟨by decide, by decide⟩ ?_
    refine r_iadd (pc := 28) (by decide +kernel) ?_
    refine r_lload (pc := 29) 7 (by decide +kernel) rfl ?_
    obtain ⟨_, q31c, ht18⟩ := bnd ht18
    obtain ⟨x31, q31, ht18⟩ := bnd ht18
    refine r_callV (pc := 31) (i := 60) (d2 := d - 1) (As := [(2, a1), (0, a4), (0, wr (a5 + 1)), (1, a6)]) (st := []) (st1 := [(1, a6), (0, wr (a5 + 1)), (0, a4), (2, a1), (2, a0)]) (by decide +kernel) yk_Census_write (by decide) rfl ⟨ml_Census_60, vk_Census_write⟩ np_Census_write rfl (by omega) q31c (hw q31) (Nat.le_of_ble_eq_true rfl) (Nat.le_of_ble_eq_true rfl) (Nat.le_of_ble_eq_true rfl) rfl ?_
    show Rn _ d _ _ 0 0 _ 34 [(8, (0, x5.1)), (0, (2, a0)), (1, (2, a1)), (2, (0, a2)), (3, (0, a3)), (4, (0, a4)), (5, (0, a5)), (6, (1, a6))] [(0, x31.1)] x31.2
    refine r_goto (pc := 34) (off := 4) (tgt := 38) (by decide +kernel) (by decide) ?_
    obtain rfl := Option.some.inj ht18
    refine r_lv [1, 2, 3, 4, 5, 6, 0] rfl ?_
    exact E18_0

/-! TreeTongues$Census.write(LTreeTongues$Machine;IIJ)I -/
noncomputable def L_Census_write_36 (w : Int → Int → Int → Int → Int → Mem → Option (Int × Mem)) (k : Int → Mem → Option (Int × Mem)) (v0 : Int) (v1 : Int) (v2 : Int) (v3 : Int) (v8 : Int) : Nat → Int → Int → Mem → Option (Int × Mem)
  | 0 => fun _ _ _ => none
  | n + 1 => fun v6 v9 M => (ck M v0 0 4).bind fun _ => (D_Census_mostFirst v0 v8 v2 M).bind fun x42 => if x42.1 < v9 then (k v6 x42.2) else ((ck x42.2 v0 0 4).bind fun _ => (D_Census_share v0 v1 v8 v2 v9 v3 x42.2).bind fun x56 => if 0 ≤ (lc v6 x56.1) then (lt (wl (v6 - x56.1)) fun u6_97 => L_Census_write_36 w k v0 v1 v2 v3 v8 n u6_97 (wr (v9 + 1)) x56.2) else ((gf x56.2 v0 0 4 1).bind fun g70 => (ck x56.2 g70 4 5).bind fun _ => (D_Row_add g70 v8 x56.2).bind fun x75 => (ck x75 v0 0 4).bind fun _ => (D_Census_writeParts w v0 v1 v8 v2 v9 v3 v6 x75).bind fun x88 => some (x88.1, x88.2)))
noncomputable def L_Census_write_15 (w : Int → Int → Int → Int → Int → Mem → Option (Int × Mem)) (k : Mem → Option (Int × Mem)) (v0 : Int) (v1 : Int) (v2 : Int) (v3 : Int) : Nat → Int → Int → Mem → Option (Int × Mem)
  | 0 => fun _ _ _ => none
  | n + 1 => fun v6 v8 M => (gf M v0 0 4 0).bind fun g18 => (gf M g18 5 3 1).bind fun g21 => if g21 ≤ v8 then (k  M) else ((ck M v0 0 4).bind fun _ => (D_Census_leastFirst v0 v8 v2 M).bind fun x31 => L_Census_write_36 w (fun w6_36 m36 => L_Census_write_15 w k v0 v1 v2 v3 n w6_36 (wr (v8 + 1)) m36) v0 v1 v2 v3 v8 FU v6 x31.1 x31.2)
noncomputable def B_Census_write (w : Int → Int → Int → Int → Int → Mem → Option (Int × Mem)) (a0 a1 a2 a3 a4 : Int) (M : Mem) : Option (Int × Mem) := if a3 < 40 then (L_Census_write_15 w (fun  m15 => some (0, m15)) a0 a1 a2 a3 FU a4 0 M) else (some (0, M))
theorem sL_Census_write_36 {d mc ms : Nat} (hd : 6 ≤ d) {w : Int → Int → Int → Int → Int → Mem → Option (Int × Mem)} (hw : ∀ {a0 a1 a2 a3 a4 : Int} {M : Mem} {x : Int × Mem}, w a0 a1 a2 a3 a4 M = some x → Ct (d - 1 - 1) Y_Census_write [(2, a0), (2, a1), (0, a2), (0, a3), (1, a4)] M (some (0, x.1), x.2) 0 0) {r : Int × Mem} {k : Int → Mem → Option (Int × Mem)} {v0 : Int} {v1 : Int} {v2 : Int} {v3 : Int} {v8 : Int} (hk : ∀ (v6 : Int) (M : Mem), k v6 M = some r → Rn Y_Census_write d mc ms 0 0 (some (0, r.1), r.2) 105 [(0, (2, v0)), (1, (2, v1)), (2, (0, v2)), (3, (0, v3)), (6, (1, v6)), (8, (0, v8))] [] M) : ∀ (n : Nat) (v6 : Int) (v9 : Int) (M : Mem), L_Census_write_36 w k v0 v1 v2 v3 v8 n v6 v9 M = some r → Rn Y_Census_write d mc ms 0 0 (some (0, r.1), r.2) 36 [(0, (2, v0)), (1, (2, v1)), (2, (0, v2)), (3, (0, v3)), (6, (1, v6)), (8, (0, v8)), (9, (0, v9))] [] M := by
  intro n
  induction n with
  | zero => intro _ _ _ h; cases h
  | succ n ih =>
    intro v6 v9 M h
    rw [L_Census_write_36] at h
    refine r_iload (pc := 36) 6 (by decide +kernel) rfl ?_
    refine r_aload_n (pc := 38) 0 (n := 0) (by decide +kernel) rfl rfl ?_
    refine r_iload (pc := 39) 5 (by decide +kernel) rfl ?_
    refine r_iload_n (pc := 41) 2 (n := 2) (by decide +kernel) rfl rfl ?_
    obtain ⟨_, q42c, h⟩ := bnd h
    obtain ⟨x42, q42, h⟩ := bnd h
    refine r_callV (pc := 42) (i := 123) (d2 := d - 1) (As := [(0, v8), (0, v2)]) (st := [(0, v9)]) (st1 := [(0, v2), (0, v8), (2, v0), (0, v9)]) (by decide +kernel) yk_Census_mostFirst (by decide) rfl ⟨ml_Census_123, vk_Census_mostFirst⟩ np_Census_mostFirst rfl (by omega) q42c (c_Census_mostFirst (d := d - 1) (by omega) q42) (Nat.le_of_ble_eq_true rfl) (Nat.le_of_ble_eq_true rfl) (Nat.le_of_ble_eq_true rfl) rfl ?_
    show Rn _ d _ _ 0 0 _ 45 [(0, (2, v0)), (1, (2, v1)), (2, (0, v2)), (3, (0, v3)), (6, (1, v6)), (8, (0, v8)), (9, (0, v9))] [(0, x42.1), (0, v9)] x42.2
    refine r_icmp_gt (pc := 45) (off := 60) (tgt := 105) (by decide +kernel) (by decide) (fun c45 => ?_) (fun c45 => ?_)
    · have h := ite_t c45 h
      refine r_lv [0, 1, 2, 3, 4, 5] rfl ?_
      exact hk v6 x42.2 h
    · have h := ite_f c45 h
      refine r_aload_n (pc := 48) 0 (n := 0) (by decide +kernel) rfl rfl ?_
      refine r_aload_n (pc := 49) 1 (n := 1) (by decide +kernel) rfl rfl ?_
      refine r_iload (pc := 50) 5 (by decide +kernel) rfl ?_
      refine r_iload_n (pc := 52) 2 (n := 2) (by decide +kernel) rfl rfl ?_
      refine r_iload (pc := 53) 6 (by decide +kernel) rfl ?_
      refine r_iload_n (pc := 55) 3 (n := 3) (by decide +kernel) rfl rfl ?_
      obtain ⟨_, q56c, h⟩ := bnd h
      obtain ⟨x56, q56, h⟩ := bnd h
      refine r_callV (pc := 56) (i := 126) (d2 := d - 1) (As := [(2, v1), (0, v8), (0, v2), (0, v9), (0, v3)]) (st := []) (st1 := [(0, v3), (0, v9), (0, v2), (0, v8), (2, v1), (2, v0)]) (by decide +kernel) yk_Census_share (by decide) rfl ⟨ml_Census_126, vk_Census_share⟩ np_Census_share rfl (by omega) q56c (c_Census_share (d := d - 1) (by omega) q56) (Nat.le_of_ble_eq_true rfl) (Nat.le_of_ble_eq_true rfl) (Nat.le_of_ble_eq_true rfl) rfl ?_
      show Rn _ d _ _ 0 0 _ 59 [(0, (2, v0)), (1, (2, v1)), (2, (0, v2)), (3, (0, v3)), (6, (1, v6)), (8, (0, v8)), (9, (0, v9))] [(1, x56.1)] x56.2
      refine r_lstore (pc := 59) (lv' := [(10, (1, x56.1)), (0, (2, v0)), (1, (2, v1)), (2, (0, v2)), (3, (0, v3)), (6, (1, v6)), (8, (0, v8)), (9, (0, v9))]) (by decide +kernel) (Nat.le_of_ble_eq_true rfl) rfl ?_
      refine r_lload (pc := 61) 5 (by decide +kernel) rfl ?_
      refine r_lload (pc := 63) 0 (by decide +kernel) rfl ?_
      refine r_lcmp (pc := 65) (by decide +kernel) ?_
      refine r_if_ge (pc := 66) (off := 26) (tgt := 92) (by decide +kernel) (by decide) (fun c66 => ?_) (fun c66 => ?_)
      · have h := ite_t c66 h
        refine r_lload (pc := 92) 5 (by decide +kernel) rfl ?_
        refine r_lload (pc := 94) 0 (by decide +kernel) rfl ?_
        refine r_lsub (pc := 96) (by decide +kernel) ?_
        obtain ⟨u6_97, q97, h⟩ := lt_o h
        refine r_eq q97 ?_
        refine r_lstore (pc := 97) (lv' := [(6, (1, u6_97)), (10, (1, x56.1)), (0, (2, v0)), (1, (2, v1)), (2, (0, v2)), (3, (0, v3)), (8, (0, v8)), (9, (0, v9))]) (by decide +kernel) (Nat.le_of_ble_eq_true rfl) rfl ?_
        refine r_iinc (pc := 99) 7 (n := 1) (lv' := [(9, (0, wr (v9 + 1))), (6, (1, u6_97)), (10, (1, x56.1)), (0, (2, v0)), (1, (2, v1)), (2, (0, v2)), (3, (0, v3)), (8, (0, v8))]) (by decide +kernel) rfl (Nat.le_of_ble_eq_true rfl) rfl ?_
        refine r_goto (pc := 102) (off := (-66)) (tgt := 36) (by decide +kernel) (by decide) ?_
        refine r_lv [3, 4, 5, 6, 1, 7, 0] rfl ?_
        exact ih u6_97 (wr (v9 + 1)) x56.2 h
      · have h := ite_f c66 h
        refine r_aload_n (pc := 69) 1 (n := 0) (by decide +kernel) rfl rfl ?_
        obtain ⟨g70, q70, h⟩ := bnd h
        refine r_get (pc := 70) (by decide +kernel) fl_Census_23.r (by decide) rfl q70 ?_
        refine r_iload (pc := 73) 6 (by decide +kernel) rfl ?_
        obtain ⟨_, q75c, h⟩ := bnd h
        obtain ⟨x75, q75, h⟩ := bnd h
        refine r_callV (pc := 75) (i := 129) (d2 := d - 1) (As := [(0, v8)]) (st := []) (st1 := [(0, v8), (2, g70)]) (by decide +kernel) yk_Row_add (by decide) rfl ⟨ml_Census_129, vk_Row_add⟩ np_Row_add rfl (by omega) q75c (c_Row_add (d := d - 1) (by omega) q75) (Nat.le_of_ble_eq_true rfl) (Nat.le_of_ble_eq_true rfl) (Nat.le_of_ble_eq_true rfl) rfl ?_
        show Rn _ d _ _ 0 0 _ 78 [(10, (1, x56.1)), (0, (2, v0)), (1, (2, v1)), (2, (0, v2)), (3, (0, v3)), (6, (1, v6)), (8, (0, v8)), (9, (0, v9))] [] x75
        refine r_aload_n (pc := 78) 1 (n := 0) (by decide +kernel) rfl rfl ?_
        refine r_aload_n (pc := 79) 2 (n := 1) (by decide +kernel) rfl rfl ?_
        refine r_iload (pc := 80) 6 (by decide +kernel) rfl ?_
        refine r_iload_n (pc := 82) 3 (n := 2) (by decide +kernel) rfl rfl ?_
        refine r_iload (pc := 83) 7 (by decide +kernel) rfl ?_
        refine r_iload_n (pc := 85) 4 (n := 3) (by decide +kernel) rfl rfl ?_
        refine r_lload (pc := 86) 5 (by decide +kernel) rfl ?_
        obtain ⟨_, q88c, h⟩ := bnd h
        obtain ⟨x88, q88, h⟩ := bnd h
        refine r_callV (pc := 88) (i := 132) (d2 := d - 1) (As := [(2, v1), (0, v8), (0, v2), (0, v9), (0, v3), (1, v6)]) (st := []) (st1 := [(1, v6), (0, v3), (0, v9), (0, v2), (0, v8), (2, v1), (2, v0)]) (by decide +kernel) yk_Census_writeParts (by decide) rfl ⟨ml_Census_132, vk_Census_writeParts⟩ np_Census_writeParts rfl (by omega) q88c (c_Census_writeParts (d := d - 1) (by omega) hw q88) (Nat.le_of_ble_eq_true rfl) (Nat.le_of_ble_eq_true rfl) (Nat.le_of_ble_eq_true rfl) rfl ?_
        show Rn _ d _ _ 0 0 _ 91 [(10, (1, x56.1)), (0, (2, v0)), (1, (2, v1)), (2, (0, v2)), (3, (0, v3)), (6, (1, v6)), (8, (0, v8)), (9, (0, v9))] [(0, x88.1)] x88.2
        obtain rfl := Option.some.inj h
        exact r_ret (pc := 91) (r := some (0, x88.1)) (by decide +kernel) rfl trivial (Nat.le_of_ble_eq_true rfl) (Nat.le_of_ble_eq_true rfl)
theorem sL_Census_write_15 {d mc ms : Nat} (hd : 6 ≤ d) {w : Int → Int → Int → Int → Int → Mem → Option (Int × Mem)} (hw : ∀ {a0 a1 a2 a3 a4 : Int} {M : Mem} {x : Int × Mem}, w a0 a1 a2 a3 a4 M = some x → Ct (d - 1 - 1) Y_Census_write [(2, a0), (2, a1), (0, a2), (0, a3), (1, a4)] M (some (0, x.1), x.2) 0 0) {r : Int × Mem} {k : Mem → Option (Int × Mem)} {v0 : Int} {v1 : Int} {v2 : Int} {v3 : Int} (hk : ∀ (M : Mem), k M = some r → Rn Y_Census_write d mc ms 0 0 (some (0, r.1), r.2) 111 [] [] M) : ∀ (n : Nat) (v6 : Int) (v8 : Int) (M : Mem), L_Census_write_15 w k v0 v1 v2 v3 n v6 v8 M = some r → Rn Y_Census_write d mc ms 0 0 (some (0, r.1), r.2) 15 [(0, (2, v0)), (1, (2, v1)), (2, (0, v2)), (3, (0, v3)), (6, (1, v6)), (8, (0, v8))] [] M := by
  intro n
  induction n with
  | zero => intro _ _ _ h; cases h
  | succ n ih =>
    intro v6 v8 M h
    rw [L_Census_write_15] at h
    refine r_iload (pc := 15) 5 (by decide +kernel) rfl ?_
    refine r_aload_n (pc := 17) 0 (n := 0) (by decide +kernel) rfl rfl ?_
    obtain ⟨g18, q18, h⟩ := bnd h
    refine r_get (pc := 18) (by decide +kernel) fl_Census_19.r (by decide) rfl q18 ?_
    obtain ⟨g21, q21, h⟩ := bnd h
    refine r_get (pc := 21) (by decide +kernel) fl_Census_94.r (by decide) rfl q21 ?_
    refine r_icmp_ge (pc := 24) (off := 87) (tgt := 111) (by decide +kernel) (by decide) (fun c24 => ?_) (fun c24 => ?_)
    · have h := ite_t c24 h
      refine r_lv [] rfl ?_
      exact hk  M h
    · have h := ite_f c24 h
      refine r_aload_n (pc := 27) 0 (n := 0) (by decide +kernel) rfl rfl ?_
      refine r_iload (pc := 28) 5 (by decide +kernel) rfl ?_
      refine r_iload_n (pc := 30) 2 (n := 2) (by decide +kernel) rfl rfl ?_
      obtain ⟨_, q31c, h⟩ := bnd h
      obtain ⟨x31, q31, h⟩ := bnd h
      refine r_callV (pc := 31) (i := 115) (d2 := d - 1) (As := [(0, v8), (0, v2)]) (st := []) (st1 := [(0, v2), (0, v8), (2, v0)]) (by decide +kernel) yk_Census_leastFirst (by decide) rfl ⟨ml_Census_115, vk_Census_leastFirst⟩ np_Census_leastFirst rfl (by omega) q31c (c_Census_leastFirst (d := d - 1) (by omega) q31) (Nat.le_of_ble_eq_true rfl) (Nat.le_of_ble_eq_true rfl) (Nat.le_of_ble_eq_true rfl) rfl ?_
      show Rn _ d _ _ 0 0 _ 34 [(0, (2, v0)), (1, (2, v1)), (2, (0, v2)), (3, (0, v3)), (6, (1, v6)), (8, (0, v8))] [(0, x31.1)] x31.2
      refine r_istore (pc := 34) (lv' := [(9, (0, x31.1)), (0, (2, v0)), (1, (2, v1)), (2, (0, v2)), (3, (0, v3)), (6, (1, v6)), (8, (0, v8))]) (by decide +kernel) (Nat.le_of_ble_eq_true rfl) rfl ?_
      refine r_lv [1, 2, 3, 4, 5, 6, 0] rfl ?_
      refine sL_Census_write_36 (by omega) hw ?_ _ _ _  _ h
      intro w6_36 m36 h
      refine r_iinc (pc := 105) 5 (n := 1) (lv' := [(8, (0, wr (v8 + 1))), (0, (2, v0)), (1, (2, v1)), (2, (0, v2)), (3, (0, v3)), (6, (1, w6_36))]) (by decide +kernel) rfl (Nat.le_of_ble_eq_true rfl) rfl ?_
      refine r_goto (pc := 108) (off := (-93)) (tgt := 15) (by decide +kernel) (by decide) ?_
      refine r_lv [1, 2, 3, 4, 5, 0] rfl ?_
      exact ih w6_36 (wr (v8 + 1)) m36 h
theorem cb_Census_write {d : Nat} (hd : 6 ≤ d) {w : Int → Int → Int → Int → Int → Mem → Option (Int × Mem)} (hw : ∀ {a0 a1 a2 a3 a4 : Int} {M : Mem} {x : Int × Mem}, w a0 a1 a2 a3 a4 M = some x → Ct (d - 1 - 1) Y_Census_write [(2, a0), (2, a1), (0, a2), (0, a3), (1, a4)] M (some (0, x.1), x.2) 0 0) {a0 a1 a2 a3 a4 : Int} {M : Mem} {x : Int × Mem} (h : B_Census_write w a0 a1 a2 a3 a4 M = some x) : Ct d Y_Census_write [(2, a0), (2, a1), (0, a2), (0, a3), (1, a4)] M (some (0, x.1), x.2) 0 0 := by
  refine ct_of yk_Census_write (Nat.le_of_ble_eq_true rfl) ?_
  rw [B_Census_write] at h
  show Rn Y_Census_write d 0 0 0 0 (some (0, x.1), x.2) 0 [(0, (2, a0)), (1, (2, a1)), (2, (0, a2)), (3, (0, a3)), (4, (1, a4))] [] M
  refine r_iload_n (pc := 0) 3 (n := 3) (by decide +kernel) rfl rfl ?_
  refine r_bipush (pc := 1) (z := 40) (by decide +kernel) ⟨by decide, by decide⟩ ?_
  refine r_icmp_lt (pc := 3) (off := 5) (tgt := 8) (by decide +kernel) (by decide) (fun c3 => ?_) (fun c3 => ?_)
  · have h := ite_t c3 h
    refine r_lload (pc := 8) 4 (by decide +kernel) rfl ?_
    refine r_lstore (pc := 10) (lv' := [(6, (1, a4)), (0, (2, a0)), (1, (2, a1)), (2, (0, a2)), (3, (0, a3)), (4, (1, a4))]) (by decide +kernel) (Nat.le_of_ble_eq_true rfl) rfl ?_
    refine r_iconst (pc := 12) (z := 0) (by decide +kernel) ⟨by decide, by decide⟩ ?_
    refine r_istore (pc := 13) (lv' := [(8, (0, 0)), (6, (1, a4)), (0, (2, a0)), (1, (2, a1)), (2, (0, a2)), (3, (0, a3)), (4, (1, a4))]) (by decide +kernel) (Nat.le_of_ble_eq_true rfl) rfl ?_
    refine r_lv [2, 3, 4, 5, 1, 0] rfl ?_
    refine sL_Census_write_15 (by omega) hw ?_ _ _ _  _ h
    intro m15 h
    refine r_iconst (pc := 111) (z := 0) (by decide +kernel) ⟨by decide, by decide⟩ ?_
    obtain rfl := Option.some.inj h
    exact r_ret (pc := 112) (r := some (0, 0)) (by decide +kernel) rfl trivial (Nat.le_of_ble_eq_true rfl) (Nat.le_of_ble_eq_true rfl)
  · have h := ite_f c3 h
    refine r_iconst (pc := 6) (z := 0) (by decide +kernel) ⟨by decide, by decide⟩ ?_
    obtain rfl := Option.some.inj h
    exact r_ret (pc := 7) (r := some (0, 0)) (by decide +kernel) rfl trivial (Nat.le_of_ble_eq_true rfl) (Nat.le_of_ble_eq_true rfl)
noncomputable def D_Census_write : Nat → Int → Int → Int → Int → Int → Mem → Option (Int × Mem)
  | 0 => fun _ _ _ _ _ _ => none
  | n + 1 => B_Census_write (D_Census_write n)
theorem c_Census_write (n : Nat) : ∀ {d : Nat}, 2 * n + 6 ≤ d → ∀ {a0 a1 a2 a3 a4 : Int} {M : Mem} {x : Int × Mem}, D_Census_write n a0 a1 a2 a3 a4 M = some x → Ct d Y_Census_write [(2, a0), (2, a1), (0, a2), (0, a3), (1, a4)] M (some (0, x.1), x.2) 0 0 := by
  induction n with
  | zero => intro d hd a0 a1 a2 a3 a4 M x h; cases h
  | succ n ih =>
    intro d hd a0 a1 a2 a3 a4 M x h
    exact cb_Census_write (by omega) (fun h => ih (d := d - 1 - 1) (by omega) h) h

/-! TreeTongues$Census.writeNumber(LTreeTongues$Machine;J)I -/
noncomputable def L_Census_writeNumber_6 (k : Mem → Option (Int × Mem)) (v0 : Int) (v1 : Int) : Nat → Int → Int → Mem → Option (Int × Mem)
  | 0 => fun _ _ _ => none
  | n + 1 => fun v4 v6 M => if 40 < v6 then (k  M) else ((ck M v0 0 4).bind fun _ => (D_Census_treesOf v0 v1 v6 M).bind fun x17 => if 0 ≤ (lc v4 x17.1) then (lt (wl (v4 - x17.1)) fun u4_67 => L_Census_writeNumber_6 k v0 v1 n u4_67 (wr (v6 + 1)) x17.2) else ((ck x17.2 v0 0 4).bind fun _ => (D_Census_weighFinals v0 v1 x17.2).bind fun x32 => (gf x32 v0 0 4 1).bind fun g36 => (pf x32 g36 4 5 4 0).bind fun m40 => (ck m40 v0 0 4).bind fun _ => (D_Census_write WF v0 v1 v6 0 v4 m40).bind fun x50 => (gf x50.2 v0 0 4 1).bind fun g55 => (gf x50.2 g55 4 5 4).bind fun g58 => some (g58, x50.2)))
noncomputable def D_Census_writeNumber (a0 a1 a2 : Int) (M : Mem) : Option (Int × Mem) := L_Census_writeNumber_6 (fun  m6 => some ((-1), m6)) a0 a1 FU a2 1 M
theorem sL_Census_writeNumber_6 {d mc ms : Nat} (hd : 107 ≤ d) {r : Int × Mem} {k : Mem → Option (Int × Mem)} {v0 : Int} {v1 : Int} (hk : ∀ (M : Mem), k M = some r → Rn Y_Census_writeNumber d mc ms 0 0 (some (0, r.1), r.2) 75 [] [] M) : ∀ (n : Nat) (v4 : Int) (v6 : Int) (M : Mem), L_Census_writeNumber_6 k v0 v1 n v4 v6 M = some r → Rn Y_Census_writeNumber d mc ms 0 0 (some (0, r.1), r.2) 6 [(0, (2, v0)), (1, (2, v1)), (4, (1, v4)), (6, (0, v6))] [] M := by
  intro n
  induction n with
  | zero => intro _ _ _ h; cases h
  | succ n ih =>
    intro v4 v6 M h
    rw [L_Census_writeNumber_6] at h
    refine r_iload (pc := 6) 3 (by decide +kernel) rfl ?_
    refine r_bipush (pc := 8) (z := 40) (by decide +kernel) ⟨by decide, by decide⟩ ?_
    refine r_icmp_gt (pc := 10) (off := 65) (tgt := 75) (by decide +kernel) (by decide) (fun c10 => ?_) (fun c10 => ?_)
    · have h := ite_t c10 h
      refine r_lv [] rfl ?_
      exact hk  M h
    · have h := ite_f c10 h
      refine r_aload_n (pc := 13) 0 (n := 0) (by decide +kernel) rfl rfl ?_
      refine r_aload_n (pc := 14) 1 (n := 1) (by decide +kernel) rfl rfl ?_
      refine r_iload (pc := 15) 3 (by decide +kernel) rfl ?_
      obtain ⟨_, q17c, h⟩ := bnd h
      obtain ⟨x17, q17, h⟩ := bnd h
      refine r_callV (pc := 17) (i := 48) (d2 := d - 1) (As := [(2, v1), (0, v6)]) (st := []) (st1 := [(0, v6), (2, v1), (2, v0)]) (by decide +kernel) yk_Census_treesOf (by decide) rfl ⟨ml_Census_48, vk_Census_treesOf⟩ np_Census_treesOf rfl (by omega) q17c (c_Census_treesOf (d := d - 1) (by omega) q17) (Nat.le_of_ble_eq_true rfl) (Nat.le_of_ble_eq_true rfl) (Nat.le_of_ble_eq_true rfl) rfl ?_
      show Rn _ d _ _ 0 0 _ 20 [(0, (2, v0)), (1, (2, v1)), (4, (1, v4)), (6, (0, v6))] [(1, x17.1)] x17.2
      refine r_lstore (pc := 20) (lv' := [(7, (1, x17.1)), (0, (2, v0)), (1, (2, v1)), (4, (1, v4)), (6, (0, v6))]) (by decide +kernel) (Nat.le_of_ble_eq_true rfl) rfl ?_
      refine r_lload (pc := 22) 3 (by decide +kernel) rfl ?_
      refine r_lload (pc := 24) 0 (by decide +kernel) rfl ?_
      refine r_lcmp (pc := 26) (by decide +kernel) ?_
      refine r_if_ge (pc := 27) (off := 35) (tgt := 62) (by decide +kernel) (by decide) (fun c27 => ?_) (fun c27 => ?_)
      · have h := ite_t c27 h
        refine r_lload (pc := 62) 3 (by decide +kernel) rfl ?_
        refine r_lload (pc := 64) 0 (by decide +kernel) rfl ?_
        refine r_lsub (pc := 66) (by decide +kernel) ?_
        obtain ⟨u4_67, q67, h⟩ := lt_o h
        refine r_eq q67 ?_
        refine r_lstore (pc := 67) (lv' := [(4, (1, u4_67)), (7, (1, x17.1)), (0, (2, v0)), (1, (2, v1)), (6, (0, v6))]) (by decide +kernel) (Nat.le_of_ble_eq_true rfl) rfl ?_
        refine r_iinc (pc := 69) 4 (n := 1) (lv' := [(6, (0, wr (v6 + 1))), (4, (1, u4_67)), (7, (1, x17.1)), (0, (2, v0)), (1, (2, v1))]) (by decide +kernel) rfl (Nat.le_of_ble_eq_true rfl) rfl ?_
        refine r_goto (pc := 72) (off := (-66)) (tgt := 6) (by decide +kernel) (by decide) ?_
        refine r_lv [3, 4, 1, 0] rfl ?_
        exact ih u4_67 (wr (v6 + 1)) x17.2 h
      · have h := ite_f c27 h
        refine r_aload_n (pc := 30) 1 (n := 0) (by decide +kernel) rfl rfl ?_
        refine r_aload_n (pc := 31) 2 (n := 1) (by decide +kernel) rfl rfl ?_
        obtain ⟨_, q32c, h⟩ := bnd h
        obtain ⟨x32, q32, h⟩ := bnd h
        refine r_callV (pc := 32) (i := 52) (d2 := d - 1) (As := [(2, v1)]) (st := []) (st1 := [(2, v1), (2, v0)]) (by decide +kernel) yk_Census_weighFinals (by decide) rfl ⟨ml_Census_52, vk_Census_weighFinals⟩ np_Census_weighFinals rfl (by omega) q32c (c_Census_weighFinals (d := d - 1) (by omega) q32) (Nat.le_of_ble_eq_true rfl) (Nat.le_of_ble_eq_true rfl) (Nat.le_of_ble_eq_true rfl) rfl ?_
        show Rn _ d _ _ 0 0 _ 35 [(7, (1, x17.1)), (0, (2, v0)), (1, (2, v1)), (4, (1, v4)), (6, (0, v6))] [] x32
        refine r_aload_n (pc := 35) 1 (n := 0) (by decide +kernel) rfl rfl ?_
        obtain ⟨g36, q36, h⟩ := bnd h
        refine r_get (pc := 36) (by decide +kernel) fl_Census_23.r (by decide) rfl q36 ?_
        refine r_iconst (pc := 39) (z := 0) (by decide +kernel) ⟨by decide, by decide⟩ ?_
        obtain ⟨m40, q40, h⟩ := bnd h
        refine r_put (pc := 40) (by decide +kernel) fl_Census_55 (by decide) (Or.inr nf_4_4) rfl (fun h3 => by cases h3) q40 ?_
        refine r_aload_n (pc := 43) 1 (n := 0) (by decide +kernel) rfl rfl ?_
        refine r_aload_n (pc := 44) 2 (n := 1) (by decide +kernel) rfl rfl ?_
        refine r_iload (pc := 45) 4 (by decide +kernel) rfl ?_
        refine r_iconst (pc := 47) (z := 0) (by decide +kernel) ⟨by decide, by decide⟩ ?_
        refine r_lload (pc := 48) 3 (by decide +kernel) rfl ?_
        obtain ⟨_, q50c, h⟩ := bnd h
        obtain ⟨x50, q50, h⟩ := bnd h
        refine r_callV (pc := 50) (i := 60) (d2 := d - 1) (As := [(2, v1), (0, v6), (0, 0), (1, v4)]) (st := []) (st1 := [(1, v4), (0, 0), (0, v6), (2, v1), (2, v0)]) (by decide +kernel) yk_Census_write (by decide) rfl ⟨ml_Census_60, vk_Census_write⟩ np_Census_write rfl (by omega) q50c (c_Census_write WF (d := d - 1) (by have := WF_eq; omega) q50) (Nat.le_of_ble_eq_true rfl) (Nat.le_of_ble_eq_true rfl) (Nat.le_of_ble_eq_true rfl) rfl ?_
        show Rn _ d _ _ 0 0 _ 53 [(7, (1, x17.1)), (0, (2, v0)), (1, (2, v1)), (4, (1, v4)), (6, (0, v6))] [(0, x50.1)] x50.2
        refine r_pop (pc := 53) (by decide +kernel) rfl ?_
        refine r_aload_n (pc := 54) 1 (n := 0) (by decide +kernel) rfl rfl ?_
        obtain ⟨g55, q55, h⟩ := bnd h
        refine r_get (pc := 55) (by decide +kernel) fl_Census_23.r (by decide) rfl q55 ?_
        obtain ⟨g58, q58, h⟩ := bnd h
        refine r_get (pc := 58) (by decide +kernel) fl_Census_55.r (by decide) rfl q58 ?_
        obtain rfl := Option.some.inj h
        exact r_ret (pc := 61) (r := some (0, g58)) (by decide +kernel) rfl trivial (Nat.le_of_ble_eq_true rfl) (Nat.le_of_ble_eq_true rfl)
theorem c_Census_writeNumber {d : Nat} (hd : 107 ≤ d) {a0 a1 a2 : Int} {M : Mem} {x : Int × Mem} (h : D_Census_writeNumber a0 a1 a2 M = some x) : Ct d Y_Census_writeNumber [(2, a0), (2, a1), (1, a2)] M (some (0, x.1), x.2) 0 0 := by
  refine ct_of yk_Census_writeNumber (Nat.le_of_ble_eq_true rfl) ?_
  rw [D_Census_writeNumber] at h
  show Rn Y_Census_writeNumber d 0 0 0 0 (some (0, x.1), x.2) 0 [(0, (2, a0)), (1, (2, a1)), (2, (1, a2))] [] M
  refine r_lload_n (pc := 0) 2 (n := 2) (by decide +kernel) rfl rfl ?_
  refine r_lstore (pc := 1) (lv' := [(4, (1, a2)), (0, (2, a0)), (1, (2, a1)), (2, (1, a2))]) (by decide +kernel) (Nat.le_of_ble_eq_true rfl) rfl ?_
  refine r_iconst (pc := 3) (z := 1) (by decide +kernel) ⟨by decide, by decide⟩ ?_
  refine r_istore (pc := 4) (lv' := [(6, (0, 1)), (4, (1, a2)), (0, (2, a0)), (1, (2, a1)), (2, (1, a2))]) (by decide +kernel) (Nat.le_of_ble_eq_true rfl) rfl ?_
  refine r_lv [2, 3, 1, 0] rfl ?_
  refine sL_Census_writeNumber_6 (by omega) ?_ _ _ _  _ h
  intro m6 h
  refine r_iconst (pc := 75) (z := (-1)) (by decide +kernel) ⟨by decide, by decide⟩ ?_
  obtain rfl := Option.some.inj h
  exact r_ret (pc := 76) (r := some (0, (-1))) (by decide +kernel) rfl trivial (Nat.le_of_ble_eq_true rfl) (Nat.le_of_ble_eq_true rfl)

/-! TreeTongues.tree(IJ)I -/
noncomputable def D_T_tree (a0 a1 a2 : Int) (M : Mem) : Option (Int × Mem) := (ck M a0 8 8).bind fun _ => (D_T_find a0 a1 M).bind fun x2 => if x2.1 < 0 then (some ((-2), x2.2)) else (if (lc a2 0) < 0 then (some ((-2), x2.2)) else (if (lc a2 1000000000000000000) < 0 then ((ck x2.2 a0 8 8).bind fun _ => (D_T_isLarge a0 x2.1 x2.2).bind fun x32 => if x32.1 = 0 then ((gf x32.2 a0 8 8 6).bind fun g44 => (gf x32.2 x2.1 7 8 1).bind fun g49 => (ck x32.2 g44 0 4).bind fun _ => (D_Census_writeNumber g44 g49 a2 x32.2).bind fun x53 => some (x53.1, x53.2)) else (some ((-5), x32.2))) else (some ((-2), x2.2))))
theorem c_T_tree {d : Nat} (hd : 108 ≤ d) {a0 a1 a2 : Int} {M : Mem} {x : Int × Mem} (h : D_T_tree a0 a1 a2 M = some x) : Ct d Y_T_tree [(2, a0), (0, a1), (1, a2)] M (some (0, x.1), x.2) 0 0 := by
  refine ct_of yk_T_tree (Nat.le_of_ble_eq_true rfl) ?_
  rw [D_T_tree] at h
  show Rn Y_T_tree d 0 0 0 0 (some (0, x.1), x.2) 0 [(0, (2, a0)), (1, (0, a1)), (2, (1, a2))] [] M
  refine r_aload_n (pc := 0) 0 (n := 0) (by decide +kernel) rfl rfl ?_
  refine r_iload_n (pc := 1) 1 (n := 1) (by decide +kernel) rfl rfl ?_
  obtain ⟨_, q2c, h⟩ := bnd h
  obtain ⟨x2, q2, h⟩ := bnd h
  refine r_callV (pc := 2) (i := 98) (d2 := d - 1) (As := [(0, a1)]) (st := []) (st1 := [(0, a1), (2, a0)]) (by decide +kernel) yk_T_find (by decide) rfl ⟨ml_T_98, vk_T_find⟩ np_T_find rfl (by omega) q2c (c_T_find (d := d - 1) (by omega) q2) (Nat.le_of_ble_eq_true rfl) (Nat.le_of_ble_eq_true rfl) (Nat.le_of_ble_eq_true rfl) rfl ?_
  show Rn _ d _ _ 0 0 _ 5 [(0, (2, a0)), (1, (0, a1)), (2, (1, a2))] [(2, x2.1)] x2.2
  refine r_astore (pc := 5) (lv' := [(4, (2, x2.1)), (0, (2, a0)), (1, (0, a1)), (2, (1, a2))]) (by decide +kernel) (Nat.le_of_ble_eq_true rfl) rfl ?_
  refine r_aload (pc := 7) 0 (by decide +kernel) rfl ?_
  refine r_ifnull (pc := 9) (off := 17) (tgt := 26) (by decide +kernel) (by decide) (fun c9 => ?_) (fun c9 => ?_)
  · have h := ite_t c9 h
    refine r_bipush (pc := 26) (z := (-2)) (by decide +kernel) ⟨by decide, by decide⟩ ?_
    obtain rfl := Option.some.inj h
    exact r_ret (pc := 28) (r := some (0, (-2))) (by decide +kernel) rfl trivial (Nat.le_of_ble_eq_true rfl) (Nat.le_of_ble_eq_true rfl)
  · have h := ite_f c9 h
    refine r_lload_n (pc := 12) 3 (n := 2) (by decide +kernel) rfl rfl ?_
    refine r_lconst (pc := 13) (n := 0) (z := 0) (by decide +kernel) rfl ?_
    refine r_lcmp (pc := 14) (by decide +kernel) ?_
    refine r_if_lt (pc := 15) (off := 11) (tgt := 26) (by decide +kernel) (by decide) (fun c15 => ?_) (fun c15 => ?_)
    · have h := ite_t c15 h
      refine r_bipush (pc := 26) (z := (-2)) (by decide +kernel) ⟨by decide, by decide⟩ ?_
      obtain rfl := Option.some.inj h
      exact r_ret (pc := 28) (r := some (0, (-2))) (by decide +kernel) rfl trivial (Nat.le_of_ble_eq_true rfl) (Nat.le_of_ble_eq_true rfl)
    · have h := ite_f c15 h
      refine r_lload_n (pc := 18) 3 (n := 2) (by decide +kernel) rfl rfl ?_
      refine r_ldc2 (pc := 19) (i := 206) (z := 1000000000000000000) (by decide +kernel) (mg 830 (by decide +kernel) (by decide +kernel)) ⟨by decide, by decide⟩ ?_
      refine r_lcmp (pc := 22) (by decide +kernel) ?_
      refine r_if_lt (pc := 23) (off := 6) (tgt := 29) (by decide +kernel) (by decide) (fun c23 => ?_) (fun c23 => ?_)
      · have h := ite_t c23 h
        refine r_aload_n (pc := 29) 1 (n := 0) (by decide +kernel) rfl rfl ?_
        refine r_aload (pc := 30) 0 (by decide +kernel) rfl ?_
        obtain ⟨_, q32c, h⟩ := bnd h
        obtain ⟨x32, q32, h⟩ := bnd h
        refine r_callV (pc := 32) (i := 122) (d2 := d - 1) (As := [(2, x2.1)]) (st := []) (st1 := [(2, x2.1), (2, a0)]) (by decide +kernel) yk_T_isLarge (by decide) rfl ⟨ml_T_122, vk_T_isLarge⟩ np_T_isLarge rfl (by omega) q32c (c_T_isLarge (d := d - 1) (by omega) q32) (Nat.le_of_ble_eq_true rfl) (Nat.le_of_ble_eq_true rfl) (Nat.le_of_ble_eq_true rfl) rfl ?_
        show Rn _ d _ _ 0 0 _ 35 [(4, (2, x2.1)), (0, (2, a0)), (1, (0, a1)), (2, (1, a2))] [(0, x32.1)] x32.2
        refine r_if_eq (pc := 35) (off := 8) (tgt := 43) (by decide +kernel) (by decide) (fun c35 => ?_) (fun c35 => ?_)
        · have h := ite_t c35 h
          refine r_aload_n (pc := 43) 1 (n := 0) (by decide +kernel) rfl rfl ?_
          obtain ⟨g44, q44, h⟩ := bnd h
          refine r_get (pc := 44) (by decide +kernel) fl_T_59.r (by decide) rfl q44 ?_
          refine r_aload (pc := 47) 0 (by decide +kernel) rfl ?_
          obtain ⟨g49, q49, h⟩ := bnd h
          refine r_get (pc := 49) (by decide +kernel) fl_T_126 (by decide) rfl q49 ?_
          refine r_lload_n (pc := 52) 3 (n := 2) (by decide +kernel) rfl rfl ?_
          obtain ⟨_, q53c, h⟩ := bnd h
          obtain ⟨x53, q53, h⟩ := bnd h
          refine r_callV (pc := 53) (i := 208) (d2 := d - 1) (As := [(2, g49), (1, a2)]) (st := []) (st1 := [(1, a2), (2, g49), (2, g44)]) (by decide +kernel) yk_Census_writeNumber (by decide) rfl ⟨ml_T_208, vk_Census_writeNumber⟩ np_Census_writeNumber rfl (by omega) q53c (c_Census_writeNumber (d := d - 1) (by omega) q53) (Nat.le_of_ble_eq_true rfl) (Nat.le_of_ble_eq_true rfl) (Nat.le_of_ble_eq_true rfl) rfl ?_
          show Rn _ d _ _ 0 0 _ 56 [(4, (2, x2.1)), (0, (2, a0)), (1, (0, a1)), (2, (1, a2))] [(0, x53.1)] x53.2
          obtain rfl := Option.some.inj h
          exact r_ret (pc := 56) (r := some (0, x53.1)) (by decide +kernel) rfl trivial (Nat.le_of_ble_eq_true rfl) (Nat.le_of_ble_eq_true rfl)
        · have h := ite_f c35 h
          refine r_bipush (pc := 38) (z := (-5)) (by decide +kernel) ⟨by decide, by decide⟩ ?_
          refine r_goto (pc := 40) (off := 16) (tgt := 56) (by decide +kernel) (by decide) ?_
          obtain rfl := Option.some.inj h
          exact r_ret (pc := 56) (r := some (0, (-5))) (by decide +kernel) rfl trivial (Nat.le_of_ble_eq_true rfl) (Nat.le_of_ble_eq_true rfl)
      · have h := ite_f c23 h
        refine r_bipush (pc := 26) (z := (-2)) (by decide +kernel) ⟨by decide, by decide⟩ ?_
        obtain rfl := Option.some.inj h
        exact r_ret (pc := 28) (r := some (0, (-2))) (by decide +kernel) rfl trivial (Nat.le_of_ble_eq_true rfl) (Nat.le_of_ble_eq_true rfl)

/-! TreeTongues$Census.ahead(LTreeTongues$Machine;II)J -/
noncomputable def L_Census_ahead_138 (w : Int → Int → Int → Int → Mem → Option (Int × Mem)) (k : Int → Mem → Option (Int × Mem)) (v0 : Int) (v1 : Int) (v2 : Int) (v3 : Int) (v4 : Int) (v5 : Int) (v6 : Int) (v7 : Int) (v10 : Int) (v11 : Int) : Nat → Int → Int → Mem → Option (Int × Mem)
  | 0 => fun _ _ _ => none
  | n + 1 => fun v8 v12 M => if v11 < v12 then (k v8 M) else ((ck M v0 0 4).bind fun _ => (D_Census_share v0 v1 v10 v4 v12 v3 M).bind fun x156 => (D_Census_plus v8 x156.1 x156.2).bind fun x159 => L_Census_ahead_138 w k v0 v1 v2 v3 v4 v5 v6 v7 v10 v11 n x159.1 (wr (v12 + 1)) x159.2)
noncomputable def L_Census_ahead_97 (w : Int → Int → Int → Int → Mem → Option (Int × Mem)) (k : Int → Mem → Option (Int × Mem)) (v0 : Int) (v1 : Int) (v2 : Int) (v3 : Int) (v4 : Int) (v5 : Int) (v6 : Int) (v7 : Int) : Nat → Int → Int → Mem → Option (Int × Mem)
  | 0 => fun _ _ _ => none
  | n + 1 => fun v8 v10 M => if v5 < v10 then (k v8 M) else ((if v5 ≤ v10 then (some (wr (v7 - 1), M)) else ((ck M v0 0 4).bind fun _ => (D_Census_mostFirst v0 v10 v4 M).bind fun x116 => some (x116.1, x116.2))).bind fun (t108 : Int × Mem) => (ck t108.2 v0 0 4).bind fun _ => (D_Census_leastFirst v0 v10 v4 t108.2).bind fun x133 => L_Census_ahead_138 w (fun w8_138 m138 => L_Census_ahead_97 w k v0 v1 v2 v3 v4 v5 v6 v7 n w8_138 (wr (v10 + 1)) m138) v0 v1 v2 v3 v4 v5 v6 v7 v10 t108.1 FU v8 x133.1 x133.2)
noncomputable def B_Census_ahead (w : Int → Int → Int → Int → Mem → Option (Int × Mem)) (a0 a1 a2 a3 : Int) (M : Mem) : Option (Int × Mem) := if 40 ≤ a3 then (some (0, M)) else ((gf M a0 0 4 1).bind fun g8 => (gf M g8 4 5 4).bind fun g11 => if a2 < g11 then ((gf M a0 0 4 1).bind fun g20 => (gf M g20 4 5 2).bind fun g23 => (rd M 10 g23 a2).bind fun e27 => (gf M a0 0 4 1).bind fun g31 => (gf M g31 4 5 1).bind fun g34 => (rd M 10 g34 a2).bind fun e38 => (gf M a0 0 4 1).bind fun g45 => (gf M g45 4 5 4).bind fun g48 => (if g48 ≤ (wr (a2 + 1)) then (some (0, M)) else ((gf M a0 0 4 0).bind fun g55 => (ck M g55 5 3).bind fun _ => (D_Signs_rankOf g55 e38 M).bind fun x60 => some (x60.1, x60.2))).bind fun (t51 : Int × Mem) => (if t51.1 ≤ 0 then (some 0) else ((gf t51.2 a0 0 4 1).bind fun g75 => (gf t51.2 g75 4 5 2).bind fun g78 => (rd t51.2 10 g78 (wr (a2 + 1))).bind fun e84 => some e84)).bind fun (t71 : Int) => L_Census_ahead_97 w (fun w8_97 m97 => (if t51.1 ≤ 0 then (some (w8_97, m97)) else ((ck m97 a0 0 4).bind fun _ => (D_Census_share a0 a1 e38 e27 t71 a3 m97).bind fun x190 => (ck x190.2 a0 0 4).bind fun _ => (w a0 a1 (wr (a2 + 1)) (wr (a3 + 1)) x190.2).bind fun x204 => (D_Census_plus w8_97 x204.1 x204.2).bind fun x207 => some (x207.1, x207.2))).bind fun (t178 : Int × Mem) => (if t51.1 ≤ 1 then (some (t178.1, t178.2)) else ((gf t178.2 a0 0 4 1).bind fun g223 => (gf t178.2 g223 4 5 3).bind fun g226 => (rd t178.2 10 g226 (wr (a2 + 1))).bind fun e232 => (ck t178.2 a0 0 4).bind fun _ => (D_Census_weighSeconds a0 a1 e38 e232 a3 t178.2).bind fun x234 => (ck x234 a0 0 4).bind fun _ => (w a0 a1 (wr ((wr (a2 + 1)) + t71)) (wr (a3 + 1)) x234).bind fun x250 => (D_Census_plus t178.1 x250.1 x250.2).bind fun x253 => some (x253.1, x253.2))).bind fun (t215 : Int × Mem) => some (t215.1, t215.2)) a0 a1 a2 a3 e27 e38 t51.1 t71 FU 0 0 t51.2) else (some (0, M)))
theorem sL_Census_ahead_138 {d mc ms : Nat} (hd : 6 ≤ d) {w : Int → Int → Int → Int → Mem → Option (Int × Mem)} (hw : ∀ {a0 a1 a2 a3 : Int} {M : Mem} {x : Int × Mem}, w a0 a1 a2 a3 M = some x → Ct (d - 1) Y_Census_ahead [(2, a0), (2, a1), (0, a2), (0, a3)] M (some (1, x.1), x.2) 0 0) {r : Int × Mem} {k : Int → Mem → Option (Int × Mem)} {v0 : Int} {v1 : Int} {v2 : Int} {v3 : Int} {v4 : Int} {v5 : Int} {v6 : Int} {v7 : Int} {v10 : Int} {v11 : Int} (hk : ∀ (v8 : Int) (M : Mem), k v8 M = some r → Rn Y_Census_ahead d mc ms 0 0 (some (1, r.1), r.2) 170 [(0, (2, v0)), (1, (2, v1)), (2, (0, v2)), (3, (0, v3)), (4, (0, v4)), (5, (0, v5)), (6, (0, v6)), (7, (0, v7)), (8, (1, v8)), (10, (0, v10))] [] M) : ∀ (n : Nat) (v8 : Int) (v12 : Int) (M : Mem), L_Census_ahead_138 w k v0 v1 v2 v3 v4 v5 v6 v7 v10 v11 n v8 v12 M = some r → Rn Y_Census_ahead d mc ms 0 0 (some (1, r.1), r.2) 138 [(0, (2, v0)), (1, (2, v1)), (2, (0, v2)), (3, (0, v3)), (4, (0, v4)), (5, (0, v5)), (6, (0, v6)), (7, (0, v7)), (8, (1, v8)), (10, (0, v10)), (11, (0, v11)), (12, (0, v12))] [] M := by
  intro n
  induction n with
  | zero => intro _ _ _ h; cases h
  | succ n ih =>
    intro v8 v12 M h
    rw [L_Census_ahead_138] at h
    refine r_iload (pc := 138) 11 (by decide +kernel) rfl ?_
    refine r_iload (pc := 140) 10 (by decide +kernel) rfl ?_
    refine r_icmp_gt (pc := 142) (off := 28) (tgt := 170) (by decide +kernel) (by decide) (fun c142 => ?_) (fun c142 => ?_)
    · have h := ite_t c142 h
      refine r_lv [0, 1, 2, 3, 4, 5, 6, 7, 8, 9] rfl ?_
      exact hk v8 M h
    · have h := ite_f c142 h
      refine r_lload (pc := 145) 8 (by decide +kernel) rfl ?_
      refine r_aload_n (pc := 147) 0 (n := 0) (by decide +kernel) rfl rfl ?_
      refine r_aload_n (pc := 148) 1 (n := 1) (by decide +kernel) rfl rfl ?_
      refine r_iload (pc := 149) 9 (by decide +kernel) rfl ?_
      refine r_iload (pc := 151) 4 (by decide +kernel) rfl ?_
      refine r_iload (pc := 153) 11 (by decide +kernel) rfl ?_
      refine r_iload_n (pc := 155) 3 (n := 3) (by decide +kernel) rfl rfl ?_
      obtain ⟨_, q156c, h⟩ := bnd h
      obtain ⟨x156, q156, h⟩ := bnd h
      refine r_callV (pc := 156) (i := 126) (d2 := d - 1) (As := [(2, v1), (0, v10), (0, v4), (0, v12), (0, v3)]) (st := [(1, v8)]) (st1 := [(0, v3), (0, v12), (0, v4), (0, v10), (2, v1), (2, v0), (1, v8)]) (by decide +kernel) yk_Census_share (by decide) rfl ⟨ml_Census_126, vk_Census_share⟩ np_Census_share rfl (by omega) q156c (c_Census_share (d := d - 1) (by omega) q156) (Nat.le_of_ble_eq_true rfl) (Nat.le_of_ble_eq_true rfl) (Nat.le_of_ble_eq_true rfl) rfl ?_
      show Rn _ d _ _ 0 0 _ 159 [(0, (2, v0)), (1, (2, v1)), (2, (0, v2)), (3, (0, v3)), (4, (0, v4)), (5, (0, v5)), (6, (0, v6)), (7, (0, v7)), (8, (1, v8)), (10, (0, v10)), (11, (0, v11)), (12, (0, v12))] [(1, x156.1), (1, v8)] x156.2
      obtain ⟨x159, q159, h⟩ := bnd h
      refine r_callS (pc := 159) (i := 44) (d2 := d - 1) (As := [(1, v8), (1, x156.1)]) (st := []) (st1 := [(1, x156.1), (1, v8)]) (by decide +kernel) yk_Census_plus ⟨ml_Census_44, sk_Census_plus⟩ np_Census_plus rfl (by omega) (c_Census_plus (d := d - 1) (by omega) q159) (Nat.le_of_ble_eq_true rfl) (Nat.le_of_ble_eq_true rfl) (Nat.le_of_ble_eq_true rfl) rfl ?_
      show Rn _ d _ _ 0 0 _ 162 [(0, (2, v0)), (1, (2, v1)), (2, (0, v2)), (3, (0, v3)), (4, (0, v4)), (5, (0, v5)), (6, (0, v6)), (7, (0, v7)), (8, (1, v8)), (10, (0, v10)), (11, (0, v11)), (12, (0, v12))] [(1, x159.1)] x159.2
      refine r_lstore (pc := 162) (lv' := [(8, (1, x159.1)), (0, (2, v0)), (1, (2, v1)), (2, (0, v2)), (3, (0, v3)), (4, (0, v4)), (5, (0, v5)), (6, (0, v6)), (7, (0, v7)), (10, (0, v10)), (11, (0, v11)), (12, (0, v12))]) (by decide +kernel) (Nat.le_of_ble_eq_true rfl) rfl ?_
      refine r_iinc (pc := 164) 11 (n := 1) (lv' := [(12, (0, wr (v12 + 1))), (8, (1, x159.1)), (0, (2, v0)), (1, (2, v1)), (2, (0, v2)), (3, (0, v3)), (4, (0, v4)), (5, (0, v5)), (6, (0, v6)), (7, (0, v7)), (10, (0, v10)), (11, (0, v11))]) (by decide +kernel) rfl (Nat.le_of_ble_eq_true rfl) rfl ?_
      refine r_goto (pc := 167) (off := (-29)) (tgt := 138) (by decide +kernel) (by decide) ?_
      refine r_lv [2, 3, 4, 5, 6, 7, 8, 9, 1, 10, 11, 0] rfl ?_
      exact ih x159.1 (wr (v12 + 1)) x159.2 h
theorem sL_Census_ahead_97 {d mc ms : Nat} (hd : 6 ≤ d) {w : Int → Int → Int → Int → Mem → Option (Int × Mem)} (hw : ∀ {a0 a1 a2 a3 : Int} {M : Mem} {x : Int × Mem}, w a0 a1 a2 a3 M = some x → Ct (d - 1) Y_Census_ahead [(2, a0), (2, a1), (0, a2), (0, a3)] M (some (1, x.1), x.2) 0 0) {r : Int × Mem} {k : Int → Mem → Option (Int × Mem)} {v0 : Int} {v1 : Int} {v2 : Int} {v3 : Int} {v4 : Int} {v5 : Int} {v6 : Int} {v7 : Int} (hk : ∀ (v8 : Int) (M : Mem), k v8 M = some r → Rn Y_Census_ahead d mc ms 0 0 (some (1, r.1), r.2) 176 [(0, (2, v0)), (1, (2, v1)), (2, (0, v2)), (3, (0, v3)), (4, (0, v4)), (5, (0, v5)), (6, (0, v6)), (7, (0, v7)), (8, (1, v8))] [] M) : ∀ (n : Nat) (v8 : Int) (v10 : Int) (M : Mem), L_Census_ahead_97 w k v0 v1 v2 v3 v4 v5 v6 v7 n v8 v10 M = some r → Rn Y_Census_ahead d mc ms 0 0 (some (1, r.1), r.2) 97 [(0, (2, v0)), (1, (2, v1)), (2, (0, v2)), (3, (0, v3)), (4, (0, v4)), (5, (0, v5)), (6, (0, v6)), (7, (0, v7)), (8, (1, v8)), (10, (0, v10))] [] M := by
  intro n
  induction n with
  | zero => intro _ _ _ h; cases h
  | succ n ih =>
    intro v8 v10 M h
    rw [L_Census_ahead_97] at h
    refine r_iload (pc := 97) 9 (by decide +kernel) rfl ?_
    refine r_iload (pc := 99) 5 (by decide +kernel) rfl ?_
    refine r_icmp_gt (pc := 101) (off := 75) (tgt := 176) (by decide +kernel) (by decide) (fun c101 => ?_) (fun c101 => ?_)
    · have h := ite_t c101 h
      refine r_lv [0, 1, 2, 3, 4, 5, 6, 7, 8] rfl ?_
      exact hk v8 M h
    · have h := ite_f c101 h
      refine r_iload (pc := 104) 9 (by decide +kernel) rfl ?_
      refine r_iload (pc := 106) 5 (by decide +kernel) rfl ?_
      obtain ⟨t108, ht108, h⟩ := bnd h
      have E108_0 : Rn Y_Census_ahead d mc ms 0 0 (some (1, r.1), r.2) 126 [(0, (2, v0)), (1, (2, v1)), (2, (0, v2)), (3, (0, v3)), (4, (0, v4)), (5, (0, v5)), (6, (0, v6)), (7, (0, v7)), (8, (1, v8)), (10, (0, v10))] [(0, t108.1)] t108.2 := by
        refine r_istore (pc := 126) (lv' := [(11, (0, t108.1)), (0, (2, v0)), (1, (2, v1)), (2, (0, v2)), (3, (0, v3)), (4, (0, v4)), (5, (0, v5)), (6, (0, v6)), (7, (0, v7)), (8, (1, v8)), (10, (0, v10))]) (by decide +kernel) (Nat.le_of_ble_eq_true rfl) rfl ?_
        refine r_aload_n (pc := 128) 1 (n := 0) (by decide +kernel) rfl rfl ?_
        refine r_iload (pc := 129) 10 (by decide +kernel) rfl ?_
        refine r_iload (pc := 131) 5 (by decide +kernel) rfl ?_
        obtain ⟨_, q133c, h⟩ := bnd h
        obtain ⟨x133, q133, h⟩ := bnd h
        refine r_callV (pc := 133) (i := 115) (d2 := d - 1) (As := [(0, v10), (0, v4)]) (st := []) (st1 := [(0, v4), (0, v10), (2, v0)]) (by decide +kernel) yk_Census_leastFirst (by decide) rfl ⟨ml_Census_115, vk_Census_leastFirst⟩ np_Census_leastFirst rfl (by omega) q133c (c_Census_leastFirst (d := d - 1) (by omega) q133) (Nat.le_of_ble_eq_true rfl) (Nat.le_of_ble_eq_true rfl) (Nat.le_of_ble_eq_true rfl) rfl ?_
        show Rn _ d _ _ 0 0 _ 136 [(11, (0, t108.1)), (0, (2, v0)), (1, (2, v1)), (2, (0, v2)), (3, (0, v3)), (4, (0, v4)), (5, (0, v5)), (6, (0, v6)), (7, (0, v7)), (8, (1, v8)), (10, (0, v10))] [(0, x133.1)] x133.2
        refine r_istore (pc := 136) (lv' := [(12, (0, x133.1)), (11, (0, t108.1)), (0, (2, v0)), (1, (2, v1)), (2, (0, v2)), (3, (0, v3)), (4, (0, v4)), (5, (0, v5)), (6, (0, v6)), (7, (0, v7)), (8, (1, v8)), (10, (0, v10))]) (by decide +kernel) (Nat.le_of_ble_eq_true rfl) rfl ?_
        refine r_lv [2, 3, 4, 5, 6, 7, 8, 9, 10, 11, 1, 0] rfl ?_
        refine sL_Census_ahead_138 (by omega) hw ?_ _ _ _  _ h
        intro w8_138 m138 h
        refine r_iinc (pc := 170) 9 (n := 1) (lv' := [(10, (0, wr (v10 + 1))), (0, (2, v0)), (1, (2, v1)), (2, (0, v2)), (3, (0, v3)), (4, (0, v4)), (5, (0, v5)), (6, (0, v6)), (7, (0, v7)), (8, (1, w8_138))]) (by decide +kernel) rfl (Nat.le_of_ble_eq_true rfl) rfl ?_
        refine r_goto (pc := 173) (off := (-76)) (tgt := 97) (by decide +kernel) (by decide) ?_
        refine r_lv [1, 2, 3, 4, 5, 6, 7, 8, 9, 0] rfl ?_
        exact ih w8_138 (wr (v10 + 1)) m138 h
      refine r_icmp_ge (pc := 108) (off := 14) (tgt := 122) (by decide +kernel) (by decide) (fun c108 => ?_) (fun c108 => ?_)
      · have ht108 := ite_t c108 ht108
        refine r_iload (pc := 122) 7 (by decide +kernel) rfl ?_
        refine r_iconst (pc := 124) (z := 1) (by decide +kernel) ⟨by decide, by decide⟩ ?_
        refine r_isub (pc := 125) (by decide +kernel) ?_
        obtain rfl := Option.some.inj ht108
        exact E108_0
      · have ht108 := ite_f c108 ht108
        refine r_aload_n (pc := 111) 0 (n := 0) (by decide +kernel) rfl rfl ?_
        refine r_iload (pc := 112) 9 (by decide +kernel) rfl ?_
        refine r_iload (pc := 114) 4 (by decide +kernel) rfl ?_
        obtain ⟨_, q116c, ht108⟩ := bnd ht108
        obtain ⟨x116, q116, ht108⟩ := bnd ht108
        refine r_callV (pc := 116) (i := 123) (d2 := d - 1) (As := [(0, v10), (0, v4)]) (st := []) (st1 := [(0, v4), (0, v10), (2, v0)]) (by decide +kernel) yk_Census_mostFirst (by decide) rfl ⟨ml_Census_123, vk_Census_mostFirst⟩ np_Census_mostFirst rfl (by omega) q116c (c_Census_mostFirst (d := d - 1) (by omega) q116) (Nat.le_of_ble_eq_true rfl) (Nat.le_of_ble_eq_true rfl) (Nat.le_of_ble_eq_true rfl) rfl ?_
        show Rn _ d _ _ 0 0 _ 119 [(0, (2, v0)), (1, (2, v1)), (2, (0, v2)), (3, (0, v3)), (4, (0, v4)), (5, (0, v5)), (6, (0, v6)), (7, (0, v7)), (8, (1, v8)), (10, (0, v10))] [(0, x116.1)] x116.2
        refine r_goto (pc := 119) (off := 7) (tgt := 126) (by decide +kernel) (by decide) ?_
        obtain rfl := Option.some.inj ht108
        exact E108_0
theorem cb_Census_ahead {d : Nat} (hd : 6 ≤ d) {w : Int → Int → Int → Int → Mem → Option (Int × Mem)} (hw : ∀ {a0 a1 a2 a3 : Int} {M : Mem} {x : Int × Mem}, w a0 a1 a2 a3 M = some x → Ct (d - 1) Y_Census_ahead [(2, a0), (2, a1), (0, a2), (0, a3)] M (some (1, x.1), x.2) 0 0) {a0 a1 a2 a3 : Int} {M : Mem} {x : Int × Mem} (h : B_Census_ahead w a0 a1 a2 a3 M = some x) : Ct d Y_Census_ahead [(2, a0), (2, a1), (0, a2), (0, a3)] M (some (1, x.1), x.2) 0 0 := by
  refine ct_of yk_Census_ahead (Nat.le_of_ble_eq_true rfl) ?_
  rw [B_Census_ahead] at h
  show Rn Y_Census_ahead d 0 0 0 0 (some (1, x.1), x.2) 0 [(0, (2, a0)), (1, (2, a1)), (2, (0, a2)), (3, (0, a3))] [] M
  refine r_iload_n (pc := 0) 3 (n := 3) (by decide +kernel) rfl rfl ?_
  refine r_bipush (pc := 1) (z := 40) (by decide +kernel) ⟨by decide, by decide⟩ ?_
  refine r_icmp_ge (pc := 3) (off := 14) (tgt := 17) (by decide +kernel) (by decide) (fun c3 => ?_) (fun c3 => ?_)
  · have h := ite_t c3 h
    refine r_lconst (pc := 17) (n := 0) (z := 0) (by decide +kernel) rfl ?_
    obtain rfl := Option.some.inj h
    exact r_ret (pc := 18) (r := some (1, 0)) (by decide +kernel) rfl trivial (Nat.le_of_ble_eq_true rfl) (Nat.le_of_ble_eq_true rfl)
  · have h := ite_f c3 h
    refine r_iload_n (pc := 6) 2 (n := 2) (by decide +kernel) rfl rfl ?_
    refine r_aload_n (pc := 7) 0 (n := 0) (by decide +kernel) rfl rfl ?_
    obtain ⟨g8, q8, h⟩ := bnd h
    refine r_get (pc := 8) (by decide +kernel) fl_Census_23.r (by decide) rfl q8 ?_
    obtain ⟨g11, q11, h⟩ := bnd h
    refine r_get (pc := 11) (by decide +kernel) fl_Census_55.r (by decide) rfl q11 ?_
    refine r_icmp_lt (pc := 14) (off := 5) (tgt := 19) (by decide +kernel) (by decide) (fun c14 => ?_) (fun c14 => ?_)
    · have h := ite_t c14 h
      refine r_aload_n (pc := 19) 0 (n := 0) (by decide +kernel) rfl rfl ?_
      obtain ⟨g20, q20, h⟩ := bnd h
      refine r_get (pc := 20) (by decide +kernel) fl_Census_23.r (by decide) rfl q20 ?_
      obtain ⟨g23, q23, h⟩ := bnd h
      refine r_get (pc := 23) (by decide +kernel) fl_Census_140 (by decide) rfl q23 ?_
      refine r_iload_n (pc := 26) 2 (n := 2) (by decide +kernel) rfl rfl ?_
      obtain ⟨e27, q27, h⟩ := bnd h
      refine r_iald (pc := 27) (by decide +kernel) q27 ?_
      refine r_istore (pc := 28) (lv' := [(4, (0, e27)), (0, (2, a0)), (1, (2, a1)), (2, (0, a2)), (3, (0, a3))]) (by decide +kernel) (Nat.le_of_ble_eq_true rfl) rfl ?_
      refine r_aload_n (pc := 30) 1 (n := 0) (by decide +kernel) rfl rfl ?_
      obtain ⟨g31, q31, h⟩ := bnd h
      refine r_get (pc := 31) (by decide +kernel) fl_Census_23.r (by decide) rfl q31 ?_
      obtain ⟨g34, q34, h⟩ := bnd h
      refine r_get (pc := 34) (by decide +kernel) fl_Census_144 (by decide) rfl q34 ?_
      refine r_iload_n (pc := 37) 3 (n := 2) (by decide +kernel) rfl rfl ?_
      obtain ⟨e38, q38, h⟩ := bnd h
      refine r_iald (pc := 38) (by decide +kernel) q38 ?_
      refine r_istore (pc := 39) (lv' := [(5, (0, e38)), (4, (0, e27)), (0, (2, a0)), (1, (2, a1)), (2, (0, a2)), (3, (0, a3))]) (by decide +kernel) (Nat.le_of_ble_eq_true rfl) rfl ?_
      refine r_iload_n (pc := 41) 4 (n := 2) (by decide +kernel) rfl rfl ?_
      refine r_iconst (pc := 42) (z := 1) (by decide +kernel) ⟨by decide, by decide⟩ ?_
      refine r_iadd (pc := 43) (by decide +kernel) ?_
      refine r_aload_n (pc := 44) 2 (n := 0) (by decide +kernel) rfl rfl ?_
      obtain ⟨g45, q45, h⟩ := bnd h
      refine r_get (pc := 45) (by decide +kernel) fl_Census_23.r (by decide) rfl q45 ?_
      obtain ⟨g48, q48, h⟩ := bnd h
      refine r_get (pc := 48) (by decide +kernel) fl_Census_55.r (by decide) rfl q48 ?_
      obtain ⟨t51, ht51, h⟩ := bnd h
      have E51_0 : Rn Y_Census_ahead d 0 0 0 0 (some (1, x.1), x.2) 67 [(0, (2, a0)), (1, (2, a1)), (2, (0, a2)), (3, (0, a3)), (4, (0, e27)), (5, (0, e38))] [(0, t51.1)] t51.2 := by
        refine r_istore (pc := 67) (lv' := [(6, (0, t51.1)), (0, (2, a0)), (1, (2, a1)), (2, (0, a2)), (3, (0, a3)), (4, (0, e27)), (5, (0, e38))]) (by decide +kernel) (Nat.le_of_ble_eq_true rfl) rfl ?_
        refine r_iload (pc := 69) 0 (by decide +kernel) rfl ?_
        obtain ⟨t71, ht71, h⟩ := bnd h
        have E71_0 : Rn Y_Census_ahead d 0 0 0 0 (some (1, x.1), x.2) 89 [(0, (2, a0)), (1, (2, a1)), (2, (0, a2)), (3, (0, a3)), (4, (0, e27)), (5, (0, e38)), (6, (0, t51.1))] [(0, t71)] t51.2 := by
          refine r_istore (pc := 89) (lv' := [(7, (0, t71)), (0, (2, a0)), (1, (2, a1)), (2, (0, a2)), (3, (0, a3)), (4, (0, e27)), (5, (0, e38)), (6, (0, t51.1))]) (by decide +kernel) (Nat.le_of_ble_eq_true rfl) rfl ?_
          refine r_lconst (pc := 91) (n := 0) (z := 0) (by decide +kernel) rfl ?_
          refine r_lstore (pc := 92) (lv' := [(8, (1, 0)), (7, (0, t71)), (0, (2, a0)), (1, (2, a1)), (2, (0, a2)), (3, (0, a3)), (4, (0, e27)), (5, (0, e38)), (6, (0, t51.1))]) (by decide +kernel) (Nat.le_of_ble_eq_true rfl) rfl ?_
          refine r_iconst (pc := 94) (z := 0) (by decide +kernel) ⟨by decide, by decide⟩ ?_
          refine r_istore (pc := 95) (lv' := [(10, (0, 0)), (8, (1, 0)), (7, (0, t71)), (0, (2, a0)), (1, (2, a1)), (2, (0, a2)), (3, (0, a3)), (4, (0, e27)), (5, (0, e38)), (6, (0, t51.1))]) (by decide +kernel) (Nat.le_of_ble_eq_true rfl) rfl ?_
          refine r_lv [3, 4, 5, 6, 7, 8, 9, 2, 1, 0] rfl ?_
          refine sL_Census_ahead_97 (by omega) hw ?_ _ _ _  _ h
          intro w8_97 m97 h
          refine r_iload (pc := 176) 6 (by decide +kernel) rfl ?_
          obtain ⟨t178, ht178, h⟩ := bnd h
          have E178_0 : Rn Y_Census_ahead d 0 0 0 0 (some (1, x.1), x.2) 212 [(0, (2, a0)), (1, (2, a1)), (2, (0, a2)), (3, (0, a3)), (5, (0, e38)), (6, (0, t51.1)), (7, (0, t71)), (8, (1, t178.1))] [] t178.2 := by
            refine r_iload (pc := 212) 5 (by decide +kernel) rfl ?_
            refine r_iconst (pc := 214) (z := 1) (by decide +kernel) ⟨by decide, by decide⟩ ?_
            obtain ⟨t215, ht215, h⟩ := bnd h
            have E215_0 : Rn Y_Census_ahead d 0 0 0 0 (some (1, x.1), x.2) 258 [(8, (1, t215.1))] [] t215.2 := by
              refine r_lload (pc := 258) 0 (by decide +kernel) rfl ?_
              obtain rfl := Option.some.inj h
              exact r_ret (pc := 260) (r := some (1, t215.1)) (by decide +kernel) rfl trivial (Nat.le_of_ble_eq_true rfl) (Nat.le_of_ble_eq_true rfl)
            refine r_icmp_le (pc := 215) (off := 43) (tgt := 258) (by decide +kernel) (by decide) (fun c215 => ?_) (fun c215 => ?_)
            · have ht215 := ite_t c215 ht215
              obtain rfl := Option.some.inj ht215
              refine r_lv [7] rfl ?_
              exact E215_0
            · have ht215 := ite_f c215 ht215
              refine r_aload_n (pc := 218) 0 (n := 0) (by decide +kernel) rfl rfl ?_
              refine r_aload_n (pc := 219) 1 (n := 1) (by decide +kernel) rfl rfl ?_
              refine r_iload (pc := 220) 4 (by decide +kernel) rfl ?_
              refine r_aload_n (pc := 222) 0 (n := 0) (by decide +kernel) rfl rfl ?_
              obtain ⟨g223, q223, ht215⟩ := bnd ht215
              refine r_get (pc := 223) (by decide +kernel) fl_Census_23.r (by decide) rfl q223 ?_
              obtain ⟨g226, q226, ht215⟩ := bnd ht215
              refine r_get (pc := 226) (by decide +kernel) fl_Census_147 (by decide) rfl q226 ?_
              refine r_iload_n (pc := 229) 2 (n := 2) (by decide +kernel) rfl rfl ?_
              refine r_iconst (pc := 230) (z := 1) (by decide +kernel) ⟨by decide, by decide⟩ ?_
              refine r_iadd (pc := 231) (by decide +kernel) ?_
              obtain ⟨e232, q232, ht215⟩ := bnd ht215
              refine r_iald (pc := 232) (by decide +kernel) q232 ?_
              refine r_iload_n (pc := 233) 3 (n := 3) (by decide +kernel) rfl rfl ?_
              obtain ⟨_, q234c, ht215⟩ := bnd ht215
              obtain ⟨x234, q234, ht215⟩ := bnd ht215
              refine r_callV (pc := 234) (i := 136) (d2 := d - 1) (As := [(2, a1), (0, e38), (0, e232), (0, a3)]) (st := []) (st1 := [(0, a3), (0, e232), (0, e38), (2, a1), (2, a0)]) (by decide +kernel) yk_Census_weighSeconds (by decide) rfl ⟨ml_Census_136, vk_Census_weighSeconds⟩ np_Census_weighSeconds rfl (by omega) q234c (c_Census_weighSeconds (d := d - 1) (by omega) q234) (Nat.le_of_ble_eq_true rfl) (Nat.le_of_ble_eq_true rfl) (Nat.le_of_ble_eq_true rfl) rfl ?_
              show Rn _ d _ _ 0 0 _ 237 [(0, (2, a0)), (1, (2, a1)), (2, (0, a2)), (3, (0, a3)), (5, (0, e38)), (6, (0, t51.1)), (7, (0, t71)), (8, (1, t178.1))] [] x234
              refine r_lload (pc := 237) 7 (by decide +kernel) rfl ?_
              refine r_aload_n (pc := 239) 0 (n := 0) (by decide +kernel) rfl rfl ?_
              refine r_aload_n (pc := 240) 1 (n := 1) (by decide +kernel) rfl rfl ?_
              refine r_iload_n (pc := 241) 2 (n := 2) (by decide +kernel) rfl rfl ?_
              refine r_iconst (pc := 242) (z := 1) (by decide +kernel) ⟨by decide, by decide⟩ ?_
              refine r_iadd (pc := 243) (by decide +kernel) ?_
              refine r_iload (pc := 244) 6 (by decide +kernel) rfl ?_
              refine r_iadd (pc := 246) (by decide +kernel) ?_
              refine r_iload_n (pc := 247) 3 (n := 3) (by decide +kernel) rfl rfl ?_
              refine r_iconst (pc := 248) (z := 1) (by decide +kernel) ⟨by decide, by decide⟩ ?_
              refine r_iadd (pc := 249) (by decide +kernel) ?_
              obtain ⟨_, q250c, ht215⟩ := bnd ht215
              obtain ⟨x250, q250, ht215⟩ := bnd ht215
              refine r_callV (pc := 250) (i := 68) (d2 := d - 1) (As := [(2, a1), (0, wr ((wr (a2 + 1)) + t71)), (0, wr (a3 + 1))]) (st := [(1, t178.1)]) (st1 := [(0, wr (a3 + 1)), (0, wr ((wr (a2 + 1)) + t71)), (2, a1), (2, a0), (1, t178.1)]) (by decide +kernel) yk_Census_ahead (by decide) rfl ⟨ml_Census_68, vk_Census_ahead⟩ np_Census_ahead rfl (by omega) q250c (hw q250) (Nat.le_of_ble_eq_true rfl) (Nat.le_of_ble_eq_true rfl) (Nat.le_of_ble_eq_true rfl) rfl ?_
              show Rn _ d _ _ 0 0 _ 253 [(0, (2, a0)), (1, (2, a1)), (2, (0, a2)), (3, (0, a3)), (5, (0, e38)), (6, (0, t51.1)), (7, (0, t71)), (8, (1, t178.1))] [(1, x250.1), (1, t178.1)] x250.2
              obtain ⟨x253, q253, ht215⟩ := bnd ht215
              refine r_callS (pc := 253) (i := 44) (d2 := d - 1) (As := [(1, t178.1), (1, x250.1)]) (st := []) (st1 := [(1, x250.1), (1, t178.1)]) (by decide +kernel) yk_Census_plus ⟨ml_Census_44, sk_Census_plus⟩ np_Census_plus rfl (by omega) (c_Census_plus (d := d - 1) (by omega) q253) (Nat.le_of_ble_eq_true rfl) (Nat.le_of_ble_eq_true rfl) (Nat.le_of_ble_eq_true rfl) rfl ?_
              show Rn _ d _ _ 0 0 _ 256 [(0, (2, a0)), (1, (2, a1)), (2, (0, a2)), (3, (0, a3)), (5, (0, e38)), (6, (0, t51.1)), (7, (0, t71)), (8, (1, t178.1))] [(1, x253.1)] x253.2
              refine r_lstore (pc := 256) (lv' := [(8, (1, x253.1)), (0, (2, a0)), (1, (2, a1)), (2, (0, a2)), (3, (0, a3)), (5, (0, e38)), (6, (0, t51.1)), (7, (0, t71))]) (by decide +kernel) (Nat.le_of_ble_eq_true rfl) rfl ?_
              obtain rfl := Option.some.inj ht215
              refine r_lv [0] rfl ?_
              exact E215_0
          refine r_if_le (pc := 178) (off := 34) (tgt := 212) (by decide +kernel) (by decide) (fun c178 => ?_) (fun c178 => ?_)
          · have ht178 := ite_t c178 ht178
            obtain rfl := Option.some.inj ht178
            refine r_lv [0, 1, 2, 3, 5, 6, 7, 8] rfl ?_
            exact E178_0
          · have ht178 := ite_f c178 ht178
            refine r_aload_n (pc := 181) 0 (n := 0) (by decide +kernel) rfl rfl ?_
            refine r_aload_n (pc := 182) 1 (n := 1) (by decide +kernel) rfl rfl ?_
            refine r_iload (pc := 183) 5 (by decide +kernel) rfl ?_
            refine r_iload (pc := 185) 4 (by decide +kernel) rfl ?_
            refine r_iload (pc := 187) 7 (by decide +kernel) rfl ?_
            refine r_iload_n (pc := 189) 3 (n := 3) (by decide +kernel) rfl rfl ?_
            obtain ⟨_, q190c, ht178⟩ := bnd ht178
            obtain ⟨x190, q190, ht178⟩ := bnd ht178
            refine r_callV (pc := 190) (i := 126) (d2 := d - 1) (As := [(2, a1), (0, e38), (0, e27), (0, t71), (0, a3)]) (st := []) (st1 := [(0, a3), (0, t71), (0, e27), (0, e38), (2, a1), (2, a0)]) (by decide +kernel) yk_Census_share (by decide) rfl ⟨ml_Census_126, vk_Census_share⟩ np_Census_share rfl (by omega) q190c (c_Census_share (d := d - 1) (by omega) q190) (Nat.le_of_ble_eq_true rfl) (Nat.le_of_ble_eq_true rfl) (Nat.le_of_ble_eq_true rfl) rfl ?_
            show Rn _ d _ _ 0 0 _ 193 [(0, (2, a0)), (1, (2, a1)), (2, (0, a2)), (3, (0, a3)), (4, (0, e27)), (5, (0, e38)), (6, (0, t51.1)), (7, (0, t71)), (8, (1, w8_97))] [(1, x190.1)] x190.2
            refine r_pop2 (pc := 193) (by decide +kernel) ?_
            refine r_lload (pc := 194) 8 (by decide +kernel) rfl ?_
            refine r_aload_n (pc := 196) 0 (n := 0) (by decide +kernel) rfl rfl ?_
            refine r_aload_n (pc := 197) 1 (n := 1) (by decide +kernel) rfl rfl ?_
            refine r_iload_n (pc := 198) 2 (n := 2) (by decide +kernel) rfl rfl ?_
            refine r_iconst (pc := 199) (z := 1) (by decide +kernel) ⟨by decide, by decide⟩ ?_
            refine r_iadd (pc := 200) (by decide +kernel) ?_
            refine r_iload_n (pc := 201) 3 (n := 3) (by decide +kernel) rfl rfl ?_
            refine r_iconst (pc := 202) (z := 1) (by decide +kernel) ⟨by decide, by decide⟩ ?_
            refine r_iadd (pc := 203) (by decide +kernel) ?_
            obtain ⟨_, q204c, ht178⟩ := bnd ht178
            obtain ⟨x204, q204, ht178⟩ := bnd ht178
            refine r_callV (pc := 204) (i := 68) (d2 := d - 1) (As := [(2, a1), (0, wr (a2 + 1)), (0, wr (a3 + 1))]) (st := [(1, w8_97)]) (st1 := [(0, wr (a3 + 1)), (0, wr (a2 + 1)), (2, a1), (2, a0), (1, w8_97)]) (by decide +kernel) yk_Census_ahead (by decide) rfl ⟨ml_Census_68, vk_Census_ahead⟩ np_Census_ahead rfl (by omega) q204c (hw q204) (Nat.le_of_ble_eq_true rfl) (Nat.le_of_ble_eq_true rfl) (Nat.le_of_ble_eq_true rfl) rfl ?_
            show Rn _ d _ _ 0 0 _ 207 [(0, (2, a0)), (1, (2, a1)), (2, (0, a2)), (3, (0, a3)), (4, (0, e27)), (5, (0, e38)), (6, (0, t51.1)), (7, (0, t71)), (8, (1, w8_97))] [(1, x204.1), (1, w8_97)] x204.2
            obtain ⟨x207, q207, ht178⟩ := bnd ht178
            refine r_callS (pc := 207) (i := 44) (d2 := d - 1) (As := [(1, w8_97), (1, x204.1)]) (st := []) (st1 := [(1, x204.1), (1, w8_97)]) (by decide +kernel) yk_Census_plus ⟨ml_Census_44, sk_Census_plus⟩ np_Census_plus rfl (by omega) (c_Census_plus (d := d - 1) (by omega) q207) (Nat.le_of_ble_eq_true rfl) (Nat.le_of_ble_eq_true rfl) (Nat.le_of_ble_eq_true rfl) rfl ?_
            show Rn _ d _ _ 0 0 _ 210 [(0, (2, a0)), (1, (2, a1)), (2, (0, a2)), (3, (0, a3)), (4, (0, e27)), (5, (0, e38)), (6, (0, t51.1)), (7, (0, t71)), (8, (1, w8_97))] [(1, x207.1)] x207.2
            refine r_lstore (pc := 210) (lv' := [(8, (1, x207.1)), (0, (2, a0)), (1, (2, a1)), (2, (0, a2)), (3, (0, a3)), (4, (0, e27)), (5, (0, e38)), (6, (0, t51.1)), (7, (0, t71))]) (by decide +kernel) (Nat.le_of_ble_eq_true rfl) rfl ?_
            obtain rfl := Option.some.inj ht178
            refine r_lv [1, 2, 3, 4, 6, 7, 8, 0] rfl ?_
            exact E178_0
        refine r_if_le (pc := 71) (off := 17) (tgt := 88) (by decide +kernel) (by decide) (fun c71 => ?_) (fun c71 => ?_)
        · have ht71 := ite_t c71 ht71
          refine r_iconst (pc := 88) (z := 0) (by decide +kernel) ⟨by decide, by decide⟩ ?_
          obtain rfl := Option.some.inj ht71
          refine r_lv [1, 2, 3, 4, 5, 6, 0] rfl ?_
          exact E71_0
        · have ht71 := ite_f c71 ht71
          refine r_aload_n (pc := 74) 1 (n := 0) (by decide +kernel) rfl rfl ?_
          obtain ⟨g75, q75, ht71⟩ := bnd ht71
          refine r_get (pc := 75) (by decide +kernel) fl_Census_23.r (by decide) rfl q75 ?_
          obtain ⟨g78, q78, ht71⟩ := bnd ht71
          refine r_get (pc := 78) (by decide +kernel) fl_Census_140 (by decide) rfl q78 ?_
          refine r_iload_n (pc := 81) 3 (n := 2) (by decide +kernel) rfl rfl ?_
          refine r_iconst (pc := 82) (z := 1) (by decide +kernel) ⟨by decide, by decide⟩ ?_
          refine r_iadd (pc := 83) (by decide +kernel) ?_
          obtain ⟨e84, q84, ht71⟩ := bnd ht71
          refine r_iald (pc := 84) (by decide +kernel) q84 ?_
          refine r_goto (pc := 85) (off := 4) (tgt := 89) (by decide +kernel) (by decide) ?_
          obtain rfl := Option.some.inj ht71
          refine r_lv [1, 2, 3, 4, 5, 6, 0] rfl ?_
          exact E71_0
      refine r_icmp_ge (pc := 51) (off := 15) (tgt := 66) (by decide +kernel) (by decide) (fun c51 => ?_) (fun c51 => ?_)
      · have ht51 := ite_t c51 ht51
        refine r_iconst (pc := 66) (z := 0) (by decide +kernel) ⟨by decide, by decide⟩ ?_
        obtain rfl := Option.some.inj ht51
        refine r_lv [2, 3, 4, 5, 1, 0] rfl ?_
        exact E51_0
      · have ht51 := ite_f c51 ht51
        refine r_aload_n (pc := 54) 2 (n := 0) (by decide +kernel) rfl rfl ?_
        obtain ⟨g55, q55, ht51⟩ := bnd ht51
        refine r_get (pc := 55) (by decide +kernel) fl_Census_19.r (by decide) rfl q55 ?_
        refine r_iload (pc := 58) 0 (by decide +kernel) rfl ?_
        obtain ⟨_, q60c, ht51⟩ := bnd ht51
        obtain ⟨x60, q60, ht51⟩ := bnd ht51
        refine r_callV (pc := 60) (i := 97) (d2 := d - 1) (As := [(0, e38)]) (st := []) (st1 := [(0, e38), (2, g55)]) (by decide +kernel) yk_Signs_rankOf (by decide) rfl ⟨ml_Census_97, vk_Signs_rankOf⟩ np_Signs_rankOf rfl (by omega) q60c (c_Signs_rankOf (d := d - 1) (by omega) q60) (Nat.le_of_ble_eq_true rfl) (Nat.le_of_ble_eq_true rfl) (Nat.le_of_ble_eq_true rfl) rfl ?_
        show Rn _ d _ _ 0 0 _ 63 [(5, (0, e38)), (4, (0, e27)), (0, (2, a0)), (1, (2, a1)), (2, (0, a2)), (3, (0, a3))] [(0, x60.1)] x60.2
        refine r_goto (pc := 63) (off := 4) (tgt := 67) (by decide +kernel) (by decide) ?_
        obtain rfl := Option.some.inj ht51
        refine r_lv [2, 3, 4, 5, 1, 0] rfl ?_
        exact E51_0
    · have h := ite_f c14 h
      refine r_lconst (pc := 17) (n := 0) (z := 0) (by decide +kernel) rfl ?_
      obtain rfl := Option.some.inj h
      exact r_ret (pc := 18) (r := some (1, 0)) (by decide +kernel) rfl trivial (Nat.le_of_ble_eq_true rfl) (Nat.le_of_ble_eq_true rfl)
noncomputable def D_Census_ahead : Nat → Int → Int → Int → Int → Mem → Option (Int × Mem)
  | 0 => fun _ _ _ _ _ => none
  | n + 1 => B_Census_ahead (D_Census_ahead n)
theorem c_Census_ahead (n : Nat) : ∀ {d : Nat}, 1 * n + 6 ≤ d → ∀ {a0 a1 a2 a3 : Int} {M : Mem} {x : Int × Mem}, D_Census_ahead n a0 a1 a2 a3 M = some x → Ct d Y_Census_ahead [(2, a0), (2, a1), (0, a2), (0, a3)] M (some (1, x.1), x.2) 0 0 := by
  induction n with
  | zero => intro d hd a0 a1 a2 a3 M x h; cases h
  | succ n ih =>
    intro d hd a0 a1 a2 a3 M x h
    exact cb_Census_ahead (by omega) (fun h => ih (d := d - 1) (by omega) h) h

/-! TreeTongues$Census.aheadOfRow(LTreeTongues$Machine;)J -/
noncomputable def L_Census_aheadOfRow_5 (k : Int → Mem → Option (Int × Mem)) (v0 : Int) (v1 : Int) : Nat → Int → Int → Mem → Option (Int × Mem)
  | 0 => fun _ _ _ => none
  | n + 1 => fun v2 v4 M => (gf M v0 0 4 1).bind fun g8 => (gf M g8 4 5 4).bind fun g11 => if g11 ≤ v4 then (k v2 M) else ((ck M v0 0 4).bind fun _ => (D_Census_treesOf v0 v1 v4 M).bind fun x22 => (D_Census_plus v2 x22.1 x22.2).bind fun x25 => L_Census_aheadOfRow_5 k v0 v1 n x25.1 (wr (v4 + 1)) x25.2)
noncomputable def D_Census_aheadOfRow (a0 a1 : Int) (M : Mem) : Option (Int × Mem) := L_Census_aheadOfRow_5 (fun w2_5 m5 => (ck m5 a0 0 4).bind fun _ => (D_Census_countAll a0 a1 m5).bind fun x37 => (gf x37 a0 0 4 1).bind fun g41 => (ck x37 g41 4 5).bind fun _ => (D_Row_readBy g41 a1 x37).bind fun x45 => (ck x45.2 a0 0 4).bind fun _ => (D_Census_weighFinals a0 a1 x45.2).bind fun x51 => (ck x51 a0 0 4).bind fun _ => (D_Census_ahead WF a0 a1 0 0 x51).bind fun x59 => (D_Census_plus w2_5 x59.1 x59.2).bind fun x62 => some (x62.1, x62.2)) a0 a1 FU 0 1 M
theorem sL_Census_aheadOfRow_5 {d mc ms : Nat} (hd : 57 ≤ d) {r : Int × Mem} {k : Int → Mem → Option (Int × Mem)} {v0 : Int} {v1 : Int} (hk : ∀ (v2 : Int) (M : Mem), k v2 M = some r → Rn Y_Census_aheadOfRow d mc ms 0 0 (some (1, r.1), r.2) 35 [(0, (2, v0)), (1, (2, v1)), (2, (1, v2))] [] M) : ∀ (n : Nat) (v2 : Int) (v4 : Int) (M : Mem), L_Census_aheadOfRow_5 k v0 v1 n v2 v4 M = some r → Rn Y_Census_aheadOfRow d mc ms 0 0 (some (1, r.1), r.2) 5 [(0, (2, v0)), (1, (2, v1)), (2, (1, v2)), (4, (0, v4))] [] M := by
  intro n
  induction n with
  | zero => intro _ _ _ h; cases h
  | succ n ih =>
    intro v2 v4 M h
    rw [L_Census_aheadOfRow_5] at h
    refine r_iload (pc := 5) 3 (by decide +kernel) rfl ?_
    refine r_aload_n (pc := 7) 0 (n := 0) (by decide +kernel) rfl rfl ?_
    obtain ⟨g8, q8, h⟩ := bnd h
    refine r_get (pc := 8) (by decide +kernel) fl_Census_23.r (by decide) rfl q8 ?_
    obtain ⟨g11, q11, h⟩ := bnd h
    refine r_get (pc := 11) (by decide +kernel) fl_Census_55.r (by decide) rfl q11 ?_
    refine r_icmp_ge (pc := 14) (off := 21) (tgt := 35) (by decide +kernel) (by decide) (fun c14 => ?_) (fun c14 => ?_)
    · have h := ite_t c14 h
      refine r_lv [0, 1, 2] rfl ?_
      exact hk v2 M h
    · have h := ite_f c14 h
      refine r_lload_n (pc := 17) 2 (n := 2) (by decide +kernel) rfl rfl ?_
      refine r_aload_n (pc := 18) 0 (n := 0) (by decide +kernel) rfl rfl ?_
      refine r_aload_n (pc := 19) 1 (n := 1) (by decide +kernel) rfl rfl ?_
      refine r_iload (pc := 20) 3 (by decide +kernel) rfl ?_
      obtain ⟨_, q22c, h⟩ := bnd h
      obtain ⟨x22, q22, h⟩ := bnd h
      refine r_callV (pc := 22) (i := 48) (d2 := d - 1) (As := [(2, v1), (0, v4)]) (st := [(1, v2)]) (st1 := [(0, v4), (2, v1), (2, v0), (1, v2)]) (by decide +kernel) yk_Census_treesOf (by decide) rfl ⟨ml_Census_48, vk_Census_treesOf⟩ np_Census_treesOf rfl (by omega) q22c (c_Census_treesOf (d := d - 1) (by omega) q22) (Nat.le_of_ble_eq_true rfl) (Nat.le_of_ble_eq_true rfl) (Nat.le_of_ble_eq_true rfl) rfl ?_
      show Rn _ d _ _ 0 0 _ 25 [(0, (2, v0)), (1, (2, v1)), (2, (1, v2)), (4, (0, v4))] [(1, x22.1), (1, v2)] x22.2
      obtain ⟨x25, q25, h⟩ := bnd h
      refine r_callS (pc := 25) (i := 44) (d2 := d - 1) (As := [(1, v2), (1, x22.1)]) (st := []) (st1 := [(1, x22.1), (1, v2)]) (by decide +kernel) yk_Census_plus ⟨ml_Census_44, sk_Census_plus⟩ np_Census_plus rfl (by omega) (c_Census_plus (d := d - 1) (by omega) q25) (Nat.le_of_ble_eq_true rfl) (Nat.le_of_ble_eq_true rfl) (Nat.le_of_ble_eq_true rfl) rfl ?_
      show Rn _ d _ _ 0 0 _ 28 [(0, (2, v0)), (1, (2, v1)), (2, (1, v2)), (4, (0, v4))] [(1, x25.1)] x25.2
      refine r_lstore_n (pc := 28) (n := 2) (lv' := [(2, (1, x25.1)), (0, (2, v0)), (1, (2, v1)), (4, (0, v4))]) (by decide +kernel) rfl (Nat.le_of_ble_eq_true rfl) rfl ?_
      refine r_iinc (pc := 29) 3 (n := 1) (lv' := [(4, (0, wr (v4 + 1))), (2, (1, x25.1)), (0, (2, v0)), (1, (2, v1))]) (by decide +kernel) rfl (Nat.le_of_ble_eq_true rfl) rfl ?_
      refine r_goto (pc := 32) (off := (-27)) (tgt := 5) (by decide +kernel) (by decide) ?_
      refine r_lv [2, 3, 1, 0] rfl ?_
      exact ih x25.1 (wr (v4 + 1)) x25.2 h
theorem c_Census_aheadOfRow {d : Nat} (hd : 57 ≤ d) {a0 a1 : Int} {M : Mem} {x : Int × Mem} (h : D_Census_aheadOfRow a0 a1 M = some x) : Ct d Y_Census_aheadOfRow [(2, a0), (2, a1)] M (some (1, x.1), x.2) 0 0 := by
  refine ct_of yk_Census_aheadOfRow (Nat.le_of_ble_eq_true rfl) ?_
  rw [D_Census_aheadOfRow] at h
  show Rn Y_Census_aheadOfRow d 0 0 0 0 (some (1, x.1), x.2) 0 [(0, (2, a0)), (1, (2, a1))] [] M
  refine r_lconst (pc := 0) (n := 0) (z := 0) (by decide +kernel) rfl ?_
  refine r_lstore_n (pc := 1) (n := 2) (lv' := [(2, (1, 0)), (0, (2, a0)), (1, (2, a1))]) (by decide +kernel) rfl (Nat.le_of_ble_eq_true rfl) rfl ?_
  refine r_iconst (pc := 2) (z := 1) (by decide +kernel) ⟨by decide, by decide⟩ ?_
  refine r_istore (pc := 3) (lv' := [(4, (0, 1)), (2, (1, 0)), (0, (2, a0)), (1, (2, a1))]) (by decide +kernel) (Nat.le_of_ble_eq_true rfl) rfl ?_
  refine r_lv [2, 3, 1, 0] rfl ?_
  refine sL_Census_aheadOfRow_5 (by omega) ?_ _ _ _  _ h
  intro w2_5 m5 h
  refine r_aload_n (pc := 35) 0 (n := 0) (by decide +kernel) rfl rfl ?_
  refine r_aload_n (pc := 36) 1 (n := 1) (by decide +kernel) rfl rfl ?_
  obtain ⟨_, q37c, h⟩ := bnd h
  obtain ⟨x37, q37, h⟩ := bnd h
  refine r_callV (pc := 37) (i := 27) (d2 := d - 1) (As := [(2, a1)]) (st := []) (st1 := [(2, a1), (2, a0)]) (by decide +kernel) yk_Census_countAll (by decide) rfl ⟨ml_Census_27, vk_Census_countAll⟩ np_Census_countAll rfl (by omega) q37c (c_Census_countAll (d := d - 1) (by omega) q37) (Nat.le_of_ble_eq_true rfl) (Nat.le_of_ble_eq_true rfl) (Nat.le_of_ble_eq_true rfl) rfl ?_
  show Rn _ d _ _ 0 0 _ 40 [(0, (2, a0)), (1, (2, a1)), (2, (1, w2_5))] [] x37
  refine r_aload_n (pc := 40) 0 (n := 0) (by decide +kernel) rfl rfl ?_
  obtain ⟨g41, q41, h⟩ := bnd h
  refine r_get (pc := 41) (by decide +kernel) fl_Census_23.r (by decide) rfl q41 ?_
  refine r_aload_n (pc := 44) 1 (n := 1) (by decide +kernel) rfl rfl ?_
  obtain ⟨_, q45c, h⟩ := bnd h
  obtain ⟨x45, q45, h⟩ := bnd h
  refine r_callV (pc := 45) (i := 64) (d2 := d - 1) (As := [(2, a1)]) (st := []) (st1 := [(2, a1), (2, g41)]) (by decide +kernel) yk_Row_readBy (by decide) rfl ⟨ml_Census_64, vk_Row_readBy⟩ np_Row_readBy rfl (by omega) q45c (c_Row_readBy (d := d - 1) (by omega) q45) (Nat.le_of_ble_eq_true rfl) (Nat.le_of_ble_eq_true rfl) (Nat.le_of_ble_eq_true rfl) rfl ?_
  show Rn _ d _ _ 0 0 _ 48 [(0, (2, a0)), (1, (2, a1)), (2, (1, w2_5))] [(0, x45.1)] x45.2
  refine r_pop (pc := 48) (by decide +kernel) rfl ?_
  refine r_aload_n (pc := 49) 0 (n := 0) (by decide +kernel) rfl rfl ?_
  refine r_aload_n (pc := 50) 1 (n := 1) (by decide +kernel) rfl rfl ?_
  obtain ⟨_, q51c, h⟩ := bnd h
  obtain ⟨x51, q51, h⟩ := bnd h
  refine r_callV (pc := 51) (i := 52) (d2 := d - 1) (As := [(2, a1)]) (st := []) (st1 := [(2, a1), (2, a0)]) (by decide +kernel) yk_Census_weighFinals (by decide) rfl ⟨ml_Census_52, vk_Census_weighFinals⟩ np_Census_weighFinals rfl (by omega) q51c (c_Census_weighFinals (d := d - 1) (by omega) q51) (Nat.le_of_ble_eq_true rfl) (Nat.le_of_ble_eq_true rfl) (Nat.le_of_ble_eq_true rfl) rfl ?_
  show Rn _ d _ _ 0 0 _ 54 [(0, (2, a0)), (1, (2, a1)), (2, (1, w2_5))] [] x51
  refine r_lload_n (pc := 54) 2 (n := 2) (by decide +kernel) rfl rfl ?_
  refine r_aload_n (pc := 55) 0 (n := 0) (by decide +kernel) rfl rfl ?_
  refine r_aload_n (pc := 56) 1 (n := 1) (by decide +kernel) rfl rfl ?_
  refine r_iconst (pc := 57) (z := 0) (by decide +kernel) ⟨by decide, by decide⟩ ?_
  refine r_iconst (pc := 58) (z := 0) (by decide +kernel) ⟨by decide, by decide⟩ ?_
  obtain ⟨_, q59c, h⟩ := bnd h
  obtain ⟨x59, q59, h⟩ := bnd h
  refine r_callV (pc := 59) (i := 68) (d2 := d - 1) (As := [(2, a1), (0, 0), (0, 0)]) (st := [(1, w2_5)]) (st1 := [(0, 0), (0, 0), (2, a1), (2, a0), (1, w2_5)]) (by decide +kernel) yk_Census_ahead (by decide) rfl ⟨ml_Census_68, vk_Census_ahead⟩ np_Census_ahead rfl (by omega) q59c (c_Census_ahead WF (d := d - 1) (by have := WF_eq; omega) q59) (Nat.le_of_ble_eq_true rfl) (Nat.le_of_ble_eq_true rfl) (Nat.le_of_ble_eq_true rfl) rfl ?_
  show Rn _ d _ _ 0 0 _ 62 [(0, (2, a0)), (1, (2, a1)), (2, (1, w2_5))] [(1, x59.1), (1, w2_5)] x59.2
  obtain ⟨x62, q62, h⟩ := bnd h
  refine r_callS (pc := 62) (i := 44) (d2 := d - 1) (As := [(1, w2_5), (1, x59.1)]) (st := []) (st1 := [(1, x59.1), (1, w2_5)]) (by decide +kernel) yk_Census_plus ⟨ml_Census_44, sk_Census_plus⟩ np_Census_plus rfl (by omega) (c_Census_plus (d := d - 1) (by omega) q62) (Nat.le_of_ble_eq_true rfl) (Nat.le_of_ble_eq_true rfl) (Nat.le_of_ble_eq_true rfl) rfl ?_
  show Rn _ d _ _ 0 0 _ 65 [(0, (2, a0)), (1, (2, a1)), (2, (1, w2_5))] [(1, x62.1)] x62.2
  obtain rfl := Option.some.inj h
  exact r_ret (pc := 65) (r := some (1, x62.1)) (by decide +kernel) rfl trivial (Nat.le_of_ble_eq_true rfl) (Nat.le_of_ble_eq_true rfl)

/-! TreeTongues.place(I)J -/
noncomputable def D_T_place (a0 a1 : Int) (M : Mem) : Option (Int × Mem) := (ck M a0 8 8).bind fun _ => (D_T_find a0 a1 M).bind fun x2 => if x2.1 < 0 then (some ((-1), x2.2)) else ((gf x2.2 a0 8 8 1).bind fun g11 => (ck x2.2 g11 4 5).bind fun _ => (D_Row_isTree g11 x2.2).bind fun x14 => if x14.1 = 0 then (some ((-1), x14.2)) else ((gf x14.2 a0 8 8 1).bind fun g21 => (gf x14.2 g21 4 5 4).bind fun g24 => if 40 < g24 then (some ((-1), x14.2)) else ((ck x14.2 a0 8 8).bind fun _ => (D_T_isLarge a0 x2.1 x14.2).bind fun x34 => if x34.1 = 0 then ((gf x34.2 a0 8 8 6).bind fun g45 => (gf x34.2 x2.1 7 8 1).bind fun g49 => (ck x34.2 g45 0 4).bind fun _ => (D_Census_aheadOfRow g45 g49 x34.2).bind fun x52 => some (x52.1, x52.2)) else (some ((-1), x34.2)))))
theorem c_T_place {d : Nat} (hd : 58 ≤ d) {a0 a1 : Int} {M : Mem} {x : Int × Mem} (h : D_T_place a0 a1 M = some x) : Ct d Y_T_place [(2, a0), (0, a1)] M (some (1, x.1), x.2) 0 0 := by
  refine ct_of yk_T_place (Nat.le_of_ble_eq_true rfl) ?_
  rw [D_T_place] at h
  show Rn Y_T_place d 0 0 0 0 (some (1, x.1), x.2) 0 [(0, (2, a0)), (1, (0, a1))] [] M
  refine r_aload_n (pc := 0) 0 (n := 0) (by decide +kernel) rfl rfl ?_
  refine r_iload_n (pc := 1) 1 (n := 1) (by decide +kernel) rfl rfl ?_
  obtain ⟨_, q2c, h⟩ := bnd h
  obtain ⟨x2, q2, h⟩ := bnd h
  refine r_callV (pc := 2) (i := 98) (d2 := d - 1) (As := [(0, a1)]) (st := []) (st1 := [(0, a1), (2, a0)]) (by decide +kernel) yk_T_find (by decide) rfl ⟨ml_T_98, vk_T_find⟩ np_T_find rfl (by omega) q2c (c_T_find (d := d - 1) (by omega) q2) (Nat.le_of_ble_eq_true rfl) (Nat.le_of_ble_eq_true rfl) (Nat.le_of_ble_eq_true rfl) rfl ?_
  show Rn _ d _ _ 0 0 _ 5 [(0, (2, a0)), (1, (0, a1))] [(2, x2.1)] x2.2
  refine r_astore_n (pc := 5) (n := 2) (lv' := [(2, (2, x2.1)), (0, (2, a0)), (1, (0, a1))]) (by decide +kernel) rfl (Nat.le_of_ble_eq_true rfl) rfl ?_
  refine r_aload_n (pc := 6) 0 (n := 2) (by decide +kernel) rfl rfl ?_
  refine r_ifnull (pc := 7) (off := 33) (tgt := 40) (by decide +kernel) (by decide) (fun c7 => ?_) (fun c7 => ?_)
  · have h := ite_t c7 h
    refine r_ldc2 (pc := 40) (i := 200) (z := (-1)) (by decide +kernel) (mg 785 (by decide +kernel) (by decide +kernel)) ⟨by decide, by decide⟩ ?_
    obtain rfl := Option.some.inj h
    exact r_ret (pc := 43) (r := some (1, (-1))) (by decide +kernel) rfl trivial (Nat.le_of_ble_eq_true rfl) (Nat.le_of_ble_eq_true rfl)
  · have h := ite_f c7 h
    refine r_aload_n (pc := 10) 1 (n := 0) (by decide +kernel) rfl rfl ?_
    obtain ⟨g11, q11, h⟩ := bnd h
    refine r_get (pc := 11) (by decide +kernel) fl_T_21.r (by decide) rfl q11 ?_
    obtain ⟨_, q14c, h⟩ := bnd h
    obtain ⟨x14, q14, h⟩ := bnd h
    refine r_callV (pc := 14) (i := 181) (d2 := d - 1) (As := []) (st := []) (st1 := [(2, g11)]) (by decide +kernel) yk_Row_isTree (by decide) rfl ⟨ml_T_181, vk_Row_isTree⟩ np_Row_isTree rfl (by omega) q14c (c_Row_isTree (d := d - 1) (by omega) q14) (Nat.le_of_ble_eq_true rfl) (Nat.le_of_ble_eq_true rfl) (Nat.le_of_ble_eq_true rfl) rfl ?_
    show Rn _ d _ _ 0 0 _ 17 [(2, (2, x2.1)), (0, (2, a0)), (1, (0, a1))] [(0, x14.1)] x14.2
    refine r_if_eq (pc := 17) (off := 23) (tgt := 40) (by decide +kernel) (by decide) (fun c17 => ?_) (fun c17 => ?_)
    · have h := ite_t c17 h
      refine r_ldc2 (pc := 40) (i := 200) (z := (-1)) (by decide +kernel) (mg 785 (by decide +kernel) (by decide +kernel)) ⟨by decide, by decide⟩ ?_
      obtain rfl := Option.some.inj h
      exact r_ret (pc := 43) (r := some (1, (-1))) (by decide +kernel) rfl trivial (Nat.le_of_ble_eq_true rfl) (Nat.le_of_ble_eq_true rfl)
    · have h := ite_f c17 h
      refine r_aload_n (pc := 20) 1 (n := 0) (by decide +kernel) rfl rfl ?_
      obtain ⟨g21, q21, h⟩ := bnd h
      refine r_get (pc := 21) (by decide +kernel) fl_T_21.r (by decide) rfl q21 ?_
      obtain ⟨g24, q24, h⟩ := bnd h
      refine r_get (pc := 24) (by decide +kernel) fl_T_81.r (by decide) rfl q24 ?_
      refine r_bipush (pc := 27) (z := 40) (by decide +kernel) ⟨by decide, by decide⟩ ?_
      refine r_icmp_gt (pc := 29) (off := 11) (tgt := 40) (by decide +kernel) (by decide) (fun c29 => ?_) (fun c29 => ?_)
      · have h := ite_t c29 h
        refine r_ldc2 (pc := 40) (i := 200) (z := (-1)) (by decide +kernel) (mg 785 (by decide +kernel) (by decide +kernel)) ⟨by decide, by decide⟩ ?_
        obtain rfl := Option.some.inj h
        exact r_ret (pc := 43) (r := some (1, (-1))) (by decide +kernel) rfl trivial (Nat.le_of_ble_eq_true rfl) (Nat.le_of_ble_eq_true rfl)
      · have h := ite_f c29 h
        refine r_aload_n (pc := 32) 1 (n := 0) (by decide +kernel) rfl rfl ?_
        refine r_aload_n (pc := 33) 0 (n := 2) (by decide +kernel) rfl rfl ?_
        obtain ⟨_, q34c, h⟩ := bnd h
        obtain ⟨x34, q34, h⟩ := bnd h
        refine r_callV (pc := 34) (i := 122) (d2 := d - 1) (As := [(2, x2.1)]) (st := []) (st1 := [(2, x2.1), (2, a0)]) (by decide +kernel) yk_T_isLarge (by decide) rfl ⟨ml_T_122, vk_T_isLarge⟩ np_T_isLarge rfl (by omega) q34c (c_T_isLarge (d := d - 1) (by omega) q34) (Nat.le_of_ble_eq_true rfl) (Nat.le_of_ble_eq_true rfl) (Nat.le_of_ble_eq_true rfl) rfl ?_
        show Rn _ d _ _ 0 0 _ 37 [(2, (2, x2.1)), (0, (2, a0)), (1, (0, a1))] [(0, x34.1)] x34.2
        refine r_if_eq (pc := 37) (off := 7) (tgt := 44) (by decide +kernel) (by decide) (fun c37 => ?_) (fun c37 => ?_)
        · have h := ite_t c37 h
          refine r_aload_n (pc := 44) 1 (n := 0) (by decide +kernel) rfl rfl ?_
          obtain ⟨g45, q45, h⟩ := bnd h
          refine r_get (pc := 45) (by decide +kernel) fl_T_59.r (by decide) rfl q45 ?_
          refine r_aload_n (pc := 48) 0 (n := 2) (by decide +kernel) rfl rfl ?_
          obtain ⟨g49, q49, h⟩ := bnd h
          refine r_get (pc := 49) (by decide +kernel) fl_T_126 (by decide) rfl q49 ?_
          obtain ⟨_, q52c, h⟩ := bnd h
          obtain ⟨x52, q52, h⟩ := bnd h
          refine r_callV (pc := 52) (i := 212) (d2 := d - 1) (As := [(2, g49)]) (st := []) (st1 := [(2, g49), (2, g45)]) (by decide +kernel) yk_Census_aheadOfRow (by decide) rfl ⟨ml_T_212, vk_Census_aheadOfRow⟩ np_Census_aheadOfRow rfl (by omega) q52c (c_Census_aheadOfRow (d := d - 1) (by omega) q52) (Nat.le_of_ble_eq_true rfl) (Nat.le_of_ble_eq_true rfl) (Nat.le_of_ble_eq_true rfl) rfl ?_
          show Rn _ d _ _ 0 0 _ 55 [(2, (2, x2.1)), (0, (2, a0)), (1, (0, a1))] [(1, x52.1)] x52.2
          obtain rfl := Option.some.inj h
          exact r_ret (pc := 55) (r := some (1, x52.1)) (by decide +kernel) rfl trivial (Nat.le_of_ble_eq_true rfl) (Nat.le_of_ble_eq_true rfl)
        · have h := ite_f c37 h
          refine r_ldc2 (pc := 40) (i := 200) (z := (-1)) (by decide +kernel) (mg 785 (by decide +kernel) (by decide +kernel)) ⟨by decide, by decide⟩ ?_
          obtain rfl := Option.some.inj h
          exact r_ret (pc := 43) (r := some (1, (-1))) (by decide +kernel) rfl trivial (Nat.le_of_ble_eq_true rfl) (Nat.le_of_ble_eq_true rfl)

/-! TreeTongues.told(I)I -/
noncomputable def D_T_told (a0 a1 : Int) (M : Mem) : Option (Int × Mem) := if (a1 < 0 ∨ 3 < a1) then (some ((-2), M)) else if a1 = 0 then ((gf M a0 8 8 0).bind fun g33 => (gf M g33 5 3 1).bind fun g36 => some (g36, M)) else if a1 = 1 then ((gf M a0 8 8 1).bind fun g41 => (gf M g41 4 5 4).bind fun g44 => some (g44, M)) else if a1 = 2 then ((gf M a0 8 8 7).bind fun g49 => some (g49, M)) else ((gf M a0 8 8 1).bind fun g54 => (ck M g54 4 5).bind fun _ => (D_Row_isTree g54 M).bind fun x57 => if x57.1 = 0 then (some (0, x57.2)) else (some (1, x57.2)))
theorem c_T_told {d : Nat} (hd : 4 ≤ d) {a0 a1 : Int} {M : Mem} {x : Int × Mem} (h : D_T_told a0 a1 M = some x) : Ct d Y_T_told [(2, a0), (0, a1)] M (some (0, x.1), x.2) 0 0 := by
  refine ct_of yk_T_told (Nat.le_of_ble_eq_true rfl) ?_
  rw [D_T_told] at h
  show Rn Y_T_told d 0 0 0 0 (some (0, x.1), x.2) 0 [(0, (2, a0)), (1, (0, a1))] [] M
  refine r_iload_n (pc := 0) 1 (n := 1) (by decide +kernel) rfl rfl ?_
  refine r_table (pc := 1) (dflt := 68) (lo := 0) (hi := 3) (offs := #[31, 39, 47, 52]) (len := 31) (z := a1) (tg := fun j => [32, 40, 48, 53].getD j 0) (dt := 69) (by decide +kernel) (by decide) (fun j hj => tb_of (N := 4) 1 #[31, 39, 47, 52] (fun j => [32, 40, 48, 53].getD j 0) (by decide +kernel) j (by omega)) (fun c1 => ?_) (fun j hz hj => ?_)
  · have h := ite_t c1 h
    refine r_bipush (pc := 69) (z := (-2)) (by decide +kernel) ⟨by decide, by decide⟩ ?_
    obtain rfl := Option.some.inj h
    exact r_ret (pc := 71) (r := some (0, (-2))) (by decide +kernel) rfl trivial (Nat.le_of_ble_eq_true rfl) (Nat.le_of_ble_eq_true rfl)
  · have h := ite_f (show ¬ (a1 < 0 ∨ 3 < a1) by omega) h
    by_cases e0 : a1 = 0
    · have h := ite_t e0 h
      obtain rfl : j = 0 := by omega
      show Rn _ d _ _ 0 0 _ 32 [(0, (2, a0)), (1, (0, a1))] [] M
      refine r_aload_n (pc := 32) 0 (n := 0) (by decide +kernel) rfl rfl ?_
      obtain ⟨g33, q33, h⟩ := bnd h
      refine r_get (pc := 33) (by decide +kernel) fl_T_12.r (by decide) rfl q33 ?_
      obtain ⟨g36, q36, h⟩ := bnd h
      refine r_get (pc := 36) (by decide +kernel) fl_T_67.r (by decide) rfl q36 ?_
      obtain rfl := Option.some.inj h
      exact r_ret (pc := 39) (r := some (0, g36)) (by decide +kernel) rfl trivial (Nat.le_of_ble_eq_true rfl) (Nat.le_of_ble_eq_true rfl)
    · have h := ite_f e0 h
      by_cases e1 : a1 = 1
      · have h := ite_t e1 h
        obtain rfl : j = 1 := by omega
        show Rn _ d _ _ 0 0 _ 40 [(0, (2, a0)), (1, (0, a1))] [] M
        refine r_aload_n (pc := 40) 0 (n := 0) (by decide +kernel) rfl rfl ?_
        obtain ⟨g41, q41, h⟩ := bnd h
        refine r_get (pc := 41) (by decide +kernel) fl_T_21.r (by decide) rfl q41 ?_
        obtain ⟨g44, q44, h⟩ := bnd h
        refine r_get (pc := 44) (by decide +kernel) fl_T_81.r (by decide) rfl q44 ?_
        obtain rfl := Option.some.inj h
        exact r_ret (pc := 47) (r := some (0, g44)) (by decide +kernel) rfl trivial (Nat.le_of_ble_eq_true rfl) (Nat.le_of_ble_eq_true rfl)
      · have h := ite_f e1 h
        by_cases e2 : a1 = 2
        · have h := ite_t e2 h
          obtain rfl : j = 2 := by omega
          show Rn _ d _ _ 0 0 _ 48 [(0, (2, a0)), (1, (0, a1))] [] M
          refine r_aload_n (pc := 48) 0 (n := 0) (by decide +kernel) rfl rfl ?_
          obtain ⟨g49, q49, h⟩ := bnd h
          refine r_get (pc := 49) (by decide +kernel) fl_T_63.r (by decide) rfl q49 ?_
          obtain rfl := Option.some.inj h
          exact r_ret (pc := 52) (r := some (0, g49)) (by decide +kernel) rfl trivial (Nat.le_of_ble_eq_true rfl) (Nat.le_of_ble_eq_true rfl)
        · have h := ite_f e2 h
          obtain rfl : j = 3 := by omega
          show Rn _ d _ _ 0 0 _ 53 [(0, (2, a0)), (1, (0, a1))] [] M
          refine r_aload_n (pc := 53) 0 (n := 0) (by decide +kernel) rfl rfl ?_
          obtain ⟨g54, q54, h⟩ := bnd h
          refine r_get (pc := 54) (by decide +kernel) fl_T_21.r (by decide) rfl q54 ?_
          obtain ⟨_, q57c, h⟩ := bnd h
          obtain ⟨x57, q57, h⟩ := bnd h
          refine r_callV (pc := 57) (i := 181) (d2 := d - 1) (As := []) (st := []) (st1 := [(2, g54)]) (by decide +kernel) yk_Row_isTree (by decide) rfl ⟨ml_T_181, vk_Row_isTree⟩ np_Row_isTree rfl (by omega) q57c (c_Row_isTree (d := d - 1) (by omega) q57) (Nat.le_of_ble_eq_true rfl) (Nat.le_of_ble_eq_true rfl) (Nat.le_of_ble_eq_true rfl) rfl ?_
          show Rn _ d _ _ 0 0 _ 60 [(0, (2, a0)), (1, (0, a1))] [(0, x57.1)] x57.2
          refine r_if_eq (pc := 60) (off := 7) (tgt := 67) (by decide +kernel) (by decide) (fun c60 => ?_) (fun c60 => ?_)
          · have h := ite_t c60 h
            refine r_iconst (pc := 67) (z := 0) (by decide +kernel) ⟨by decide, by decide⟩ ?_
            obtain rfl := Option.some.inj h
            exact r_ret (pc := 68) (r := some (0, 0)) (by decide +kernel) rfl trivial (Nat.le_of_ble_eq_true rfl) (Nat.le_of_ble_eq_true rfl)
          · have h := ite_f c60 h
            refine r_iconst (pc := 63) (z := 1) (by decide +kernel) ⟨by decide, by decide⟩ ?_
            refine r_goto (pc := 64) (off := 4) (tgt := 68) (by decide +kernel) (by decide) ?_
            obtain rfl := Option.some.inj h
            exact r_ret (pc := 68) (r := some (0, 1)) (by decide +kernel) rfl trivial (Nat.le_of_ble_eq_true rfl) (Nat.le_of_ble_eq_true rfl)
