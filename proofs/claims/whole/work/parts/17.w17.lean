/-! TreeTongues.within(I)I -/
noncomputable def D_T_within (a0 a1 : Int) (M : Mem) : Option (Int × Mem) := (ck M a0 8 8).bind fun _ => (D_T_find a0 a1 M).bind fun x2 => if x2.1 < 0 then (some ((-2), x2.2)) else ((gf x2.2 a0 8 8 7).bind fun g14 => if g14 < 16 then ((ck x2.2 a0 8 8).bind fun _ => (D_T_isLarge a0 x2.1 x2.2).bind fun x27 => if x27.1 = 0 then ((gf x27.2 a0 8 8 3).bind fun g37 => (gf x27.2 x2.1 7 8 1).bind fun g41 => (ck x27.2 g37 2 6).bind fun _ => (D_Net_setWithin g37 g41 x27.2).bind fun x44 => (ck x44 a0 8 8).bind fun _ => (D_T_keep a0 x44).bind fun x48 => some (x48.1, x48.2)) else (some ((-5), x27.2))) else (some ((-4), x2.2)))
theorem c_T_within {d : Nat} (hd : 8 ≤ d) {a0 a1 : Int} {M : Mem} {x : Int × Mem} (h : D_T_within a0 a1 M = some x) : Ct d Y_T_within [(2, a0), (0, a1)] M (some (0, x.1), x.2) 12 676 := by
  refine ct_of yk_T_within (Nat.le_of_ble_eq_true rfl) ?_
  rw [D_T_within] at h
  show Rn Y_T_within d 12 676 0 0 (some (0, x.1), x.2) 0 [(0, (2, a0)), (1, (0, a1))] [] M
  refine r_aload_n (pc := 0) 0 (n := 0) (by decide +kernel) rfl rfl ?_
  refine r_iload_n (pc := 1) 1 (n := 1) (by decide +kernel) rfl rfl ?_
  obtain ⟨_, q2c, h⟩ := bnd h
  obtain ⟨x2, q2, h⟩ := bnd h
  refine r_callV (pc := 2) (i := 98) (d2 := d - 1) (As := [(0, a1)]) (st := []) (st1 := [(0, a1), (2, a0)]) (by decide +kernel) yk_T_find (by decide) rfl ⟨ml_T_98, vk_T_find⟩ np_T_find rfl (by omega) q2c (c_T_find (d := d - 1) (by omega) q2) (Nat.le_of_ble_eq_true rfl) (Nat.le_of_ble_eq_true rfl) (Nat.le_of_ble_eq_true rfl) rfl ?_
  show Rn _ d _ _ 0 0 _ 5 [(0, (2, a0)), (1, (0, a1))] [(2, x2.1)] x2.2
  refine r_astore_n (pc := 5) (n := 2) (lv' := [(2, (2, x2.1)), (0, (2, a0)), (1, (0, a1))]) (by decide +kernel) rfl (Nat.le_of_ble_eq_true rfl) rfl ?_
  refine r_aload_n (pc := 6) 0 (n := 2) (by decide +kernel) rfl rfl ?_
  refine r_ifnonnull (pc := 7) (off := 6) (tgt := 13) (by decide +kernel) (by decide) (fun c7 => ?_) (fun c7 => ?_)
  · have h := ite_f c7 h
    refine r_aload_n (pc := 13) 1 (n := 0) (by decide +kernel) rfl rfl ?_
    obtain ⟨g14, q14, h⟩ := bnd h
    refine r_get (pc := 14) (by decide +kernel) fl_T_63.r (by decide) rfl q14 ?_
    refine r_bipush (pc := 17) (z := 16) (by decide +kernel) ⟨by decide, by decide⟩ ?_
    refine r_icmp_lt (pc := 19) (off := 6) (tgt := 25) (by decide +kernel) (by decide) (fun c19 => ?_) (fun c19 => ?_)
    · have h := ite_t c19 h
      refine r_aload_n (pc := 25) 1 (n := 0) (by decide +kernel) rfl rfl ?_
      refine r_aload_n (pc := 26) 0 (n := 2) (by decide +kernel) rfl rfl ?_
      obtain ⟨_, q27c, h⟩ := bnd h
      obtain ⟨x27, q27, h⟩ := bnd h
      refine r_callV (pc := 27) (i := 122) (d2 := d - 1) (As := [(2, x2.1)]) (st := []) (st1 := [(2, x2.1), (2, a0)]) (by decide +kernel) yk_T_isLarge (by decide) rfl ⟨ml_T_122, vk_T_isLarge⟩ np_T_isLarge rfl (by omega) q27c (c_T_isLarge (d := d - 1) (by omega) q27) (Nat.le_of_ble_eq_true rfl) (Nat.le_of_ble_eq_true rfl) (Nat.le_of_ble_eq_true rfl) rfl ?_
      show Rn _ d _ _ 0 0 _ 30 [(2, (2, x2.1)), (0, (2, a0)), (1, (0, a1))] [(0, x27.1)] x27.2
      refine r_if_eq (pc := 30) (off := 6) (tgt := 36) (by decide +kernel) (by decide) (fun c30 => ?_) (fun c30 => ?_)
      · have h := ite_t c30 h
        refine r_aload_n (pc := 36) 1 (n := 0) (by decide +kernel) rfl rfl ?_
        obtain ⟨g37, q37, h⟩ := bnd h
        refine r_get (pc := 37) (by decide +kernel) fl_T_34.r (by decide) rfl q37 ?_
        refine r_aload_n (pc := 40) 0 (n := 2) (by decide +kernel) rfl rfl ?_
        obtain ⟨g41, q41, h⟩ := bnd h
        refine r_get (pc := 41) (by decide +kernel) fl_T_126 (by decide) rfl q41 ?_
        obtain ⟨_, q44c, h⟩ := bnd h
        obtain ⟨x44, q44, h⟩ := bnd h
        refine r_callV (pc := 44) (i := 157) (d2 := d - 1) (As := [(2, g41)]) (st := []) (st1 := [(2, g41), (2, g37)]) (by decide +kernel) yk_Net_setWithin (by decide) rfl ⟨ml_T_157, vk_Net_setWithin⟩ np_Net_setWithin rfl (by omega) q44c (c_Net_setWithin (d := d - 1) (by omega) q44) (Nat.le_of_ble_eq_true rfl) (Nat.le_of_ble_eq_true rfl) (Nat.le_of_ble_eq_true rfl) rfl ?_
        show Rn _ d _ _ 0 0 _ 47 [(2, (2, x2.1)), (0, (2, a0)), (1, (0, a1))] [] x44
        refine r_aload_n (pc := 47) 1 (n := 0) (by decide +kernel) rfl rfl ?_
        obtain ⟨_, q48c, h⟩ := bnd h
        obtain ⟨x48, q48, h⟩ := bnd h
        refine r_callV (pc := 48) (i := 133) (d2 := d - 1) (As := []) (st := []) (st1 := [(2, a0)]) (by decide +kernel) yk_T_keep (by decide) rfl ⟨ml_T_133, vk_T_keep⟩ np_T_keep rfl (by omega) q48c (c_T_keep (d := d - 1) (by omega) q48) (Nat.le_of_ble_eq_true rfl) (Nat.le_of_ble_eq_true rfl) (Nat.le_of_ble_eq_true rfl) rfl ?_
        show Rn _ d _ _ 12 676 _ 51 [(2, (2, x2.1)), (0, (2, a0)), (1, (0, a1))] [(0, x48.1)] x48.2
        obtain rfl := Option.some.inj h
        exact r_ret (pc := 51) (r := some (0, x48.1)) (by decide +kernel) rfl trivial (Nat.le_of_ble_eq_true rfl) (Nat.le_of_ble_eq_true rfl)
      · have h := ite_f c30 h
        refine r_bipush (pc := 33) (z := (-5)) (by decide +kernel) ⟨by decide, by decide⟩ ?_
        obtain rfl := Option.some.inj h
        exact r_ret (pc := 35) (r := some (0, (-5))) (by decide +kernel) rfl trivial (Nat.le_of_ble_eq_true rfl) (Nat.le_of_ble_eq_true rfl)
    · have h := ite_f c19 h
      refine r_bipush (pc := 22) (z := (-4)) (by decide +kernel) ⟨by decide, by decide⟩ ?_
      obtain rfl := Option.some.inj h
      exact r_ret (pc := 24) (r := some (0, (-4))) (by decide +kernel) rfl trivial (Nat.le_of_ble_eq_true rfl) (Nat.le_of_ble_eq_true rfl)
  · have h := ite_t c7 h
    refine r_bipush (pc := 10) (z := (-2)) (by decide +kernel) ⟨by decide, by decide⟩ ?_
    obtain rfl := Option.some.inj h
    exact r_ret (pc := 12) (r := some (0, (-2))) (by decide +kernel) rfl trivial (Nat.le_of_ble_eq_true rfl) (Nat.le_of_ble_eq_true rfl)

/-! TreeTongues$Net.setGrafted(LTreeTongues$Machine;ILTreeTongues$Machine;)V -/
noncomputable def L_Net_setGrafted_99 (k : Mem → Option (Mem)) (v0 : Int) (v1 : Int) (v2 : Int) (v3 : Int) (v4 : Int) (v5 : Int) (v6 : Int) (v7 : Int) : Nat → Int → Mem → Option (Mem)
  | 0 => fun _ _ => none
  | n + 1 => fun v8 M => (gf M v0 2 6 0).bind fun g102 => (ck M g102 5 3).bind fun _ => (D_Signs_choices g102 v6 1 v5 M).bind fun x110 => if x110.1 ≤ v8 then (k  x110.2) else ((ck x110.2 v3 1 14).bind fun _ => (D_Machine_step v3 v6 v7 v8 x110.2).bind fun x124 => (ck x124.2 v3 1 14).bind fun _ => (D_Machine_finalBit v3 x124.1 x124.2).bind fun x127 => (if x127.1 = 1 then (some v4) else (some 0)).bind fun (t148 : Int) => (ck x127.2 v0 2 6).bind fun _ => (D_Net_lead v0 v6 (wr (6 + v7)) (wr (6 + v8)) t148 x127.2).bind fun x157 => L_Net_setGrafted_99 k v0 v1 v2 v3 v4 v5 v6 v7 n (wr (v8 + 1)) x157)
noncomputable def L_Net_setGrafted_79 (k : Mem → Option (Mem)) (v0 : Int) (v1 : Int) (v2 : Int) (v3 : Int) (v4 : Int) (v5 : Int) (v6 : Int) : Nat → Int → Mem → Option (Mem)
  | 0 => fun _ _ => none
  | n + 1 => fun v7 M => (gf M v0 2 6 0).bind fun g82 => (ck M g82 5 3).bind fun _ => (D_Signs_choices g82 v6 0 v5 M).bind fun x90 => if x90.1 ≤ v7 then (k  x90.2) else (L_Net_setGrafted_99 (fun  m99 => L_Net_setGrafted_79 k v0 v1 v2 v3 v4 v5 v6 n (wr (v7 + 1)) m99) v0 v1 v2 v3 v4 v5 v6 v7 FU 0 x90.2)
noncomputable def L_Net_setGrafted_37 (k : Mem → Option (Mem)) (v0 : Int) (v1 : Int) (v2 : Int) (v3 : Int) (v4 : Int) (v5 : Int) : Nat → Int → Mem → Option (Mem)
  | 0 => fun _ _ => none
  | n + 1 => fun v6 M => (gf M v0 2 6 0).bind fun g40 => (gf M g40 5 3 1).bind fun g43 => if g43 ≤ v6 then (k  M) else ((ck M v0 2 6).bind fun _ => (D_Net_enter v0 v3 6 v6 v6 M).bind fun x57 => (if v6 = v2 then (some x57) else ((ck x57 v0 2 6).bind fun _ => (D_Net_enter v0 v1 0 v6 v6 x57).bind fun x73 => some x73)).bind fun (t63 : Mem) => L_Net_setGrafted_79 (fun  m79 => L_Net_setGrafted_37 k v0 v1 v2 v3 v4 v5 n (wr (v6 + 1)) m79) v0 v1 v2 v3 v4 v5 v6 FU 0 t63)
noncomputable def D_Net_setGrafted (a0 a1 a2 a3 : Int) (M : Mem) : Option (Mem) := (gf M a3 1 14 10).bind fun g4 => (gf M a1 1 14 11).bind fun g9 => (ck M a0 2 6).bind fun _ => (D_Net_begin a0 (wr (6 + g4)) g9 10 M).bind fun x14 => (ck x14 a1 1 14).bind fun _ => (D_Machine_step a1 a2 0 0 x14).bind fun x22 => lt (ishl 1 x22.1) fun u4_26 => (gf x22.2 a3 1 14 10).bind fun g29 => L_Net_setGrafted_37 (fun  m37 => some m37) a0 a1 a2 a3 u4_26 g29 FU 0 x22.2
theorem sL_Net_setGrafted_99 {d mc ms : Nat} (hd : 5 ≤ d) {r : Mem} {k : Mem → Option (Mem)} {v0 : Int} {v1 : Int} {v2 : Int} {v3 : Int} {v4 : Int} {v5 : Int} {v6 : Int} {v7 : Int} (hk : ∀ (M : Mem), k M = some r → Rn Y_Net_setGrafted d mc ms 0 0 (none, r) 166 [(0, (2, v0)), (1, (2, v1)), (2, (0, v2)), (3, (2, v3)), (4, (0, v4)), (5, (0, v5)), (6, (0, v6)), (7, (0, v7))] [] M) : ∀ (n : Nat) (v8 : Int) (M : Mem), L_Net_setGrafted_99 k v0 v1 v2 v3 v4 v5 v6 v7 n v8 M = some r → Rn Y_Net_setGrafted d mc ms 0 0 (none, r) 99 [(0, (2, v0)), (1, (2, v1)), (2, (0, v2)), (3, (2, v3)), (4, (0, v4)), (5, (0, v5)), (6, (0, v6)), (7, (0, v7)), (8, (0, v8))] [] M := by
  intro n
  induction n with
  | zero => intro _ _ h; cases h
  | succ n ih =>
    intro v8 M h
    rw [L_Net_setGrafted_99] at h
    refine r_iload (pc := 99) 8 (by decide +kernel) rfl ?_
    refine r_aload_n (pc := 101) 0 (n := 0) (by decide +kernel) rfl rfl ?_
    obtain ⟨g102, q102, h⟩ := bnd h
    refine r_get (pc := 102) (by decide +kernel) fl_Net_28.r (by decide) rfl q102 ?_
    refine r_iload (pc := 105) 6 (by decide +kernel) rfl ?_
    refine r_iconst (pc := 107) (z := 1) (by decide +kernel) ⟨by decide, by decide⟩ ?_
    refine r_iload (pc := 108) 5 (by decide +kernel) rfl ?_
    obtain ⟨_, q110c, h⟩ := bnd h
    obtain ⟨x110, q110, h⟩ := bnd h
    refine r_callV (pc := 110) (i := 49) (d2 := d - 1) (As := [(0, v6), (0, 1), (0, v5)]) (st := [(0, v8)]) (st1 := [(0, v5), (0, 1), (0, v6), (2, g102), (0, v8)]) (by decide +kernel) yk_Signs_choices (by decide) rfl ⟨ml_Net_49, vk_Signs_choices⟩ np_Signs_choices rfl (by omega) q110c (c_Signs_choices (d := d - 1) (by omega) q110) (Nat.le_of_ble_eq_true rfl) (Nat.le_of_ble_eq_true rfl) (Nat.le_of_ble_eq_true rfl) rfl ?_
    show Rn _ d _ _ 0 0 _ 113 [(0, (2, v0)), (1, (2, v1)), (2, (0, v2)), (3, (2, v3)), (4, (0, v4)), (5, (0, v5)), (6, (0, v6)), (7, (0, v7)), (8, (0, v8))] [(0, x110.1), (0, v8)] x110.2
    refine r_icmp_ge (pc := 113) (off := 53) (tgt := 166) (by decide +kernel) (by decide) (fun c113 => ?_) (fun c113 => ?_)
    · have h := ite_t c113 h
      refine r_lv [0, 1, 2, 3, 4, 5, 6, 7] rfl ?_
      exact hk  x110.2 h
    · have h := ite_f c113 h
      refine r_aload_n (pc := 116) 3 (n := 3) (by decide +kernel) rfl rfl ?_
      refine r_aload_n (pc := 117) 3 (n := 3) (by decide +kernel) rfl rfl ?_
      refine r_iload (pc := 118) 6 (by decide +kernel) rfl ?_
      refine r_iload (pc := 120) 7 (by decide +kernel) rfl ?_
      refine r_iload (pc := 122) 8 (by decide +kernel) rfl ?_
      obtain ⟨_, q124c, h⟩ := bnd h
      obtain ⟨x124, q124, h⟩ := bnd h
      refine r_callV (pc := 124) (i := 53) (d2 := d - 1) (As := [(0, v6), (0, v7), (0, v8)]) (st := [(2, v3)]) (st1 := [(0, v8), (0, v7), (0, v6), (2, v3), (2, v3)]) (by decide +kernel) yk_Machine_step (by decide) rfl ⟨ml_Net_53, vk_Machine_step⟩ np_Machine_step rfl (by omega) q124c (c_Machine_step (d := d - 1) (by omega) q124) (Nat.le_of_ble_eq_true rfl) (Nat.le_of_ble_eq_true rfl) (Nat.le_of_ble_eq_true rfl) rfl ?_
      show Rn _ d _ _ 0 0 _ 127 [(0, (2, v0)), (1, (2, v1)), (2, (0, v2)), (3, (2, v3)), (4, (0, v4)), (5, (0, v5)), (6, (0, v6)), (7, (0, v7)), (8, (0, v8))] [(0, x124.1), (2, v3)] x124.2
      obtain ⟨_, q127c, h⟩ := bnd h
      obtain ⟨x127, q127, h⟩ := bnd h
      refine r_callV (pc := 127) (i := 89) (d2 := d - 1) (As := [(0, x124.1)]) (st := []) (st1 := [(0, x124.1), (2, v3)]) (by decide +kernel) yk_Machine_finalBit (by decide) rfl ⟨ml_Net_89, vk_Machine_finalBit⟩ np_Machine_finalBit rfl (by omega) q127c (c_Machine_finalBit (d := d - 1) (by omega) q127) (Nat.le_of_ble_eq_true rfl) (Nat.le_of_ble_eq_true rfl) (Nat.le_of_ble_eq_true rfl) rfl ?_
      show Rn _ d _ _ 0 0 _ 130 [(0, (2, v0)), (1, (2, v1)), (2, (0, v2)), (3, (2, v3)), (4, (0, v4)), (5, (0, v5)), (6, (0, v6)), (7, (0, v7)), (8, (0, v8))] [(0, x127.1)] x127.2
      refine r_istore (pc := 130) (lv' := [(9, (0, x127.1)), (0, (2, v0)), (1, (2, v1)), (2, (0, v2)), (3, (2, v3)), (4, (0, v4)), (5, (0, v5)), (6, (0, v6)), (7, (0, v7)), (8, (0, v8))]) (by decide +kernel) (Nat.le_of_ble_eq_true rfl) rfl ?_
      refine r_aload_n (pc := 132) 1 (n := 0) (by decide +kernel) rfl rfl ?_
      refine r_iload (pc := 133) 7 (by decide +kernel) rfl ?_
      refine r_bipush (pc := 135) (z := 6) (by decide +kernel) ⟨by decide, by decide⟩ ?_
      refine r_iload (pc := 137) 8 (by decide +kernel) rfl ?_
      refine r_iadd (pc := 139) (by decide +kernel) ?_
      refine r_bipush (pc := 140) (z := 6) (by decide +kernel) ⟨by decide, by decide⟩ ?_
      refine r_iload (pc := 142) 9 (by decide +kernel) rfl ?_
      refine r_iadd (pc := 144) (by decide +kernel) ?_
      refine r_iload (pc := 145) 0 (by decide +kernel) rfl ?_
      refine r_iconst (pc := 147) (z := 1) (by decide +kernel) ⟨by decide, by decide⟩ ?_
      obtain ⟨t148, ht148, h⟩ := bnd h
      have E148_0 : Rn Y_Net_setGrafted d mc ms 0 0 (none, r) 157 [(0, (2, v0)), (1, (2, v1)), (2, (0, v2)), (3, (2, v3)), (4, (0, v4)), (5, (0, v5)), (6, (0, v6)), (7, (0, v7)), (8, (0, v8))] [(0, t148), (0, wr (6 + v8)), (0, wr (6 + v7)), (0, v6), (2, v0)] x127.2 := by
        obtain ⟨_, q157c, h⟩ := bnd h
        obtain ⟨x157, q157, h⟩ := bnd h
        refine r_callV (pc := 157) (i := 56) (d2 := d - 1) (As := [(0, v6), (0, wr (6 + v7)), (0, wr (6 + v8)), (0, t148)]) (st := []) (st1 := [(0, t148), (0, wr (6 + v8)), (0, wr (6 + v7)), (0, v6), (2, v0)]) (by decide +kernel) yk_Net_lead (by decide) rfl ⟨ml_Net_56, vk_Net_lead⟩ np_Net_lead rfl (by omega) q157c (c_Net_lead (d := d - 1) (by omega) q157) (Nat.le_of_ble_eq_true rfl) (Nat.le_of_ble_eq_true rfl) (Nat.le_of_ble_eq_true rfl) rfl ?_
        show Rn _ d _ _ 0 0 _ 160 [(0, (2, v0)), (1, (2, v1)), (2, (0, v2)), (3, (2, v3)), (4, (0, v4)), (5, (0, v5)), (6, (0, v6)), (7, (0, v7)), (8, (0, v8))] [] x157
        refine r_iinc (pc := 160) 8 (n := 1) (lv' := [(8, (0, wr (v8 + 1))), (0, (2, v0)), (1, (2, v1)), (2, (0, v2)), (3, (2, v3)), (4, (0, v4)), (5, (0, v5)), (6, (0, v6)), (7, (0, v7))]) (by decide +kernel) rfl (Nat.le_of_ble_eq_true rfl) rfl ?_
        refine r_goto (pc := 163) (off := (-64)) (tgt := 99) (by decide +kernel) (by decide) ?_
        refine r_lv [1, 2, 3, 4, 5, 6, 7, 8, 0] rfl ?_
        exact ih (wr (v8 + 1)) x157 h
      refine r_icmp_ne (pc := 148) (off := 8) (tgt := 156) (by decide +kernel) (by decide) (fun c148 => ?_) (fun c148 => ?_)
      · have ht148 := ite_f c148 ht148
        refine r_iconst (pc := 156) (z := 0) (by decide +kernel) ⟨by decide, by decide⟩ ?_
        obtain rfl := Option.some.inj ht148
        refine r_lv [1, 2, 3, 4, 5, 6, 7, 8, 9] rfl ?_
        exact E148_0
      · have ht148 := ite_t c148 ht148
        refine r_iload (pc := 151) 5 (by decide +kernel) rfl ?_
        refine r_goto (pc := 153) (off := 4) (tgt := 157) (by decide +kernel) (by decide) ?_
        obtain rfl := Option.some.inj ht148
        refine r_lv [1, 2, 3, 4, 5, 6, 7, 8, 9] rfl ?_
        exact E148_0
theorem sL_Net_setGrafted_79 {d mc ms : Nat} (hd : 5 ≤ d) {r : Mem} {k : Mem → Option (Mem)} {v0 : Int} {v1 : Int} {v2 : Int} {v3 : Int} {v4 : Int} {v5 : Int} {v6 : Int} (hk : ∀ (M : Mem), k M = some r → Rn Y_Net_setGrafted d mc ms 0 0 (none, r) 172 [(0, (2, v0)), (1, (2, v1)), (2, (0, v2)), (3, (2, v3)), (4, (0, v4)), (5, (0, v5)), (6, (0, v6))] [] M) : ∀ (n : Nat) (v7 : Int) (M : Mem), L_Net_setGrafted_79 k v0 v1 v2 v3 v4 v5 v6 n v7 M = some r → Rn Y_Net_setGrafted d mc ms 0 0 (none, r) 79 [(0, (2, v0)), (1, (2, v1)), (2, (0, v2)), (3, (2, v3)), (4, (0, v4)), (5, (0, v5)), (6, (0, v6)), (7, (0, v7))] [] M := by
  intro n
  induction n with
  | zero => intro _ _ h; cases h
  | succ n ih =>
    intro v7 M h
    rw [L_Net_setGrafted_79] at h
    refine r_iload (pc := 79) 7 (by decide +kernel) rfl ?_
    refine r_aload_n (pc := 81) 0 (n := 0) (by decide +kernel) rfl rfl ?_
    obtain ⟨g82, q82, h⟩ := bnd h
    refine r_get (pc := 82) (by decide +kernel) fl_Net_28.r (by decide) rfl q82 ?_
    refine r_iload (pc := 85) 6 (by decide +kernel) rfl ?_
    refine r_iconst (pc := 87) (z := 0) (by decide +kernel) ⟨by decide, by decide⟩ ?_
    refine r_iload (pc := 88) 5 (by decide +kernel) rfl ?_
    obtain ⟨_, q90c, h⟩ := bnd h
    obtain ⟨x90, q90, h⟩ := bnd h
    refine r_callV (pc := 90) (i := 49) (d2 := d - 1) (As := [(0, v6), (0, 0), (0, v5)]) (st := [(0, v7)]) (st1 := [(0, v5), (0, 0), (0, v6), (2, g82), (0, v7)]) (by decide +kernel) yk_Signs_choices (by decide) rfl ⟨ml_Net_49, vk_Signs_choices⟩ np_Signs_choices rfl (by omega) q90c (c_Signs_choices (d := d - 1) (by omega) q90) (Nat.le_of_ble_eq_true rfl) (Nat.le_of_ble_eq_true rfl) (Nat.le_of_ble_eq_true rfl) rfl ?_
    show Rn _ d _ _ 0 0 _ 93 [(0, (2, v0)), (1, (2, v1)), (2, (0, v2)), (3, (2, v3)), (4, (0, v4)), (5, (0, v5)), (6, (0, v6)), (7, (0, v7))] [(0, x90.1), (0, v7)] x90.2
    refine r_icmp_ge (pc := 93) (off := 79) (tgt := 172) (by decide +kernel) (by decide) (fun c93 => ?_) (fun c93 => ?_)
    · have h := ite_t c93 h
      refine r_lv [0, 1, 2, 3, 4, 5, 6] rfl ?_
      exact hk  x90.2 h
    · have h := ite_f c93 h
      refine r_iconst (pc := 96) (z := 0) (by decide +kernel) ⟨by decide, by decide⟩ ?_
      refine r_istore (pc := 97) (lv' := [(8, (0, 0)), (0, (2, v0)), (1, (2, v1)), (2, (0, v2)), (3, (2, v3)), (4, (0, v4)), (5, (0, v5)), (6, (0, v6)), (7, (0, v7))]) (by decide +kernel) (Nat.le_of_ble_eq_true rfl) rfl ?_
      refine r_lv [1, 2, 3, 4, 5, 6, 7, 8, 0] rfl ?_
      refine sL_Net_setGrafted_99 (by omega) ?_ _ _  _ h
      intro m99 h
      refine r_iinc (pc := 166) 7 (n := 1) (lv' := [(7, (0, wr (v7 + 1))), (0, (2, v0)), (1, (2, v1)), (2, (0, v2)), (3, (2, v3)), (4, (0, v4)), (5, (0, v5)), (6, (0, v6))]) (by decide +kernel) rfl (Nat.le_of_ble_eq_true rfl) rfl ?_
      refine r_goto (pc := 169) (off := (-90)) (tgt := 79) (by decide +kernel) (by decide) ?_
      refine r_lv [1, 2, 3, 4, 5, 6, 7, 0] rfl ?_
      exact ih (wr (v7 + 1)) m99 h
theorem sL_Net_setGrafted_37 {d mc ms : Nat} (hd : 5 ≤ d) {r : Mem} {k : Mem → Option (Mem)} {v0 : Int} {v1 : Int} {v2 : Int} {v3 : Int} {v4 : Int} {v5 : Int} (hk : ∀ (M : Mem), k M = some r → Rn Y_Net_setGrafted d mc ms 0 0 (none, r) 178 [] [] M) : ∀ (n : Nat) (v6 : Int) (M : Mem), L_Net_setGrafted_37 k v0 v1 v2 v3 v4 v5 n v6 M = some r → Rn Y_Net_setGrafted d mc ms 0 0 (none, r) 37 [(0, (2, v0)), (1, (2, v1)), (2, (0, v2)), (3, (2, v3)), (4, (0, v4)), (5, (0, v5)), (6, (0, v6))] [] M := by
  intro n
  induction n with
  | zero => intro _ _ h; cases h
  | succ n ih =>
    intro v6 M h
    rw [L_Net_setGrafted_37] at h
    refine r_iload (pc := 37) 6 (by decide +kernel) rfl ?_
    refine r_aload_n (pc := 39) 0 (n := 0) (by decide +kernel) rfl rfl ?_
    obtain ⟨g40, q40, h⟩ := bnd h
    refine r_get (pc := 40) (by decide +kernel) fl_Net_28.r (by decide) rfl q40 ?_
    obtain ⟨g43, q43, h⟩ := bnd h
    refine r_get (pc := 43) (by decide +kernel) fl_Net_70.r (by decide) rfl q43 ?_
    refine r_icmp_ge (pc := 46) (off := 132) (tgt := 178) (by decide +kernel) (by decide) (fun c46 => ?_) (fun c46 => ?_)
    · have h := ite_t c46 h
      refine r_lv [] rfl ?_
      exact hk  M h
    · have h := ite_f c46 h
      refine r_aload_n (pc := 49) 0 (n := 0) (by decide +kernel) rfl rfl ?_
      refine r_aload_n (pc := 50) 3 (n := 3) (by decide +kernel) rfl rfl ?_
      refine r_bipush (pc := 51) (z := 6) (by decide +kernel) ⟨by decide, by decide⟩ ?_
      refine r_iload (pc := 53) 6 (by decide +kernel) rfl ?_
      refine r_iload (pc := 55) 6 (by decide +kernel) rfl ?_
      obtain ⟨_, q57c, h⟩ := bnd h
      obtain ⟨x57, q57, h⟩ := bnd h
      refine r_callV (pc := 57) (i := 76) (d2 := d - 1) (As := [(2, v3), (0, 6), (0, v6), (0, v6)]) (st := []) (st1 := [(0, v6), (0, v6), (0, 6), (2, v3), (2, v0)]) (by decide +kernel) yk_Net_enter (by decide) rfl ⟨ml_Net_76, vk_Net_enter⟩ np_Net_enter rfl (by omega) q57c (c_Net_enter (d := d - 1) (by omega) q57) (Nat.le_of_ble_eq_true rfl) (Nat.le_of_ble_eq_true rfl) (Nat.le_of_ble_eq_true rfl) rfl ?_
      show Rn _ d _ _ 0 0 _ 60 [(0, (2, v0)), (1, (2, v1)), (2, (0, v2)), (3, (2, v3)), (4, (0, v4)), (5, (0, v5)), (6, (0, v6))] [] x57
      refine r_iload (pc := 60) 6 (by decide +kernel) rfl ?_
      refine r_iload_n (pc := 62) 2 (n := 2) (by decide +kernel) rfl rfl ?_
      obtain ⟨t63, ht63, h⟩ := bnd h
      have E63_0 : Rn Y_Net_setGrafted d mc ms 0 0 (none, r) 76 [(0, (2, v0)), (1, (2, v1)), (2, (0, v2)), (3, (2, v3)), (4, (0, v4)), (5, (0, v5)), (6, (0, v6))] [] t63 := by
        refine r_iconst (pc := 76) (z := 0) (by decide +kernel) ⟨by decide, by decide⟩ ?_
        refine r_istore (pc := 77) (lv' := [(7, (0, 0)), (0, (2, v0)), (1, (2, v1)), (2, (0, v2)), (3, (2, v3)), (4, (0, v4)), (5, (0, v5)), (6, (0, v6))]) (by decide +kernel) (Nat.le_of_ble_eq_true rfl) rfl ?_
        refine r_lv [1, 2, 3, 4, 5, 6, 7, 0] rfl ?_
        refine sL_Net_setGrafted_79 (by omega) ?_ _ _  _ h
        intro m79 h
        refine r_iinc (pc := 172) 6 (n := 1) (lv' := [(6, (0, wr (v6 + 1))), (0, (2, v0)), (1, (2, v1)), (2, (0, v2)), (3, (2, v3)), (4, (0, v4)), (5, (0, v5))]) (by decide +kernel) rfl (Nat.le_of_ble_eq_true rfl) rfl ?_
        refine r_goto (pc := 175) (off := (-138)) (tgt := 37) (by decide +kernel) (by decide) ?_
        refine r_lv [1, 2, 3, 4, 5, 6, 0] rfl ?_
        exact ih (wr (v6 + 1)) m79 h
      refine r_icmp_eq (pc := 63) (off := 13) (tgt := 76) (by decide +kernel) (by decide) (fun c63 => ?_) (fun c63 => ?_)
      · have ht63 := ite_t c63 ht63
        obtain rfl := Option.some.inj ht63
        exact E63_0
      · have ht63 := ite_f c63 ht63
        refine r_aload_n (pc := 66) 0 (n := 0) (by decide +kernel) rfl rfl ?_
        refine r_aload_n (pc := 67) 1 (n := 1) (by decide +kernel) rfl rfl ?_
        refine r_iconst (pc := 68) (z := 0) (by decide +kernel) ⟨by decide, by decide⟩ ?_
        refine r_iload (pc := 69) 6 (by decide +kernel) rfl ?_
        refine r_iload (pc := 71) 6 (by decide +kernel) rfl ?_
        obtain ⟨_, q73c, ht63⟩ := bnd ht63
        obtain ⟨x73, q73, ht63⟩ := bnd ht63
        refine r_callV (pc := 73) (i := 76) (d2 := d - 1) (As := [(2, v1), (0, 0), (0, v6), (0, v6)]) (st := []) (st1 := [(0, v6), (0, v6), (0, 0), (2, v1), (2, v0)]) (by decide +kernel) yk_Net_enter (by decide) rfl ⟨ml_Net_76, vk_Net_enter⟩ np_Net_enter rfl (by omega) q73c (c_Net_enter (d := d - 1) (by omega) q73) (Nat.le_of_ble_eq_true rfl) (Nat.le_of_ble_eq_true rfl) (Nat.le_of_ble_eq_true rfl) rfl ?_
        show Rn _ d _ _ 0 0 _ 76 [(0, (2, v0)), (1, (2, v1)), (2, (0, v2)), (3, (2, v3)), (4, (0, v4)), (5, (0, v5)), (6, (0, v6))] [] x73
        obtain rfl := Option.some.inj ht63
        exact E63_0
theorem c_Net_setGrafted {d : Nat} (hd : 5 ≤ d) {a0 a1 a2 a3 : Int} {M : Mem} {x : Mem} (h : D_Net_setGrafted a0 a1 a2 a3 M = some x) : Ct d Y_Net_setGrafted [(2, a0), (2, a1), (0, a2), (2, a3)] M (none, x) 0 0 := by
  refine ct_of yk_Net_setGrafted (Nat.le_of_ble_eq_true rfl) ?_
  rw [D_Net_setGrafted] at h
  show Rn Y_Net_setGrafted d 0 0 0 0 (none, x) 0 [(0, (2, a0)), (1, (2, a1)), (2, (0, a2)), (3, (2, a3))] [] M
  refine r_aload_n (pc := 0) 0 (n := 0) (by decide +kernel) rfl rfl ?_
  refine r_bipush (pc := 1) (z := 6) (by decide +kernel) ⟨by decide, by decide⟩ ?_
  refine r_aload_n (pc := 3) 3 (n := 3) (by decide +kernel) rfl rfl ?_
  obtain ⟨g4, q4, h⟩ := bnd h
  refine r_get (pc := 4) (by decide +kernel) fl_Net_44.r (by decide) rfl q4 ?_
  refine r_iadd (pc := 7) (by decide +kernel) ?_
  refine r_aload_n (pc := 8) 1 (n := 1) (by decide +kernel) rfl rfl ?_
  obtain ⟨g9, q9, h⟩ := bnd h
  refine r_get (pc := 9) (by decide +kernel) fl_Net_80.r (by decide) rfl q9 ?_
  refine r_bipush (pc := 12) (z := 10) (by decide +kernel) ⟨by decide, by decide⟩ ?_
  obtain ⟨_, q14c, h⟩ := bnd h
  obtain ⟨x14, q14, h⟩ := bnd h
  refine r_callV (pc := 14) (i := 66) (d2 := d - 1) (As := [(0, wr (6 + g4)), (0, g9), (0, 10)]) (st := []) (st1 := [(0, 10), (0, g9), (0, wr (6 + g4)), (2, a0)]) (by decide +kernel) yk_Net_begin (by decide) rfl ⟨ml_Net_66, vk_Net_begin⟩ np_Net_begin rfl (by omega) q14c (c_Net_begin (d := d - 1) (by omega) q14) (Nat.le_of_ble_eq_true rfl) (Nat.le_of_ble_eq_true rfl) (Nat.le_of_ble_eq_true rfl) rfl ?_
  show Rn _ d _ _ 0 0 _ 17 [(0, (2, a0)), (1, (2, a1)), (2, (0, a2)), (3, (2, a3))] [] x14
  refine r_iconst (pc := 17) (z := 1) (by decide +kernel) ⟨by decide, by decide⟩ ?_
  refine r_aload_n (pc := 18) 1 (n := 1) (by decide +kernel) rfl rfl ?_
  refine r_iload_n (pc := 19) 2 (n := 2) (by decide +kernel) rfl rfl ?_
  refine r_iconst (pc := 20) (z := 0) (by decide +kernel) ⟨by decide, by decide⟩ ?_
  refine r_iconst (pc := 21) (z := 0) (by decide +kernel) ⟨by decide, by decide⟩ ?_
  obtain ⟨_, q22c, h⟩ := bnd h
  obtain ⟨x22, q22, h⟩ := bnd h
  refine r_callV (pc := 22) (i := 53) (d2 := d - 1) (As := [(0, a2), (0, 0), (0, 0)]) (st := [(0, 1)]) (st1 := [(0, 0), (0, 0), (0, a2), (2, a1), (0, 1)]) (by decide +kernel) yk_Machine_step (by decide) rfl ⟨ml_Net_53, vk_Machine_step⟩ np_Machine_step rfl (by omega) q22c (c_Machine_step (d := d - 1) (by omega) q22) (Nat.le_of_ble_eq_true rfl) (Nat.le_of_ble_eq_true rfl) (Nat.le_of_ble_eq_true rfl) rfl ?_
  show Rn _ d _ _ 0 0 _ 25 [(0, (2, a0)), (1, (2, a1)), (2, (0, a2)), (3, (2, a3))] [(0, x22.1), (0, 1)] x22.2
  refine r_ishl (pc := 25) (by decide +kernel) ?_
  obtain ⟨u4_26, q26, h⟩ := lt_o h
  refine r_eq q26 ?_
  refine r_istore (pc := 26) (lv' := [(4, (0, u4_26)), (0, (2, a0)), (1, (2, a1)), (2, (0, a2)), (3, (2, a3))]) (by decide +kernel) (Nat.le_of_ble_eq_true rfl) rfl ?_
  refine r_aload_n (pc := 28) 4 (n := 3) (by decide +kernel) rfl rfl ?_
  obtain ⟨g29, q29, h⟩ := bnd h
  refine r_get (pc := 29) (by decide +kernel) fl_Net_44.r (by decide) rfl q29 ?_
  refine r_istore (pc := 32) (lv' := [(5, (0, g29)), (4, (0, u4_26)), (0, (2, a0)), (1, (2, a1)), (2, (0, a2)), (3, (2, a3))]) (by decide +kernel) (Nat.le_of_ble_eq_true rfl) rfl ?_
  refine r_iconst (pc := 34) (z := 0) (by decide +kernel) ⟨by decide, by decide⟩ ?_
  refine r_istore (pc := 35) (lv' := [(6, (0, 0)), (5, (0, g29)), (4, (0, u4_26)), (0, (2, a0)), (1, (2, a1)), (2, (0, a2)), (3, (2, a3))]) (by decide +kernel) (Nat.le_of_ble_eq_true rfl) rfl ?_
  refine r_lv [3, 4, 5, 6, 2, 1, 0] rfl ?_
  refine sL_Net_setGrafted_37 (by omega) ?_ _ _  _ h
  intro m37 h
  obtain rfl := Option.some.inj h
  exact r_ret (pc := 178) (r := none) (by decide +kernel) rfl trivial (Nat.le_of_ble_eq_true rfl) (Nat.le_of_ble_eq_true rfl)

/-! TreeTongues.grafted(III)I -/
noncomputable def D_T_grafted (a0 a1 a2 a3 : Int) (M : Mem) : Option (Int × Mem) := (ck M a0 8 8).bind fun _ => (D_T_find a0 a1 M).bind fun x2 => (ck x2.2 a0 8 8).bind fun _ => (D_T_find a0 a3 x2.2).bind fun x9 => if x2.1 < 0 then (some ((-2), x9.2)) else (if x9.1 < 0 then (some ((-2), x9.2)) else ((gf x9.2 a0 8 8 0).bind fun g25 => (ck x9.2 g25 5 3).bind fun _ => (D_Signs_knows g25 a2 x9.2).bind fun x29 => if x29.1 = 0 then (some ((-2), x29.2)) else ((gf x29.2 a0 8 8 0).bind fun g36 => (ck x29.2 g36 5 3).bind fun _ => (D_Signs_rankOf g36 a2 x29.2).bind fun x40 => if x40.1 = 0 then ((gf x40.2 a0 8 8 7).bind fun g50 => if g50 < 16 then ((ck x40.2 a0 8 8).bind fun _ => (D_T_isLarge a0 x2.1 x40.2).bind fun x64 => if x64.1 = 0 then ((ck x64.2 a0 8 8).bind fun _ => (D_T_isLarge a0 x9.1 x64.2).bind fun x73 => if x73.1 = 0 then ((gf x73.2 a0 8 8 3).bind fun g83 => (gf x73.2 x2.1 7 8 1).bind fun g88 => (gf x73.2 x9.1 7 8 1).bind fun g94 => (ck x73.2 g83 2 6).bind fun _ => (D_Net_setGrafted g83 g88 a2 g94 x73.2).bind fun x97 => (ck x97 a0 8 8).bind fun _ => (D_T_keep a0 x97).bind fun x101 => some (x101.1, x101.2)) else (some ((-5), x73.2))) else (some ((-5), x64.2))) else (some ((-4), x40.2))) else (some ((-2), x40.2)))))
theorem c_T_grafted {d : Nat} (hd : 8 ≤ d) {a0 a1 a2 a3 : Int} {M : Mem} {x : Int × Mem} (h : D_T_grafted a0 a1 a2 a3 M = some x) : Ct d Y_T_grafted [(2, a0), (0, a1), (0, a2), (0, a3)] M (some (0, x.1), x.2) 12 676 := by
  refine ct_of yk_T_grafted (Nat.le_of_ble_eq_true rfl) ?_
  rw [D_T_grafted] at h
  show Rn Y_T_grafted d 12 676 0 0 (some (0, x.1), x.2) 0 [(0, (2, a0)), (1, (0, a1)), (2, (0, a2)), (3, (0, a3))] [] M
  refine r_aload_n (pc := 0) 0 (n := 0) (by decide +kernel) rfl rfl ?_
  refine r_iload_n (pc := 1) 1 (n := 1) (by decide +kernel) rfl rfl ?_
  obtain ⟨_, q2c, h⟩ := bnd h
  obtain ⟨x2, q2, h⟩ := bnd h
  refine r_callV (pc := 2) (i := 98) (d2 := d - 1) (As := [(0, a1)]) (st := []) (st1 := [(0, a1), (2, a0)]) (by decide +kernel) yk_T_find (by decide) rfl ⟨ml_T_98, vk_T_find⟩ np_T_find rfl (by omega) q2c (c_T_find (d := d - 1) (by omega) q2) (Nat.le_of_ble_eq_true rfl) (Nat.le_of_ble_eq_true rfl) (Nat.le_of_ble_eq_true rfl) rfl ?_
  show Rn _ d _ _ 0 0 _ 5 [(0, (2, a0)), (1, (0, a1)), (2, (0, a2)), (3, (0, a3))] [(2, x2.1)] x2.2
  refine r_astore (pc := 5) (lv' := [(4, (2, x2.1)), (0, (2, a0)), (1, (0, a1)), (2, (0, a2)), (3, (0, a3))]) (by decide +kernel) (Nat.le_of_ble_eq_true rfl) rfl ?_
  refine r_aload_n (pc := 7) 1 (n := 0) (by decide +kernel) rfl rfl ?_
  refine r_iload_n (pc := 8) 4 (n := 3) (by decide +kernel) rfl rfl ?_
  obtain ⟨_, q9c, h⟩ := bnd h
  obtain ⟨x9, q9, h⟩ := bnd h
  refine r_callV (pc := 9) (i := 98) (d2 := d - 1) (As := [(0, a3)]) (st := []) (st1 := [(0, a3), (2, a0)]) (by decide +kernel) yk_T_find (by decide) rfl ⟨ml_T_98, vk_T_find⟩ np_T_find rfl (by omega) q9c (c_T_find (d := d - 1) (by omega) q9) (Nat.le_of_ble_eq_true rfl) (Nat.le_of_ble_eq_true rfl) (Nat.le_of_ble_eq_true rfl) rfl ?_
  show Rn _ d _ _ 0 0 _ 12 [(4, (2, x2.1)), (0, (2, a0)), (1, (0, a1)), (2, (0, a2)), (3, (0, a3))] [(2, x9.1)] x9.2
  refine r_astore (pc := 12) (lv' := [(5, (2, x9.1)), (4, (2, x2.1)), (0, (2, a0)), (1, (0, a1)), (2, (0, a2)), (3, (0, a3))]) (by decide +kernel) (Nat.le_of_ble_eq_true rfl) rfl ?_
  refine r_aload (pc := 14) 1 (by decide +kernel) rfl ?_
  refine r_ifnull (pc := 16) (off := 30) (tgt := 46) (by decide +kernel) (by decide) (fun c16 => ?_) (fun c16 => ?_)
  · have h := ite_t c16 h
    refine r_bipush (pc := 46) (z := (-2)) (by decide +kernel) ⟨by decide, by decide⟩ ?_
    obtain rfl := Option.some.inj h
    exact r_ret (pc := 48) (r := some (0, (-2))) (by decide +kernel) rfl trivial (Nat.le_of_ble_eq_true rfl) (Nat.le_of_ble_eq_true rfl)
  · have h := ite_f c16 h
    refine r_aload (pc := 19) 0 (by decide +kernel) rfl ?_
    refine r_ifnull (pc := 21) (off := 25) (tgt := 46) (by decide +kernel) (by decide) (fun c21 => ?_) (fun c21 => ?_)
    · have h := ite_t c21 h
      refine r_bipush (pc := 46) (z := (-2)) (by decide +kernel) ⟨by decide, by decide⟩ ?_
      obtain rfl := Option.some.inj h
      exact r_ret (pc := 48) (r := some (0, (-2))) (by decide +kernel) rfl trivial (Nat.le_of_ble_eq_true rfl) (Nat.le_of_ble_eq_true rfl)
    · have h := ite_f c21 h
      refine r_aload_n (pc := 24) 2 (n := 0) (by decide +kernel) rfl rfl ?_
      obtain ⟨g25, q25, h⟩ := bnd h
      refine r_get (pc := 25) (by decide +kernel) fl_T_12.r (by decide) rfl q25 ?_
      refine r_iload_n (pc := 28) 4 (n := 2) (by decide +kernel) rfl rfl ?_
      obtain ⟨_, q29c, h⟩ := bnd h
      obtain ⟨x29, q29, h⟩ := bnd h
      refine r_callV (pc := 29) (i := 74) (d2 := d - 1) (As := [(0, a2)]) (st := []) (st1 := [(0, a2), (2, g25)]) (by decide +kernel) yk_Signs_knows (by decide) rfl ⟨ml_T_74, vk_Signs_knows⟩ np_Signs_knows rfl (by omega) q29c (c_Signs_knows (d := d - 1) (by omega) q29) (Nat.le_of_ble_eq_true rfl) (Nat.le_of_ble_eq_true rfl) (Nat.le_of_ble_eq_true rfl) rfl ?_
      show Rn _ d _ _ 0 0 _ 32 [(5, (2, x9.1)), (4, (2, x2.1)), (0, (2, a0)), (1, (0, a1)), (2, (0, a2)), (3, (0, a3))] [(0, x29.1)] x29.2
      refine r_if_eq (pc := 32) (off := 14) (tgt := 46) (by decide +kernel) (by decide) (fun c32 => ?_) (fun c32 => ?_)
      · have h := ite_t c32 h
        refine r_bipush (pc := 46) (z := (-2)) (by decide +kernel) ⟨by decide, by decide⟩ ?_
        obtain rfl := Option.some.inj h
        exact r_ret (pc := 48) (r := some (0, (-2))) (by decide +kernel) rfl trivial (Nat.le_of_ble_eq_true rfl) (Nat.le_of_ble_eq_true rfl)
      · have h := ite_f c32 h
        refine r_aload_n (pc := 35) 2 (n := 0) (by decide +kernel) rfl rfl ?_
        obtain ⟨g36, q36, h⟩ := bnd h
        refine r_get (pc := 36) (by decide +kernel) fl_T_12.r (by decide) rfl q36 ?_
        refine r_iload_n (pc := 39) 4 (n := 2) (by decide +kernel) rfl rfl ?_
        obtain ⟨_, q40c, h⟩ := bnd h
        obtain ⟨x40, q40, h⟩ := bnd h
        refine r_callV (pc := 40) (i := 78) (d2 := d - 1) (As := [(0, a2)]) (st := []) (st1 := [(0, a2), (2, g36)]) (by decide +kernel) yk_Signs_rankOf (by decide) rfl ⟨ml_T_78, vk_Signs_rankOf⟩ np_Signs_rankOf rfl (by omega) q40c (c_Signs_rankOf (d := d - 1) (by omega) q40) (Nat.le_of_ble_eq_true rfl) (Nat.le_of_ble_eq_true rfl) (Nat.le_of_ble_eq_true rfl) rfl ?_
        show Rn _ d _ _ 0 0 _ 43 [(5, (2, x9.1)), (4, (2, x2.1)), (0, (2, a0)), (1, (0, a1)), (2, (0, a2)), (3, (0, a3))] [(0, x40.1)] x40.2
        refine r_if_eq (pc := 43) (off := 6) (tgt := 49) (by decide +kernel) (by decide) (fun c43 => ?_) (fun c43 => ?_)
        · have h := ite_t c43 h
          refine r_aload_n (pc := 49) 2 (n := 0) (by decide +kernel) rfl rfl ?_
          obtain ⟨g50, q50, h⟩ := bnd h
          refine r_get (pc := 50) (by decide +kernel) fl_T_63.r (by decide) rfl q50 ?_
          refine r_bipush (pc := 53) (z := 16) (by decide +kernel) ⟨by decide, by decide⟩ ?_
          refine r_icmp_lt (pc := 55) (off := 6) (tgt := 61) (by decide +kernel) (by decide) (fun c55 => ?_) (fun c55 => ?_)
          · have h := ite_t c55 h
            refine r_aload_n (pc := 61) 2 (n := 0) (by decide +kernel) rfl rfl ?_
            refine r_aload (pc := 62) 1 (by decide +kernel) rfl ?_
            obtain ⟨_, q64c, h⟩ := bnd h
            obtain ⟨x64, q64, h⟩ := bnd h
            refine r_callV (pc := 64) (i := 122) (d2 := d - 1) (As := [(2, x2.1)]) (st := []) (st1 := [(2, x2.1), (2, a0)]) (by decide +kernel) yk_T_isLarge (by decide) rfl ⟨ml_T_122, vk_T_isLarge⟩ np_T_isLarge rfl (by omega) q64c (c_T_isLarge (d := d - 1) (by omega) q64) (Nat.le_of_ble_eq_true rfl) (Nat.le_of_ble_eq_true rfl) (Nat.le_of_ble_eq_true rfl) rfl ?_
            show Rn _ d _ _ 0 0 _ 67 [(5, (2, x9.1)), (4, (2, x2.1)), (0, (2, a0)), (1, (0, a1)), (2, (0, a2)), (3, (0, a3))] [(0, x64.1)] x64.2
            refine r_if_ne (pc := 67) (off := 12) (tgt := 79) (by decide +kernel) (by decide) (fun c67 => ?_) (fun c67 => ?_)
            · have h := ite_f c67 h
              refine r_bipush (pc := 79) (z := (-5)) (by decide +kernel) ⟨by decide, by decide⟩ ?_
              obtain rfl := Option.some.inj h
              exact r_ret (pc := 81) (r := some (0, (-5))) (by decide +kernel) rfl trivial (Nat.le_of_ble_eq_true rfl) (Nat.le_of_ble_eq_true rfl)
            · have h := ite_t c67 h
              refine r_aload_n (pc := 70) 2 (n := 0) (by decide +kernel) rfl rfl ?_
              refine r_aload (pc := 71) 0 (by decide +kernel) rfl ?_
              obtain ⟨_, q73c, h⟩ := bnd h
              obtain ⟨x73, q73, h⟩ := bnd h
              refine r_callV (pc := 73) (i := 122) (d2 := d - 1) (As := [(2, x9.1)]) (st := []) (st1 := [(2, x9.1), (2, a0)]) (by decide +kernel) yk_T_isLarge (by decide) rfl ⟨ml_T_122, vk_T_isLarge⟩ np_T_isLarge rfl (by omega) q73c (c_T_isLarge (d := d - 1) (by omega) q73) (Nat.le_of_ble_eq_true rfl) (Nat.le_of_ble_eq_true rfl) (Nat.le_of_ble_eq_true rfl) rfl ?_
              show Rn _ d _ _ 0 0 _ 76 [(5, (2, x9.1)), (4, (2, x2.1)), (0, (2, a0)), (1, (0, a1)), (2, (0, a2)), (3, (0, a3))] [(0, x73.1)] x73.2
              refine r_if_eq (pc := 76) (off := 6) (tgt := 82) (by decide +kernel) (by decide) (fun c76 => ?_) (fun c76 => ?_)
              · have h := ite_t c76 h
                refine r_aload_n (pc := 82) 2 (n := 0) (by decide +kernel) rfl rfl ?_
                obtain ⟨g83, q83, h⟩ := bnd h
                refine r_get (pc := 83) (by decide +kernel) fl_T_34.r (by decide) rfl q83 ?_
                refine r_aload (pc := 86) 1 (by decide +kernel) rfl ?_
                obtain ⟨g88, q88, h⟩ := bnd h
                refine r_get (pc := 88) (by decide +kernel) fl_T_126 (by decide) rfl q88 ?_
                refine r_iload_n (pc := 91) 4 (n := 2) (by decide +kernel) rfl rfl ?_
                refine r_aload (pc := 92) 0 (by decide +kernel) rfl ?_
                obtain ⟨g94, q94, h⟩ := bnd h
                refine r_get (pc := 94) (by decide +kernel) fl_T_126 (by decide) rfl q94 ?_
                obtain ⟨_, q97c, h⟩ := bnd h
                obtain ⟨x97, q97, h⟩ := bnd h
                refine r_callV (pc := 97) (i := 161) (d2 := d - 1) (As := [(2, g88), (0, a2), (2, g94)]) (st := []) (st1 := [(2, g94), (0, a2), (2, g88), (2, g83)]) (by decide +kernel) yk_Net_setGrafted (by decide) rfl ⟨ml_T_161, vk_Net_setGrafted⟩ np_Net_setGrafted rfl (by omega) q97c (c_Net_setGrafted (d := d - 1) (by omega) q97) (Nat.le_of_ble_eq_true rfl) (Nat.le_of_ble_eq_true rfl) (Nat.le_of_ble_eq_true rfl) rfl ?_
                show Rn _ d _ _ 0 0 _ 100 [(5, (2, x9.1)), (4, (2, x2.1)), (0, (2, a0)), (1, (0, a1)), (2, (0, a2)), (3, (0, a3))] [] x97
                refine r_aload_n (pc := 100) 2 (n := 0) (by decide +kernel) rfl rfl ?_
                obtain ⟨_, q101c, h⟩ := bnd h
                obtain ⟨x101, q101, h⟩ := bnd h
                refine r_callV (pc := 101) (i := 133) (d2 := d - 1) (As := []) (st := []) (st1 := [(2, a0)]) (by decide +kernel) yk_T_keep (by decide) rfl ⟨ml_T_133, vk_T_keep⟩ np_T_keep rfl (by omega) q101c (c_T_keep (d := d - 1) (by omega) q101) (Nat.le_of_ble_eq_true rfl) (Nat.le_of_ble_eq_true rfl) (Nat.le_of_ble_eq_true rfl) rfl ?_
                show Rn _ d _ _ 12 676 _ 104 [(5, (2, x9.1)), (4, (2, x2.1)), (0, (2, a0)), (1, (0, a1)), (2, (0, a2)), (3, (0, a3))] [(0, x101.1)] x101.2
                obtain rfl := Option.some.inj h
                exact r_ret (pc := 104) (r := some (0, x101.1)) (by decide +kernel) rfl trivial (Nat.le_of_ble_eq_true rfl) (Nat.le_of_ble_eq_true rfl)
              · have h := ite_f c76 h
                refine r_bipush (pc := 79) (z := (-5)) (by decide +kernel) ⟨by decide, by decide⟩ ?_
                obtain rfl := Option.some.inj h
                exact r_ret (pc := 81) (r := some (0, (-5))) (by decide +kernel) rfl trivial (Nat.le_of_ble_eq_true rfl) (Nat.le_of_ble_eq_true rfl)
          · have h := ite_f c55 h
            refine r_bipush (pc := 58) (z := (-4)) (by decide +kernel) ⟨by decide, by decide⟩ ?_
            obtain rfl := Option.some.inj h
            exact r_ret (pc := 60) (r := some (0, (-4))) (by decide +kernel) rfl trivial (Nat.le_of_ble_eq_true rfl) (Nat.le_of_ble_eq_true rfl)
        · have h := ite_f c43 h
          refine r_bipush (pc := 46) (z := (-2)) (by decide +kernel) ⟨by decide, by decide⟩ ?_
          obtain rfl := Option.some.inj h
          exact r_ret (pc := 48) (r := some (0, (-2))) (by decide +kernel) rfl trivial (Nat.le_of_ble_eq_true rfl) (Nat.le_of_ble_eq_true rfl)

/-! TreeTongues.undo()I -/
noncomputable def D_T_undo (a0 : Int) (M : Mem) : Option (Int × Mem) := (gf M a0 8 8 7).bind fun g1 => if 0 < g1 then ((gf M a0 8 8 7).bind fun g12 => (pf M a0 8 8 7 (wr (g12 - 1))).bind fun m17 => (gf m17 a0 8 8 7).bind fun g21 => some (g21, m17)) else (some ((-3), M))
theorem c_T_undo {d : Nat} (hd : 1 ≤ d) {a0 : Int} {M : Mem} {x : Int × Mem} (h : D_T_undo a0 M = some x) : Ct d Y_T_undo [(2, a0)] M (some (0, x.1), x.2) 0 0 := by
  refine ct_of yk_T_undo (Nat.le_of_ble_eq_true rfl) ?_
  rw [D_T_undo] at h
  show Rn Y_T_undo d 0 0 0 0 (some (0, x.1), x.2) 0 [(0, (2, a0))] [] M
  refine r_aload_n (pc := 0) 0 (n := 0) (by decide +kernel) rfl rfl ?_
  obtain ⟨g1, q1, h⟩ := bnd h
  refine r_get (pc := 1) (by decide +kernel) fl_T_63.r (by decide) rfl q1 ?_
  refine r_if_gt (pc := 4) (off := 6) (tgt := 10) (by decide +kernel) (by decide) (fun c4 => ?_) (fun c4 => ?_)
  · have h := ite_t c4 h
    refine r_aload_n (pc := 10) 0 (n := 0) (by decide +kernel) rfl rfl ?_
    refine r_dup (pc := 11) (by decide +kernel) rfl ?_
    obtain ⟨g12, q12, h⟩ := bnd h
    refine r_get (pc := 12) (by decide +kernel) fl_T_63.r (by decide) rfl q12 ?_
    refine r_iconst (pc := 15) (z := 1) (by decide +kernel) ⟨by decide, by decide⟩ ?_
    refine r_isub (pc := 16) (by decide +kernel) ?_
    obtain ⟨m17, q17, h⟩ := bnd h
    refine r_put (pc := 17) (by decide +kernel) fl_T_63 (by decide) (Or.inr nf_8_7) rfl (fun h3 => by cases h3) q17 ?_
    refine r_aload_n (pc := 20) 0 (n := 0) (by decide +kernel) rfl rfl ?_
    obtain ⟨g21, q21, h⟩ := bnd h
    refine r_get (pc := 21) (by decide +kernel) fl_T_63.r (by decide) rfl q21 ?_
    obtain rfl := Option.some.inj h
    exact r_ret (pc := 24) (r := some (0, g21)) (by decide +kernel) rfl trivial (Nat.le_of_ble_eq_true rfl) (Nat.le_of_ble_eq_true rfl)
  · have h := ite_f c4 h
    refine r_bipush (pc := 7) (z := (-3)) (by decide +kernel) ⟨by decide, by decide⟩ ?_
    obtain rfl := Option.some.inj h
    exact r_ret (pc := 9) (r := some (0, (-3))) (by decide +kernel) rfl trivial (Nat.le_of_ble_eq_true rfl) (Nat.le_of_ble_eq_true rfl)

/-! TreeTongues.classes(I)I -/
noncomputable def D_T_classes (a0 a1 : Int) (M : Mem) : Option (Int × Mem) := (ck M a0 8 8).bind fun _ => (D_T_find a0 a1 M).bind fun x2 => if x2.1 < 0 then (some ((-2), x2.2)) else ((ck x2.2 a0 8 8).bind fun _ => (D_T_isLarge a0 x2.1 x2.2).bind fun x15 => if x15.1 = 0 then ((gf x15.2 x2.1 7 8 1).bind fun g27 => (gf x15.2 g27 1 14 10).bind fun g30 => some (g30, x15.2)) else (some ((-5), x15.2)))
theorem c_T_classes {d : Nat} (hd : 8 ≤ d) {a0 a1 : Int} {M : Mem} {x : Int × Mem} (h : D_T_classes a0 a1 M = some x) : Ct d Y_T_classes [(2, a0), (0, a1)] M (some (0, x.1), x.2) 0 0 := by
  refine ct_of yk_T_classes (Nat.le_of_ble_eq_true rfl) ?_
  rw [D_T_classes] at h
  show Rn Y_T_classes d 0 0 0 0 (some (0, x.1), x.2) 0 [(0, (2, a0)), (1, (0, a1))] [] M
  refine r_aload_n (pc := 0) 0 (n := 0) (by decide +kernel) rfl rfl ?_
  refine r_iload_n (pc := 1) 1 (n := 1) (by decide +kernel) rfl rfl ?_
  obtain ⟨_, q2c, h⟩ := bnd h
  obtain ⟨x2, q2, h⟩ := bnd h
  refine r_callV (pc := 2) (i := 98) (d2 := d - 1) (As := [(0, a1)]) (st := []) (st1 := [(0, a1), (2, a0)]) (by decide +kernel) yk_T_find (by decide) rfl ⟨ml_T_98, vk_T_find⟩ np_T_find rfl (by omega) q2c (c_T_find (d := d - 1) (by omega) q2) (Nat.le_of_ble_eq_true rfl) (Nat.le_of_ble_eq_true rfl) (Nat.le_of_ble_eq_true rfl) rfl ?_
  show Rn _ d _ _ 0 0 _ 5 [(0, (2, a0)), (1, (0, a1))] [(2, x2.1)] x2.2
  refine r_astore_n (pc := 5) (n := 2) (lv' := [(2, (2, x2.1)), (0, (2, a0)), (1, (0, a1))]) (by decide +kernel) rfl (Nat.le_of_ble_eq_true rfl) rfl ?_
  refine r_aload_n (pc := 6) 0 (n := 2) (by decide +kernel) rfl rfl ?_
  refine r_ifnonnull (pc := 7) (off := 6) (tgt := 13) (by decide +kernel) (by decide) (fun c7 => ?_) (fun c7 => ?_)
  · have h := ite_f c7 h
    refine r_aload_n (pc := 13) 1 (n := 0) (by decide +kernel) rfl rfl ?_
    refine r_aload_n (pc := 14) 0 (n := 2) (by decide +kernel) rfl rfl ?_
    obtain ⟨_, q15c, h⟩ := bnd h
    obtain ⟨x15, q15, h⟩ := bnd h
    refine r_callV (pc := 15) (i := 122) (d2 := d - 1) (As := [(2, x2.1)]) (st := []) (st1 := [(2, x2.1), (2, a0)]) (by decide +kernel) yk_T_isLarge (by decide) rfl ⟨ml_T_122, vk_T_isLarge⟩ np_T_isLarge rfl (by omega) q15c (c_T_isLarge (d := d - 1) (by omega) q15) (Nat.le_of_ble_eq_true rfl) (Nat.le_of_ble_eq_true rfl) (Nat.le_of_ble_eq_true rfl) rfl ?_
    show Rn _ d _ _ 0 0 _ 18 [(2, (2, x2.1)), (0, (2, a0)), (1, (0, a1))] [(0, x15.1)] x15.2
    refine r_if_eq (pc := 18) (off := 8) (tgt := 26) (by decide +kernel) (by decide) (fun c18 => ?_) (fun c18 => ?_)
    · have h := ite_t c18 h
      refine r_aload_n (pc := 26) 0 (n := 2) (by decide +kernel) rfl rfl ?_
      obtain ⟨g27, q27, h⟩ := bnd h
      refine r_get (pc := 27) (by decide +kernel) fl_T_126 (by decide) rfl q27 ?_
      obtain ⟨g30, q30, h⟩ := bnd h
      refine r_get (pc := 30) (by decide +kernel) fl_T_165.r (by decide) rfl q30 ?_
      obtain rfl := Option.some.inj h
      exact r_ret (pc := 33) (r := some (0, g30)) (by decide +kernel) rfl trivial (Nat.le_of_ble_eq_true rfl) (Nat.le_of_ble_eq_true rfl)
    · have h := ite_f c18 h
      refine r_bipush (pc := 21) (z := (-5)) (by decide +kernel) ⟨by decide, by decide⟩ ?_
      refine r_goto (pc := 23) (off := 10) (tgt := 33) (by decide +kernel) (by decide) ?_
      obtain rfl := Option.some.inj h
      exact r_ret (pc := 33) (r := some (0, (-5))) (by decide +kernel) rfl trivial (Nat.le_of_ble_eq_true rfl) (Nat.le_of_ble_eq_true rfl)
  · have h := ite_t c7 h
    refine r_bipush (pc := 10) (z := (-2)) (by decide +kernel) ⟨by decide, by decide⟩ ?_
    obtain rfl := Option.some.inj h
    exact r_ret (pc := 12) (r := some (0, (-2))) (by decide +kernel) rfl trivial (Nat.le_of_ble_eq_true rfl) (Nat.le_of_ble_eq_true rfl)

/-! TreeTongues$Machine.hasClass(I)Z -/
noncomputable def D_Machine_hasClass (a0 a1 : Int) (M : Mem) : Option (Int × Mem) := if a1 < 0 then (some (0, M)) else ((gf M a0 1 14 10).bind fun g6 => if g6 ≤ a1 then (some (0, M)) else (some (1, M)))
theorem c_Machine_hasClass {d : Nat} (hd : 1 ≤ d) {a0 a1 : Int} {M : Mem} {x : Int × Mem} (h : D_Machine_hasClass a0 a1 M = some x) : Ct d Y_Machine_hasClass [(2, a0), (0, a1)] M (some (0, x.1), x.2) 0 0 := by
  refine ct_of yk_Machine_hasClass (Nat.le_of_ble_eq_true rfl) ?_
  rw [D_Machine_hasClass] at h
  show Rn Y_Machine_hasClass d 0 0 0 0 (some (0, x.1), x.2) 0 [(0, (2, a0)), (1, (0, a1))] [] M
  refine r_iload_n (pc := 0) 1 (n := 1) (by decide +kernel) rfl rfl ?_
  refine r_if_lt (pc := 1) (off := 15) (tgt := 16) (by decide +kernel) (by decide) (fun c1 => ?_) (fun c1 => ?_)
  · have h := ite_t c1 h
    refine r_iconst (pc := 16) (z := 0) (by decide +kernel) ⟨by decide, by decide⟩ ?_
    obtain rfl := Option.some.inj h
    exact r_ret (pc := 17) (r := some (0, 0)) (by decide +kernel) rfl (Or.inl rfl) (Nat.le_of_ble_eq_true rfl) (Nat.le_of_ble_eq_true rfl)
  · have h := ite_f c1 h
    refine r_iload_n (pc := 4) 1 (n := 1) (by decide +kernel) rfl rfl ?_
    refine r_aload_n (pc := 5) 0 (n := 0) (by decide +kernel) rfl rfl ?_
    obtain ⟨g6, q6, h⟩ := bnd h
    refine r_get (pc := 6) (by decide +kernel) fl_Machine_40.r (by decide) rfl q6 ?_
    refine r_icmp_ge (pc := 9) (off := 7) (tgt := 16) (by decide +kernel) (by decide) (fun c9 => ?_) (fun c9 => ?_)
    · have h := ite_t c9 h
      refine r_iconst (pc := 16) (z := 0) (by decide +kernel) ⟨by decide, by decide⟩ ?_
      obtain rfl := Option.some.inj h
      exact r_ret (pc := 17) (r := some (0, 0)) (by decide +kernel) rfl (Or.inl rfl) (Nat.le_of_ble_eq_true rfl) (Nat.le_of_ble_eq_true rfl)
    · have h := ite_f c9 h
      refine r_iconst (pc := 12) (z := 1) (by decide +kernel) ⟨by decide, by decide⟩ ?_
      refine r_goto (pc := 13) (off := 4) (tgt := 17) (by decide +kernel) (by decide) ?_
      obtain rfl := Option.some.inj h
      exact r_ret (pc := 17) (r := some (0, 1)) (by decide +kernel) rfl (Or.inr rfl) (Nat.le_of_ble_eq_true rfl) (Nat.le_of_ble_eq_true rfl)

/-! TreeTongues.go(IIII)I -/
noncomputable def D_T_go (a0 a1 a2 a3 a4 : Int) (M : Mem) : Option (Int × Mem) := (ck M a0 8 8).bind fun _ => (D_T_find a0 a1 M).bind fun x2 => if x2.1 < 0 then (some ((-2), x2.2)) else ((gf x2.2 a0 8 8 0).bind fun g13 => (ck x2.2 g13 5 3).bind fun _ => (D_Signs_knows g13 a2 x2.2).bind fun x17 => if x17.1 = 0 then (some ((-2), x17.2)) else ((ck x17.2 a0 8 8).bind fun _ => (D_T_isLarge a0 x2.1 x17.2).bind fun x29 => if x29.1 = 0 then ((gf x29.2 a0 8 8 0).bind fun g39 => (ck x29.2 g39 5 3).bind fun _ => (D_Signs_rankOf g39 a2 x29.2).bind fun x43 => (if x43.1 ≤ 0 then (some (0, x43.2)) else ((gf x43.2 x2.1 7 8 1).bind fun g55 => (ck x43.2 g55 1 14).bind fun _ => (D_Machine_hasClass g55 a3 x43.2).bind fun x59 => if x59.1 = 0 then (some (1, x59.2)) else (some (0, x59.2)))).bind fun (t50 : Int × Mem) => if t50.1 = 0 then ((if x43.1 ≤ 1 then (some (0, t50.2)) else ((gf t50.2 x2.1 7 8 1).bind fun g73 => (ck t50.2 g73 1 14).bind fun _ => (D_Machine_hasClass g73 a4 t50.2).bind fun x78 => if x78.1 = 0 then (some (1, x78.2)) else (some (0, x78.2)))).bind fun (t68 : Int × Mem) => if t68.1 = 0 then ((gf t68.2 x2.1 7 8 1).bind fun g89 => (ck t68.2 g89 1 14).bind fun _ => (D_Machine_step g89 a2 a3 a4 t68.2).bind fun x96 => some (x96.1, x96.2)) else (some ((-2), t68.2))) else (some ((-2), t50.2))) else (some ((-5), x29.2))))
theorem c_T_go {d : Nat} (hd : 8 ≤ d) {a0 a1 a2 a3 a4 : Int} {M : Mem} {x : Int × Mem} (h : D_T_go a0 a1 a2 a3 a4 M = some x) : Ct d Y_T_go [(2, a0), (0, a1), (0, a2), (0, a3), (0, a4)] M (some (0, x.1), x.2) 0 0 := by
  refine ct_of yk_T_go (Nat.le_of_ble_eq_true rfl) ?_
  rw [D_T_go] at h
  show Rn Y_T_go d 0 0 0 0 (some (0, x.1), x.2) 0 [(0, (2, a0)), (1, (0, a1)), (2, (0, a2)), (3, (0, a3)), (4, (0, a4))] [] M
  refine r_aload_n (pc := 0) 0 (n := 0) (by decide +kernel) rfl rfl ?_
  refine r_iload_n (pc := 1) 1 (n := 1) (by decide +kernel) rfl rfl ?_
  obtain ⟨_, q2c, h⟩ := bnd h
  obtain ⟨x2, q2, h⟩ := bnd h
  refine r_callV (pc := 2) (i := 98) (d2 := d - 1) (As := [(0, a1)]) (st := []) (st1 := [(0, a1), (2, a0)]) (by decide +kernel) yk_T_find (by decide) rfl ⟨ml_T_98, vk_T_find⟩ np_T_find rfl (by omega) q2c (c_T_find (d := d - 1) (by omega) q2) (Nat.le_of_ble_eq_true rfl) (Nat.le_of_ble_eq_true rfl) (Nat.le_of_ble_eq_true rfl) rfl ?_
  show Rn _ d _ _ 0 0 _ 5 [(0, (2, a0)), (1, (0, a1)), (2, (0, a2)), (3, (0, a3)), (4, (0, a4))] [(2, x2.1)] x2.2
  refine r_astore (pc := 5) (lv' := [(5, (2, x2.1)), (0, (2, a0)), (1, (0, a1)), (2, (0, a2)), (3, (0, a3)), (4, (0, a4))]) (by decide +kernel) (Nat.le_of_ble_eq_true rfl) rfl ?_
  refine r_aload (pc := 7) 0 (by decide +kernel) rfl ?_
  refine r_ifnull (pc := 9) (off := 14) (tgt := 23) (by decide +kernel) (by decide) (fun c9 => ?_) (fun c9 => ?_)
  · have h := ite_t c9 h
    refine r_bipush (pc := 23) (z := (-2)) (by decide +kernel) ⟨by decide, by decide⟩ ?_
    obtain rfl := Option.some.inj h
    exact r_ret (pc := 25) (r := some (0, (-2))) (by decide +kernel) rfl trivial (Nat.le_of_ble_eq_true rfl) (Nat.le_of_ble_eq_true rfl)
  · have h := ite_f c9 h
    refine r_aload_n (pc := 12) 1 (n := 0) (by decide +kernel) rfl rfl ?_
    obtain ⟨g13, q13, h⟩ := bnd h
    refine r_get (pc := 13) (by decide +kernel) fl_T_12.r (by decide) rfl q13 ?_
    refine r_iload_n (pc := 16) 3 (n := 2) (by decide +kernel) rfl rfl ?_
    obtain ⟨_, q17c, h⟩ := bnd h
    obtain ⟨x17, q17, h⟩ := bnd h
    refine r_callV (pc := 17) (i := 74) (d2 := d - 1) (As := [(0, a2)]) (st := []) (st1 := [(0, a2), (2, g13)]) (by decide +kernel) yk_Signs_knows (by decide) rfl ⟨ml_T_74, vk_Signs_knows⟩ np_Signs_knows rfl (by omega) q17c (c_Signs_knows (d := d - 1) (by omega) q17) (Nat.le_of_ble_eq_true rfl) (Nat.le_of_ble_eq_true rfl) (Nat.le_of_ble_eq_true rfl) rfl ?_
    show Rn _ d _ _ 0 0 _ 20 [(5, (2, x2.1)), (0, (2, a0)), (1, (0, a1)), (2, (0, a2)), (3, (0, a3)), (4, (0, a4))] [(0, x17.1)] x17.2
    refine r_if_ne (pc := 20) (off := 6) (tgt := 26) (by decide +kernel) (by decide) (fun c20 => ?_) (fun c20 => ?_)
    · have h := ite_f c20 h
      refine r_aload_n (pc := 26) 1 (n := 0) (by decide +kernel) rfl rfl ?_
      refine r_aload (pc := 27) 0 (by decide +kernel) rfl ?_
      obtain ⟨_, q29c, h⟩ := bnd h
      obtain ⟨x29, q29, h⟩ := bnd h
      refine r_callV (pc := 29) (i := 122) (d2 := d - 1) (As := [(2, x2.1)]) (st := []) (st1 := [(2, x2.1), (2, a0)]) (by decide +kernel) yk_T_isLarge (by decide) rfl ⟨ml_T_122, vk_T_isLarge⟩ np_T_isLarge rfl (by omega) q29c (c_T_isLarge (d := d - 1) (by omega) q29) (Nat.le_of_ble_eq_true rfl) (Nat.le_of_ble_eq_true rfl) (Nat.le_of_ble_eq_true rfl) rfl ?_
      show Rn _ d _ _ 0 0 _ 32 [(5, (2, x2.1)), (0, (2, a0)), (1, (0, a1)), (2, (0, a2)), (3, (0, a3)), (4, (0, a4))] [(0, x29.1)] x29.2
      refine r_if_eq (pc := 32) (off := 6) (tgt := 38) (by decide +kernel) (by decide) (fun c32 => ?_) (fun c32 => ?_)
      · have h := ite_t c32 h
        refine r_aload_n (pc := 38) 1 (n := 0) (by decide +kernel) rfl rfl ?_
        obtain ⟨g39, q39, h⟩ := bnd h
        refine r_get (pc := 39) (by decide +kernel) fl_T_12.r (by decide) rfl q39 ?_
        refine r_iload_n (pc := 42) 3 (n := 2) (by decide +kernel) rfl rfl ?_
        obtain ⟨_, q43c, h⟩ := bnd h
        obtain ⟨x43, q43, h⟩ := bnd h
        refine r_callV (pc := 43) (i := 78) (d2 := d - 1) (As := [(0, a2)]) (st := []) (st1 := [(0, a2), (2, g39)]) (by decide +kernel) yk_Signs_rankOf (by decide) rfl ⟨ml_T_78, vk_Signs_rankOf⟩ np_Signs_rankOf rfl (by omega) q43c (c_Signs_rankOf (d := d - 1) (by omega) q43) (Nat.le_of_ble_eq_true rfl) (Nat.le_of_ble_eq_true rfl) (Nat.le_of_ble_eq_true rfl) rfl ?_
        show Rn _ d _ _ 0 0 _ 46 [(5, (2, x2.1)), (0, (2, a0)), (1, (0, a1)), (2, (0, a2)), (3, (0, a3)), (4, (0, a4))] [(0, x43.1)] x43.2
        refine r_istore (pc := 46) (lv' := [(6, (0, x43.1)), (5, (2, x2.1)), (0, (2, a0)), (1, (0, a1)), (2, (0, a2)), (3, (0, a3)), (4, (0, a4))]) (by decide +kernel) (Nat.le_of_ble_eq_true rfl) rfl ?_
        refine r_iload (pc := 48) 0 (by decide +kernel) rfl ?_
        obtain ⟨t50, ht50, h⟩ := bnd h
        have E50_0 : t50.1 = 0 → Rn Y_T_go d 0 0 0 0 (some (0, x.1), x.2) 65 [(2, (0, a2)), (3, (0, a3)), (4, (0, a4)), (5, (2, x2.1)), (6, (0, x43.1))] [] t50.2 := by
          intro y0
          have h := ite_t y0 h
          refine r_iload (pc := 65) 4 (by decide +kernel) rfl ?_
          refine r_iconst (pc := 67) (z := 1) (by decide +kernel) ⟨by decide, by decide⟩ ?_
          obtain ⟨t68, ht68, h⟩ := bnd h
          have E68_0 : t68.1 = 0 → Rn Y_T_go d 0 0 0 0 (some (0, x.1), x.2) 87 [(2, (0, a2)), (3, (0, a3)), (4, (0, a4)), (5, (2, x2.1))] [] t68.2 := by
            intro y0
            have h := ite_t y0 h
            refine r_aload (pc := 87) 3 (by decide +kernel) rfl ?_
            obtain ⟨g89, q89, h⟩ := bnd h
            refine r_get (pc := 89) (by decide +kernel) fl_T_126 (by decide) rfl q89 ?_
            refine r_iload_n (pc := 92) 0 (n := 2) (by decide +kernel) rfl rfl ?_
            refine r_iload_n (pc := 93) 1 (n := 3) (by decide +kernel) rfl rfl ?_
            refine r_iload (pc := 94) 2 (by decide +kernel) rfl ?_
            obtain ⟨_, q96c, h⟩ := bnd h
            obtain ⟨x96, q96, h⟩ := bnd h
            refine r_callV (pc := 96) (i := 171) (d2 := d - 1) (As := [(0, a2), (0, a3), (0, a4)]) (st := []) (st1 := [(0, a4), (0, a3), (0, a2), (2, g89)]) (by decide +kernel) yk_Machine_step (by decide) rfl ⟨ml_T_171, vk_Machine_step⟩ np_Machine_step rfl (by omega) q96c (c_Machine_step (d := d - 1) (by omega) q96) (Nat.le_of_ble_eq_true rfl) (Nat.le_of_ble_eq_true rfl) (Nat.le_of_ble_eq_true rfl) rfl ?_
            show Rn _ d _ _ 0 0 _ 99 [(2, (0, a2)), (3, (0, a3)), (4, (0, a4)), (5, (2, x2.1))] [(0, x96.1)] x96.2
            obtain rfl := Option.some.inj h
            exact r_ret (pc := 99) (r := some (0, x96.1)) (by decide +kernel) rfl trivial (Nat.le_of_ble_eq_true rfl) (Nat.le_of_ble_eq_true rfl)
          have E68_1 : ¬ t68.1 = 0 → Rn Y_T_go d 0 0 0 0 (some (0, x.1), x.2) 84 [] [] t68.2 := by
            intro n0
            have h := ite_f n0 h
            refine r_bipush (pc := 84) (z := (-2)) (by decide +kernel) ⟨by decide, by decide⟩ ?_
            obtain rfl := Option.some.inj h
            exact r_ret (pc := 86) (r := some (0, (-2))) (by decide +kernel) rfl trivial (Nat.le_of_ble_eq_true rfl) (Nat.le_of_ble_eq_true rfl)
          refine r_icmp_le (pc := 68) (off := 19) (tgt := 87) (by decide +kernel) (by decide) (fun c68 => ?_) (fun c68 => ?_)
          · have ht68 := ite_t c68 ht68
            obtain rfl := Option.some.inj ht68
            refine r_lv [0, 1, 2, 3] rfl ?_
            exact E68_0 rfl
          · have ht68 := ite_f c68 ht68
            refine r_aload (pc := 71) 3 (by decide +kernel) rfl ?_
            obtain ⟨g73, q73, ht68⟩ := bnd ht68
            refine r_get (pc := 73) (by decide +kernel) fl_T_126 (by decide) rfl q73 ?_
            refine r_iload (pc := 76) 2 (by decide +kernel) rfl ?_
            obtain ⟨_, q78c, ht68⟩ := bnd ht68
            obtain ⟨x78, q78, ht68⟩ := bnd ht68
            refine r_callV (pc := 78) (i := 168) (d2 := d - 1) (As := [(0, a4)]) (st := []) (st1 := [(0, a4), (2, g73)]) (by decide +kernel) yk_Machine_hasClass (by decide) rfl ⟨ml_T_168, vk_Machine_hasClass⟩ np_Machine_hasClass rfl (by omega) q78c (c_Machine_hasClass (d := d - 1) (by omega) q78) (Nat.le_of_ble_eq_true rfl) (Nat.le_of_ble_eq_true rfl) (Nat.le_of_ble_eq_true rfl) rfl ?_
            show Rn _ d _ _ 0 0 _ 81 [(2, (0, a2)), (3, (0, a3)), (4, (0, a4)), (5, (2, x2.1)), (6, (0, x43.1))] [(0, x78.1)] x78.2
            refine r_if_ne (pc := 81) (off := 6) (tgt := 87) (by decide +kernel) (by decide) (fun c81 => ?_) (fun c81 => ?_)
            · have ht68 := ite_f c81 ht68
              obtain rfl := Option.some.inj ht68
              refine r_lv [0, 1, 2, 3] rfl ?_
              exact E68_0 rfl
            · have ht68 := ite_t c81 ht68
              obtain rfl := Option.some.inj ht68
              refine r_lv [] rfl ?_
              exact E68_1 (show ¬ (1 : Int) = 0 by decide)
        have E50_1 : ¬ t50.1 = 0 → Rn Y_T_go d 0 0 0 0 (some (0, x.1), x.2) 84 [] [] t50.2 := by
          intro n0
          have h := ite_f n0 h
          refine r_bipush (pc := 84) (z := (-2)) (by decide +kernel) ⟨by decide, by decide⟩ ?_
          obtain rfl := Option.some.inj h
          exact r_ret (pc := 86) (r := some (0, (-2))) (by decide +kernel) rfl trivial (Nat.le_of_ble_eq_true rfl) (Nat.le_of_ble_eq_true rfl)
        refine r_if_le (pc := 50) (off := 15) (tgt := 65) (by decide +kernel) (by decide) (fun c50 => ?_) (fun c50 => ?_)
        · have ht50 := ite_t c50 ht50
          obtain rfl := Option.some.inj ht50
          refine r_lv [4, 5, 6, 1, 0] rfl ?_
          exact E50_0 rfl
        · have ht50 := ite_f c50 ht50
          refine r_aload (pc := 53) 1 (by decide +kernel) rfl ?_
          obtain ⟨g55, q55, ht50⟩ := bnd ht50
          refine r_get (pc := 55) (by decide +kernel) fl_T_126 (by decide) rfl q55 ?_
          refine r_iload_n (pc := 58) 5 (n := 3) (by decide +kernel) rfl rfl ?_
          obtain ⟨_, q59c, ht50⟩ := bnd ht50
          obtain ⟨x59, q59, ht50⟩ := bnd ht50
          refine r_callV (pc := 59) (i := 168) (d2 := d - 1) (As := [(0, a3)]) (st := []) (st1 := [(0, a3), (2, g55)]) (by decide +kernel) yk_Machine_hasClass (by decide) rfl ⟨ml_T_168, vk_Machine_hasClass⟩ np_Machine_hasClass rfl (by omega) q59c (c_Machine_hasClass (d := d - 1) (by omega) q59) (Nat.le_of_ble_eq_true rfl) (Nat.le_of_ble_eq_true rfl) (Nat.le_of_ble_eq_true rfl) rfl ?_
          show Rn _ d _ _ 0 0 _ 62 [(6, (0, x43.1)), (5, (2, x2.1)), (0, (2, a0)), (1, (0, a1)), (2, (0, a2)), (3, (0, a3)), (4, (0, a4))] [(0, x59.1)] x59.2
          refine r_if_eq (pc := 62) (off := 22) (tgt := 84) (by decide +kernel) (by decide) (fun c62 => ?_) (fun c62 => ?_)
          · have ht50 := ite_t c62 ht50
            obtain rfl := Option.some.inj ht50
            refine r_lv [] rfl ?_
            exact E50_1 (show ¬ (1 : Int) = 0 by decide)
          · have ht50 := ite_f c62 ht50
            obtain rfl := Option.some.inj ht50
            refine r_lv [4, 5, 6, 1, 0] rfl ?_
            exact E50_0 rfl
      · have h := ite_f c32 h
        refine r_bipush (pc := 35) (z := (-5)) (by decide +kernel) ⟨by decide, by decide⟩ ?_
        obtain rfl := Option.some.inj h
        exact r_ret (pc := 37) (r := some (0, (-5))) (by decide +kernel) rfl trivial (Nat.le_of_ble_eq_true rfl) (Nat.le_of_ble_eq_true rfl)
    · have h := ite_t c20 h
      refine r_bipush (pc := 23) (z := (-2)) (by decide +kernel) ⟨by decide, by decide⟩ ?_
      obtain rfl := Option.some.inj h
      exact r_ret (pc := 25) (r := some (0, (-2))) (by decide +kernel) rfl trivial (Nat.le_of_ble_eq_true rfl) (Nat.le_of_ble_eq_true rfl)

/-! TreeTongues.isLast(II)I -/
noncomputable def D_T_isLast (a0 a1 a2 : Int) (M : Mem) : Option (Int × Mem) := (ck M a0 8 8).bind fun _ => (D_T_find a0 a1 M).bind fun x2 => if x2.1 < 0 then (some ((-2), x2.2)) else ((ck x2.2 a0 8 8).bind fun _ => (D_T_isLarge a0 x2.1 x2.2).bind fun x15 => if x15.1 = 0 then ((gf x15.2 x2.1 7 8 1).bind fun g25 => (ck x15.2 g25 1 14).bind fun _ => (D_Machine_hasClass g25 a2 x15.2).bind fun x29 => if x29.1 = 0 then (some ((-2), x29.2)) else ((gf x29.2 x2.1 7 8 1).bind fun g36 => (ck x29.2 g36 1 14).bind fun _ => (D_Machine_finalBit g36 a2 x29.2).bind fun x40 => some (x40.1, x40.2))) else (some ((-5), x15.2)))
theorem c_T_isLast {d : Nat} (hd : 8 ≤ d) {a0 a1 a2 : Int} {M : Mem} {x : Int × Mem} (h : D_T_isLast a0 a1 a2 M = some x) : Ct d Y_T_isLast [(2, a0), (0, a1), (0, a2)] M (some (0, x.1), x.2) 0 0 := by
  refine ct_of yk_T_isLast (Nat.le_of_ble_eq_true rfl) ?_
  rw [D_T_isLast] at h
  show Rn Y_T_isLast d 0 0 0 0 (some (0, x.1), x.2) 0 [(0, (2, a0)), (1, (0, a1)), (2, (0, a2))] [] M
  refine r_aload_n (pc := 0) 0 (n := 0) (by decide +kernel) rfl rfl ?_
  refine r_iload_n (pc := 1) 1 (n := 1) (by decide +kernel) rfl rfl ?_
  obtain ⟨_, q2c, h⟩ := bnd h
  obtain ⟨x2, q2, h⟩ := bnd h
  refine r_callV (pc := 2) (i := 98) (d2 := d - 1) (As := [(0, a1)]) (st := []) (st1 := [(0, a1), (2, a0)]) (by decide +kernel) yk_T_find (by decide) rfl ⟨ml_T_98, vk_T_find⟩ np_T_find rfl (by omega) q2c (c_T_find (d := d - 1) (by omega) q2) (Nat.le_of_ble_eq_true rfl) (Nat.le_of_ble_eq_true rfl) (Nat.le_of_ble_eq_true rfl) rfl ?_
  show Rn _ d _ _ 0 0 _ 5 [(0, (2, a0)), (1, (0, a1)), (2, (0, a2))] [(2, x2.1)] x2.2
  refine r_astore_n (pc := 5) (n := 3) (lv' := [(3, (2, x2.1)), (0, (2, a0)), (1, (0, a1)), (2, (0, a2))]) (by decide +kernel) rfl (Nat.le_of_ble_eq_true rfl) rfl ?_
  refine r_aload_n (pc := 6) 0 (n := 3) (by decide +kernel) rfl rfl ?_
  refine r_ifnonnull (pc := 7) (off := 6) (tgt := 13) (by decide +kernel) (by decide) (fun c7 => ?_) (fun c7 => ?_)
  · have h := ite_f c7 h
    refine r_aload_n (pc := 13) 1 (n := 0) (by decide +kernel) rfl rfl ?_
    refine r_aload_n (pc := 14) 0 (n := 3) (by decide +kernel) rfl rfl ?_
    obtain ⟨_, q15c, h⟩ := bnd h
    obtain ⟨x15, q15, h⟩ := bnd h
    refine r_callV (pc := 15) (i := 122) (d2 := d - 1) (As := [(2, x2.1)]) (st := []) (st1 := [(2, x2.1), (2, a0)]) (by decide +kernel) yk_T_isLarge (by decide) rfl ⟨ml_T_122, vk_T_isLarge⟩ np_T_isLarge rfl (by omega) q15c (c_T_isLarge (d := d - 1) (by omega) q15) (Nat.le_of_ble_eq_true rfl) (Nat.le_of_ble_eq_true rfl) (Nat.le_of_ble_eq_true rfl) rfl ?_
    show Rn _ d _ _ 0 0 _ 18 [(3, (2, x2.1)), (0, (2, a0)), (1, (0, a1)), (2, (0, a2))] [(0, x15.1)] x15.2
    refine r_if_eq (pc := 18) (off := 6) (tgt := 24) (by decide +kernel) (by decide) (fun c18 => ?_) (fun c18 => ?_)
    · have h := ite_t c18 h
      refine r_aload_n (pc := 24) 0 (n := 3) (by decide +kernel) rfl rfl ?_
      obtain ⟨g25, q25, h⟩ := bnd h
      refine r_get (pc := 25) (by decide +kernel) fl_T_126 (by decide) rfl q25 ?_
      refine r_iload_n (pc := 28) 3 (n := 2) (by decide +kernel) rfl rfl ?_
      obtain ⟨_, q29c, h⟩ := bnd h
      obtain ⟨x29, q29, h⟩ := bnd h
      refine r_callV (pc := 29) (i := 168) (d2 := d - 1) (As := [(0, a2)]) (st := []) (st1 := [(0, a2), (2, g25)]) (by decide +kernel) yk_Machine_hasClass (by decide) rfl ⟨ml_T_168, vk_Machine_hasClass⟩ np_Machine_hasClass rfl (by omega) q29c (c_Machine_hasClass (d := d - 1) (by omega) q29) (Nat.le_of_ble_eq_true rfl) (Nat.le_of_ble_eq_true rfl) (Nat.le_of_ble_eq_true rfl) rfl ?_
      show Rn _ d _ _ 0 0 _ 32 [(3, (2, x2.1)), (0, (2, a0)), (1, (0, a1)), (2, (0, a2))] [(0, x29.1)] x29.2
      refine r_if_eq (pc := 32) (off := 14) (tgt := 46) (by decide +kernel) (by decide) (fun c32 => ?_) (fun c32 => ?_)
      · have h := ite_t c32 h
        refine r_bipush (pc := 46) (z := (-2)) (by decide +kernel) ⟨by decide, by decide⟩ ?_
        obtain rfl := Option.some.inj h
        exact r_ret (pc := 48) (r := some (0, (-2))) (by decide +kernel) rfl trivial (Nat.le_of_ble_eq_true rfl) (Nat.le_of_ble_eq_true rfl)
      · have h := ite_f c32 h
        refine r_aload_n (pc := 35) 0 (n := 3) (by decide +kernel) rfl rfl ?_
        obtain ⟨g36, q36, h⟩ := bnd h
        refine r_get (pc := 36) (by decide +kernel) fl_T_126 (by decide) rfl q36 ?_
        refine r_iload_n (pc := 39) 3 (n := 2) (by decide +kernel) rfl rfl ?_
        obtain ⟨_, q40c, h⟩ := bnd h
        obtain ⟨x40, q40, h⟩ := bnd h
        refine r_callV (pc := 40) (i := 175) (d2 := d - 1) (As := [(0, a2)]) (st := []) (st1 := [(0, a2), (2, g36)]) (by decide +kernel) yk_Machine_finalBit (by decide) rfl ⟨ml_T_175, vk_Machine_finalBit⟩ np_Machine_finalBit rfl (by omega) q40c (c_Machine_finalBit (d := d - 1) (by omega) q40) (Nat.le_of_ble_eq_true rfl) (Nat.le_of_ble_eq_true rfl) (Nat.le_of_ble_eq_true rfl) rfl ?_
        show Rn _ d _ _ 0 0 _ 43 [(3, (2, x2.1)), (0, (2, a0)), (1, (0, a1)), (2, (0, a2))] [(0, x40.1)] x40.2
        refine r_goto (pc := 43) (off := 5) (tgt := 48) (by decide +kernel) (by decide) ?_
        obtain rfl := Option.some.inj h
        exact r_ret (pc := 48) (r := some (0, x40.1)) (by decide +kernel) rfl trivial (Nat.le_of_ble_eq_true rfl) (Nat.le_of_ble_eq_true rfl)
    · have h := ite_f c18 h
      refine r_bipush (pc := 21) (z := (-5)) (by decide +kernel) ⟨by decide, by decide⟩ ?_
      obtain rfl := Option.some.inj h
      exact r_ret (pc := 23) (r := some (0, (-5))) (by decide +kernel) rfl trivial (Nat.le_of_ble_eq_true rfl) (Nat.le_of_ble_eq_true rfl)
  · have h := ite_t c7 h
    refine r_bipush (pc := 10) (z := (-2)) (by decide +kernel) ⟨by decide, by decide⟩ ?_
    obtain rfl := Option.some.inj h
    exact r_ret (pc := 12) (r := some (0, (-2))) (by decide +kernel) rfl trivial (Nat.le_of_ble_eq_true rfl) (Nat.le_of_ble_eq_true rfl)

/-! TreeTongues.size(II)I -/
noncomputable def D_T_size (a0 a1 a2 : Int) (M : Mem) : Option (Int × Mem) := (ck M a0 8 8).bind fun _ => (D_T_find a0 a1 M).bind fun x2 => if x2.1 < 0 then (some ((-2), x2.2)) else ((ck x2.2 a0 8 8).bind fun _ => (D_T_isLarge a0 x2.1 x2.2).bind fun x15 => if x15.1 = 0 then ((gf x15.2 x2.1 7 8 1).bind fun g25 => (ck x15.2 g25 1 14).bind fun _ => (D_Machine_hasClass g25 a2 x15.2).bind fun x29 => if x29.1 = 0 then (some ((-2), x29.2)) else ((gf x29.2 x2.1 7 8 1).bind fun g36 => (gf x29.2 g36 1 14 5).bind fun g39 => (rd x29.2 10 g39 a2).bind fun e43 => some (e43, x29.2))) else (some ((-5), x15.2)))
theorem c_T_size {d : Nat} (hd : 8 ≤ d) {a0 a1 a2 : Int} {M : Mem} {x : Int × Mem} (h : D_T_size a0 a1 a2 M = some x) : Ct d Y_T_size [(2, a0), (0, a1), (0, a2)] M (some (0, x.1), x.2) 0 0 := by
  refine ct_of yk_T_size (Nat.le_of_ble_eq_true rfl) ?_
  rw [D_T_size] at h
  show Rn Y_T_size d 0 0 0 0 (some (0, x.1), x.2) 0 [(0, (2, a0)), (1, (0, a1)), (2, (0, a2))] [] M
  refine r_aload_n (pc := 0) 0 (n := 0) (by decide +kernel) rfl rfl ?_
  refine r_iload_n (pc := 1) 1 (n := 1) (by decide +kernel) rfl rfl ?_
  obtain ⟨_, q2c, h⟩ := bnd h
  obtain ⟨x2, q2, h⟩ := bnd h
  refine r_callV (pc := 2) (i := 98) (d2 := d - 1) (As := [(0, a1)]) (st := []) (st1 := [(0, a1), (2, a0)]) (by decide +kernel) yk_T_find (by decide) rfl ⟨ml_T_98, vk_T_find⟩ np_T_find rfl (by omega) q2c (c_T_find (d := d - 1) (by omega) q2) (Nat.le_of_ble_eq_true rfl) (Nat.le_of_ble_eq_true rfl) (Nat.le_of_ble_eq_true rfl) rfl ?_
  show Rn _ d _ _ 0 0 _ 5 [(0, (2, a0)), (1, (0, a1)), (2, (0, a2))] [(2, x2.1)] x2.2
  refine r_astore_n (pc := 5) (n := 3) (lv' := [(3, (2, x2.1)), (0, (2, a0)), (1, (0, a1)), (2, (0, a2))]) (by decide +kernel) rfl (Nat.le_of_ble_eq_true rfl) rfl ?_
  refine r_aload_n (pc := 6) 0 (n := 3) (by decide +kernel) rfl rfl ?_
  refine r_ifnonnull (pc := 7) (off := 6) (tgt := 13) (by decide +kernel) (by decide) (fun c7 => ?_) (fun c7 => ?_)
  · have h := ite_f c7 h
    refine r_aload_n (pc := 13) 1 (n := 0) (by decide +kernel) rfl rfl ?_
    refine r_aload_n (pc := 14) 0 (n := 3) (by decide +kernel) rfl rfl ?_
    obtain ⟨_, q15c, h⟩ := bnd h
    obtain ⟨x15, q15, h⟩ := bnd h
    refine r_callV (pc := 15) (i := 122) (d2 := d - 1) (As := [(2, x2.1)]) (st := []) (st1 := [(2, x2.1), (2, a0)]) (by decide +kernel) yk_T_isLarge (by decide) rfl ⟨ml_T_122, vk_T_isLarge⟩ np_T_isLarge rfl (by omega) q15c (c_T_isLarge (d := d - 1) (by omega) q15) (Nat.le_of_ble_eq_true rfl) (Nat.le_of_ble_eq_true rfl) (Nat.le_of_ble_eq_true rfl) rfl ?_
    show Rn _ d _ _ 0 0 _ 18 [(3, (2, x2.1)), (0, (2, a0)), (1, (0, a1)), (2, (0, a2))] [(0, x15.1)] x15.2
    refine r_if_eq (pc := 18) (off := 6) (tgt := 24) (by decide +kernel) (by decide) (fun c18 => ?_) (fun c18 => ?_)
    · have h := ite_t c18 h
      refine r_aload_n (pc := 24) 0 (n := 3) (by decide +kernel) rfl rfl ?_
      obtain ⟨g25, q25, h⟩ := bnd h
      refine r_get (pc := 25) (by decide +kernel) fl_T_126 (by decide) rfl q25 ?_
      refine r_iload_n (pc := 28) 3 (n := 2) (by decide +kernel) rfl rfl ?_
      obtain ⟨_, q29c, h⟩ := bnd h
      obtain ⟨x29, q29, h⟩ := bnd h
      refine r_callV (pc := 29) (i := 168) (d2 := d - 1) (As := [(0, a2)]) (st := []) (st1 := [(0, a2), (2, g25)]) (by decide +kernel) yk_Machine_hasClass (by decide) rfl ⟨ml_T_168, vk_Machine_hasClass⟩ np_Machine_hasClass rfl (by omega) q29c (c_Machine_hasClass (d := d - 1) (by omega) q29) (Nat.le_of_ble_eq_true rfl) (Nat.le_of_ble_eq_true rfl) (Nat.le_of_ble_eq_true rfl) rfl ?_
      show Rn _ d _ _ 0 0 _ 32 [(3, (2, x2.1)), (0, (2, a0)), (1, (0, a1)), (2, (0, a2))] [(0, x29.1)] x29.2
      refine r_if_eq (pc := 32) (off := 15) (tgt := 47) (by decide +kernel) (by decide) (fun c32 => ?_) (fun c32 => ?_)
      · have h := ite_t c32 h
        refine r_bipush (pc := 47) (z := (-2)) (by decide +kernel) ⟨by decide, by decide⟩ ?_
        obtain rfl := Option.some.inj h
        exact r_ret (pc := 49) (r := some (0, (-2))) (by decide +kernel) rfl trivial (Nat.le_of_ble_eq_true rfl) (Nat.le_of_ble_eq_true rfl)
      · have h := ite_f c32 h
        refine r_aload_n (pc := 35) 0 (n := 3) (by decide +kernel) rfl rfl ?_
        obtain ⟨g36, q36, h⟩ := bnd h
        refine r_get (pc := 36) (by decide +kernel) fl_T_126 (by decide) rfl q36 ?_
        obtain ⟨g39, q39, h⟩ := bnd h
        refine r_get (pc := 39) (by decide +kernel) fl_T_178 (by decide) rfl q39 ?_
        refine r_iload_n (pc := 42) 3 (n := 2) (by decide +kernel) rfl rfl ?_
        obtain ⟨e43, q43, h⟩ := bnd h
        refine r_iald (pc := 43) (by decide +kernel) q43 ?_
        refine r_goto (pc := 44) (off := 5) (tgt := 49) (by decide +kernel) (by decide) ?_
        obtain rfl := Option.some.inj h
        exact r_ret (pc := 49) (r := some (0, e43)) (by decide +kernel) rfl trivial (Nat.le_of_ble_eq_true rfl) (Nat.le_of_ble_eq_true rfl)
    · have h := ite_f c18 h
      refine r_bipush (pc := 21) (z := (-5)) (by decide +kernel) ⟨by decide, by decide⟩ ?_
      obtain rfl := Option.some.inj h
      exact r_ret (pc := 23) (r := some (0, (-5))) (by decide +kernel) rfl trivial (Nat.le_of_ble_eq_true rfl) (Nat.le_of_ble_eq_true rfl)
  · have h := ite_t c7 h
    refine r_bipush (pc := 10) (z := (-2)) (by decide +kernel) ⟨by decide, by decide⟩ ?_
    obtain rfl := Option.some.inj h
    exact r_ret (pc := 12) (r := some (0, (-2))) (by decide +kernel) rfl trivial (Nat.le_of_ble_eq_true rfl) (Nat.le_of_ble_eq_true rfl)

/-! TreeTongues$Row.spanFrom(I)I -/
noncomputable def L_Row_spanFrom_18 (k : Int → Mem → Option (Int × Mem)) (v0 : Int) (v1 : Int) : Nat → Int → Int → Mem → Option (Int × Mem)
  | 0 => fun _ _ _ => none
  | n + 1 => fun v2 v3 M => if v3 ≤ 0 then (k v2 M) else ((gf M v0 4 5 4).bind fun g24 => if g24 ≤ v2 then (some (0, M)) else ((gf M v0 4 5 2).bind fun g31 => (rd M 10 g31 v2).bind fun e35 => if e35 = 0 then (some (0, M)) else ((gf M v0 4 5 2).bind fun g43 => (rd M 10 g43 v2).bind fun e47 => lt (wr (v2 + e47)) fun u2_49 => L_Row_spanFrom_18 k v0 v1 n u2_49 (wr (v3 + (-1))) M)))
noncomputable def D_Row_spanFrom (a0 a1 : Int) (M : Mem) : Option (Int × Mem) := lt (wr (a1 + 1)) fun u2_3 => (gf M a0 4 5 0).bind fun g5 => (gf M a0 4 5 1).bind fun g9 => (rd M 10 g9 a1).bind fun e13 => (ck M g5 5 3).bind fun _ => (D_Signs_rankOf g5 e13 M).bind fun x14 => L_Row_spanFrom_18 (fun w2_18 m18 => some (wr (w2_18 - a1), m18)) a0 a1 FU u2_3 x14.1 x14.2
theorem sL_Row_spanFrom_18 {d mc ms : Nat} (hd : 2 ≤ d) {r : Int × Mem} {k : Int → Mem → Option (Int × Mem)} {v0 : Int} {v1 : Int} (hk : ∀ (v2 : Int) (M : Mem), k v2 M = some r → Rn Y_Row_spanFrom d mc ms 0 0 (some (0, r.1), r.2) 56 [(1, (0, v1)), (2, (0, v2))] [] M) : ∀ (n : Nat) (v2 : Int) (v3 : Int) (M : Mem), L_Row_spanFrom_18 k v0 v1 n v2 v3 M = some r → Rn Y_Row_spanFrom d mc ms 0 0 (some (0, r.1), r.2) 18 [(0, (2, v0)), (1, (0, v1)), (2, (0, v2)), (3, (0, v3))] [] M := by
  intro n
  induction n with
  | zero => intro _ _ _ h; cases h
  | succ n ih =>
    intro v2 v3 M h
    rw [L_Row_spanFrom_18] at h
    refine r_iload_n (pc := 18) 3 (n := 3) (by decide +kernel) rfl rfl ?_
    refine r_if_le (pc := 19) (off := 37) (tgt := 56) (by decide +kernel) (by decide) (fun c19 => ?_) (fun c19 => ?_)
    · have h := ite_t c19 h
      refine r_lv [1, 2] rfl ?_
      exact hk v2 M h
    · have h := ite_f c19 h
      refine r_iload_n (pc := 22) 2 (n := 2) (by decide +kernel) rfl rfl ?_
      refine r_aload_n (pc := 23) 0 (n := 0) (by decide +kernel) rfl rfl ?_
      obtain ⟨g24, q24, h⟩ := bnd h
      refine r_get (pc := 24) (by decide +kernel) fl_Row_21.r (by decide) rfl q24 ?_
      refine r_icmp_ge (pc := 27) (off := 12) (tgt := 39) (by decide +kernel) (by decide) (fun c27 => ?_) (fun c27 => ?_)
      · have h := ite_t c27 h
        refine r_iconst (pc := 39) (z := 0) (by decide +kernel) ⟨by decide, by decide⟩ ?_
        obtain rfl := Option.some.inj h
        exact r_ret (pc := 40) (r := some (0, 0)) (by decide +kernel) rfl trivial (Nat.le_of_ble_eq_true rfl) (Nat.le_of_ble_eq_true rfl)
      · have h := ite_f c27 h
        refine r_aload_n (pc := 30) 0 (n := 0) (by decide +kernel) rfl rfl ?_
        obtain ⟨g31, q31, h⟩ := bnd h
        refine r_get (pc := 31) (by decide +kernel) fl_Row_15.r (by decide) rfl q31 ?_
        refine r_iload_n (pc := 34) 2 (n := 2) (by decide +kernel) rfl rfl ?_
        obtain ⟨e35, q35, h⟩ := bnd h
        refine r_iald (pc := 35) (by decide +kernel) q35 ?_
        refine r_if_ne (pc := 36) (off := 5) (tgt := 41) (by decide +kernel) (by decide) (fun c36 => ?_) (fun c36 => ?_)
        · have h := ite_f c36 h
          refine r_iload_n (pc := 41) 2 (n := 2) (by decide +kernel) rfl rfl ?_
          refine r_aload_n (pc := 42) 0 (n := 0) (by decide +kernel) rfl rfl ?_
          obtain ⟨g43, q43, h⟩ := bnd h
          refine r_get (pc := 43) (by decide +kernel) fl_Row_15.r (by decide) rfl q43 ?_
          refine r_iload_n (pc := 46) 2 (n := 2) (by decide +kernel) rfl rfl ?_
          obtain ⟨e47, q47, h⟩ := bnd h
          refine r_iald (pc := 47) (by decide +kernel) q47 ?_
          refine r_iadd (pc := 48) (by decide +kernel) ?_
          obtain ⟨u2_49, q49, h⟩ := lt_o h
          refine r_eq q49 ?_
          refine r_istore_n (pc := 49) (n := 2) (lv' := [(2, (0, u2_49)), (0, (2, v0)), (1, (0, v1)), (3, (0, v3))]) (by decide +kernel) rfl (Nat.le_of_ble_eq_true rfl) rfl ?_
          refine r_iinc (pc := 50) 3 (n := (-1)) (lv' := [(3, (0, wr (v3 + (-1)))), (2, (0, u2_49)), (0, (2, v0)), (1, (0, v1))]) (by decide +kernel) rfl (Nat.le_of_ble_eq_true rfl) rfl ?_
          refine r_goto (pc := 53) (off := (-35)) (tgt := 18) (by decide +kernel) (by decide) ?_
          refine r_lv [2, 3, 1, 0] rfl ?_
          exact ih u2_49 (wr (v3 + (-1))) M h
        · have h := ite_t c36 h
          refine r_iconst (pc := 39) (z := 0) (by decide +kernel) ⟨by decide, by decide⟩ ?_
          obtain rfl := Option.some.inj h
          exact r_ret (pc := 40) (r := some (0, 0)) (by decide +kernel) rfl trivial (Nat.le_of_ble_eq_true rfl) (Nat.le_of_ble_eq_true rfl)
theorem c_Row_spanFrom {d : Nat} (hd : 2 ≤ d) {a0 a1 : Int} {M : Mem} {x : Int × Mem} (h : D_Row_spanFrom a0 a1 M = some x) : Ct d Y_Row_spanFrom [(2, a0), (0, a1)] M (some (0, x.1), x.2) 0 0 := by
  refine ct_of yk_Row_spanFrom (Nat.le_of_ble_eq_true rfl) ?_
  rw [D_Row_spanFrom] at h
  show Rn Y_Row_spanFrom d 0 0 0 0 (some (0, x.1), x.2) 0 [(0, (2, a0)), (1, (0, a1))] [] M
  refine r_iload_n (pc := 0) 1 (n := 1) (by decide +kernel) rfl rfl ?_
  refine r_iconst (pc := 1) (z := 1) (by decide +kernel) ⟨by decide, by decide⟩ ?_
  refine r_iadd (pc := 2) (by decide +kernel) ?_
  obtain ⟨u2_3, q3, h⟩ := lt_o h
  refine r_eq q3 ?_
  refine r_istore_n (pc := 3) (n := 2) (lv' := [(2, (0, u2_3)), (0, (2, a0)), (1, (0, a1))]) (by decide +kernel) rfl (Nat.le_of_ble_eq_true rfl) rfl ?_
  refine r_aload_n (pc := 4) 1 (n := 0) (by decide +kernel) rfl rfl ?_
  obtain ⟨g5, q5, h⟩ := bnd h
  refine r_get (pc := 5) (by decide +kernel) fl_Row_25.r (by decide) rfl q5 ?_
  refine r_aload_n (pc := 8) 1 (n := 0) (by decide +kernel) rfl rfl ?_
  obtain ⟨g9, q9, h⟩ := bnd h
  refine r_get (pc := 9) (by decide +kernel) fl_Row_9.r (by decide) rfl q9 ?_
  refine r_iload_n (pc := 12) 2 (n := 1) (by decide +kernel) rfl rfl ?_
  obtain ⟨e13, q13, h⟩ := bnd h
  refine r_iald (pc := 13) (by decide +kernel) q13 ?_
  obtain ⟨_, q14c, h⟩ := bnd h
  obtain ⟨x14, q14, h⟩ := bnd h
  refine r_callV (pc := 14) (i := 33) (d2 := d - 1) (As := [(0, e13)]) (st := []) (st1 := [(0, e13), (2, g5)]) (by decide +kernel) yk_Signs_rankOf (by decide) rfl ⟨ml_Row_33, vk_Signs_rankOf⟩ np_Signs_rankOf rfl (by omega) q14c (c_Signs_rankOf (d := d - 1) (by omega) q14) (Nat.le_of_ble_eq_true rfl) (Nat.le_of_ble_eq_true rfl) (Nat.le_of_ble_eq_true rfl) rfl ?_
  show Rn _ d _ _ 0 0 _ 17 [(2, (0, u2_3)), (0, (2, a0)), (1, (0, a1))] [(0, x14.1)] x14.2
  refine r_istore_n (pc := 17) (n := 3) (lv' := [(3, (0, x14.1)), (2, (0, u2_3)), (0, (2, a0)), (1, (0, a1))]) (by decide +kernel) rfl (Nat.le_of_ble_eq_true rfl) rfl ?_
  refine r_lv [2, 3, 1, 0] rfl ?_
  refine sL_Row_spanFrom_18 (by omega) ?_ _ _ _  _ h
  intro w2_18 m18 h
  refine r_iload_n (pc := 56) 1 (n := 2) (by decide +kernel) rfl rfl ?_
  refine r_iload_n (pc := 57) 0 (n := 1) (by decide +kernel) rfl rfl ?_
  refine r_isub (pc := 58) (by decide +kernel) ?_
  obtain rfl := Option.some.inj h
  exact r_ret (pc := 59) (r := some (0, wr (w2_18 - a1))) (by decide +kernel) rfl trivial (Nat.le_of_ble_eq_true rfl) (Nat.le_of_ble_eq_true rfl)

/-! TreeTongues$Row.isTree()Z -/
noncomputable def L_Row_isTree_7 (k : Mem → Option (Int × Mem)) (v0 : Int) : Nat → Int → Mem → Option (Int × Mem)
  | 0 => fun _ _ => none
  | n + 1 => fun v1 M => if v1 < 0 then (k  M) else ((gf M v0 4 5 2).bind fun g12 => (ck M v0 4 5).bind fun _ => (D_Row_spanFrom v0 v1 M).bind fun x18 => (wt x18.2 10 g12 v1 x18.1).bind fun m21 => L_Row_isTree_7 k v0 n (wr (v1 + (-1))) m21)
noncomputable def D_Row_isTree (a0 : Int) (M : Mem) : Option (Int × Mem) := (gf M a0 4 5 4).bind fun g1 => lt (wr (g1 - 1)) fun u1_6 => L_Row_isTree_7 (fun  m7 => (gf m7 a0 4 5 4).bind fun g29 => if g29 ≤ 0 then (some (0, m7)) else ((gf m7 a0 4 5 2).bind fun g36 => (rd m7 10 g36 0).bind fun e40 => (gf m7 a0 4 5 4).bind fun g42 => if e40 = g42 then (some (1, m7)) else (some (0, m7)))) a0 FU u1_6 M
theorem sL_Row_isTree_7 {d mc ms : Nat} (hd : 3 ≤ d) {r : Int × Mem} {k : Mem → Option (Int × Mem)} {v0 : Int} (hk : ∀ (M : Mem), k M = some r → Rn Y_Row_isTree d mc ms 0 0 (some (0, r.1), r.2) 28 [(0, (2, v0))] [] M) : ∀ (n : Nat) (v1 : Int) (M : Mem), L_Row_isTree_7 k v0 n v1 M = some r → Rn Y_Row_isTree d mc ms 0 0 (some (0, r.1), r.2) 7 [(0, (2, v0)), (1, (0, v1))] [] M := by
  intro n
  induction n with
  | zero => intro _ _ h; cases h
  | succ n ih =>
    intro v1 M h
    rw [L_Row_isTree_7] at h
    refine r_iload_n (pc := 7) 1 (n := 1) (by decide +kernel) rfl rfl ?_
    refine r_if_lt (pc := 8) (off := 20) (tgt := 28) (by decide +kernel) (by decide) (fun c8 => ?_) (fun c8 => ?_)
    · have h := ite_t c8 h
      refine r_lv [0] rfl ?_
      exact hk  M h
    · have h := ite_f c8 h
      refine r_aload_n (pc := 11) 0 (n := 0) (by decide +kernel) rfl rfl ?_
      obtain ⟨g12, q12, h⟩ := bnd h
      refine r_get (pc := 12) (by decide +kernel) fl_Row_15.r (by decide) rfl q12 ?_
      refine r_iload_n (pc := 15) 1 (n := 1) (by decide +kernel) rfl rfl ?_
      refine r_aload_n (pc := 16) 0 (n := 0) (by decide +kernel) rfl rfl ?_
      refine r_iload_n (pc := 17) 1 (n := 1) (by decide +kernel) rfl rfl ?_
      obtain ⟨_, q18c, h⟩ := bnd h
      obtain ⟨x18, q18, h⟩ := bnd h
      refine r_callV (pc := 18) (i := 29) (d2 := d - 1) (As := [(0, v1)]) (st := [(0, v1), (2, g12)]) (st1 := [(0, v1), (2, v0), (0, v1), (2, g12)]) (by decide +kernel) yk_Row_spanFrom (by decide) rfl ⟨ml_Row_29, vk_Row_spanFrom⟩ np_Row_spanFrom rfl (by omega) q18c (c_Row_spanFrom (d := d - 1) (by omega) q18) (Nat.le_of_ble_eq_true rfl) (Nat.le_of_ble_eq_true rfl) (Nat.le_of_ble_eq_true rfl) rfl ?_
      show Rn _ d _ _ 0 0 _ 21 [(0, (2, v0)), (1, (0, v1))] [(0, x18.1), (0, v1), (2, g12)] x18.2
      obtain ⟨m21, q21, h⟩ := bnd h
      refine r_iast (pc := 21) (by decide +kernel) q21 ?_
      refine r_iinc (pc := 22) 1 (n := (-1)) (lv' := [(1, (0, wr (v1 + (-1)))), (0, (2, v0))]) (by decide +kernel) rfl (Nat.le_of_ble_eq_true rfl) rfl ?_
      refine r_goto (pc := 25) (off := (-18)) (tgt := 7) (by decide +kernel) (by decide) ?_
      refine r_lv [1, 0] rfl ?_
      exact ih (wr (v1 + (-1))) m21 h
theorem c_Row_isTree {d : Nat} (hd : 3 ≤ d) {a0 : Int} {M : Mem} {x : Int × Mem} (h : D_Row_isTree a0 M = some x) : Ct d Y_Row_isTree [(2, a0)] M (some (0, x.1), x.2) 0 0 := by
  refine ct_of yk_Row_isTree (Nat.le_of_ble_eq_true rfl) ?_
  rw [D_Row_isTree] at h
  show Rn Y_Row_isTree d 0 0 0 0 (some (0, x.1), x.2) 0 [(0, (2, a0))] [] M
  refine r_aload_n (pc := 0) 0 (n := 0) (by decide +kernel) rfl rfl ?_
  obtain ⟨g1, q1, h⟩ := bnd h
  refine r_get (pc := 1) (by decide +kernel) fl_Row_21.r (by decide) rfl q1 ?_
  refine r_iconst (pc := 4) (z := 1) (by decide +kernel) ⟨by decide, by decide⟩ ?_
  refine r_isub (pc := 5) (by decide +kernel) ?_
  obtain ⟨u1_6, q6, h⟩ := lt_o h
  refine r_eq q6 ?_
  refine r_istore_n (pc := 6) (n := 1) (lv' := [(1, (0, u1_6)), (0, (2, a0))]) (by decide +kernel) rfl (Nat.le_of_ble_eq_true rfl) rfl ?_
  refine r_lv [1, 0] rfl ?_
  refine sL_Row_isTree_7 (by omega) ?_ _ _  _ h
  intro m7 h
  refine r_aload_n (pc := 28) 0 (n := 0) (by decide +kernel) rfl rfl ?_
  obtain ⟨g29, q29, h⟩ := bnd h
  refine r_get (pc := 29) (by decide +kernel) fl_Row_21.r (by decide) rfl q29 ?_
  refine r_if_le (pc := 32) (off := 20) (tgt := 52) (by decide +kernel) (by decide) (fun c32 => ?_) (fun c32 => ?_)
  · have h := ite_t c32 h
    refine r_iconst (pc := 52) (z := 0) (by decide +kernel) ⟨by decide, by decide⟩ ?_
    obtain rfl := Option.some.inj h
    exact r_ret (pc := 53) (r := some (0, 0)) (by decide +kernel) rfl (Or.inl rfl) (Nat.le_of_ble_eq_true rfl) (Nat.le_of_ble_eq_true rfl)
  · have h := ite_f c32 h
    refine r_aload_n (pc := 35) 0 (n := 0) (by decide +kernel) rfl rfl ?_
    obtain ⟨g36, q36, h⟩ := bnd h
    refine r_get (pc := 36) (by decide +kernel) fl_Row_15.r (by decide) rfl q36 ?_
    refine r_iconst (pc := 39) (z := 0) (by decide +kernel) ⟨by decide, by decide⟩ ?_
    obtain ⟨e40, q40, h⟩ := bnd h
    refine r_iald (pc := 40) (by decide +kernel) q40 ?_
    refine r_aload_n (pc := 41) 0 (n := 0) (by decide +kernel) rfl rfl ?_
    obtain ⟨g42, q42, h⟩ := bnd h
    refine r_get (pc := 42) (by decide +kernel) fl_Row_21.r (by decide) rfl q42 ?_
    refine r_icmp_ne (pc := 45) (off := 7) (tgt := 52) (by decide +kernel) (by decide) (fun c45 => ?_) (fun c45 => ?_)
    · have h := ite_f c45 h
      refine r_iconst (pc := 52) (z := 0) (by decide +kernel) ⟨by decide, by decide⟩ ?_
      obtain rfl := Option.some.inj h
      exact r_ret (pc := 53) (r := some (0, 0)) (by decide +kernel) rfl (Or.inl rfl) (Nat.le_of_ble_eq_true rfl) (Nat.le_of_ble_eq_true rfl)
    · have h := ite_t c45 h
      refine r_iconst (pc := 48) (z := 1) (by decide +kernel) ⟨by decide, by decide⟩ ?_
      refine r_goto (pc := 49) (off := 4) (tgt := 53) (by decide +kernel) (by decide) ?_
      obtain rfl := Option.some.inj h
      exact r_ret (pc := 53) (r := some (0, 1)) (by decide +kernel) rfl (Or.inr rfl) (Nat.le_of_ble_eq_true rfl) (Nat.le_of_ble_eq_true rfl)

/-! TreeTongues$Row.secondPart(I)I -/
noncomputable def D_Row_secondPart (a0 a1 : Int) (M : Mem) : Option (Int × Mem) := (gf M a0 4 5 4).bind fun g4 => if g4 ≤ (wr (a1 + 1)) then ((gf M a0 4 5 4).bind fun g26 => some (g26, M)) else ((gf M a0 4 5 2).bind fun g14 => (rd M 10 g14 (wr (a1 + 1))).bind fun e20 => some (wr ((wr (a1 + 1)) + e20), M))
theorem c_Row_secondPart {d : Nat} (hd : 1 ≤ d) {a0 a1 : Int} {M : Mem} {x : Int × Mem} (h : D_Row_secondPart a0 a1 M = some x) : Ct d Y_Row_secondPart [(2, a0), (0, a1)] M (some (0, x.1), x.2) 0 0 := by
  refine ct_of yk_Row_secondPart (Nat.le_of_ble_eq_true rfl) ?_
  rw [D_Row_secondPart] at h
  show Rn Y_Row_secondPart d 0 0 0 0 (some (0, x.1), x.2) 0 [(0, (2, a0)), (1, (0, a1))] [] M
  refine r_iload_n (pc := 0) 1 (n := 1) (by decide +kernel) rfl rfl ?_
  refine r_iconst (pc := 1) (z := 1) (by decide +kernel) ⟨by decide, by decide⟩ ?_
  refine r_iadd (pc := 2) (by decide +kernel) ?_
  refine r_aload_n (pc := 3) 0 (n := 0) (by decide +kernel) rfl rfl ?_
  obtain ⟨g4, q4, h⟩ := bnd h
  refine r_get (pc := 4) (by decide +kernel) fl_Row_21.r (by decide) rfl q4 ?_
  refine r_icmp_ge (pc := 7) (off := 18) (tgt := 25) (by decide +kernel) (by decide) (fun c7 => ?_) (fun c7 => ?_)
  · have h := ite_t c7 h
    refine r_aload_n (pc := 25) 0 (n := 0) (by decide +kernel) rfl rfl ?_
    obtain ⟨g26, q26, h⟩ := bnd h
    refine r_get (pc := 26) (by decide +kernel) fl_Row_21.r (by decide) rfl q26 ?_
    obtain rfl := Option.some.inj h
    exact r_ret (pc := 29) (r := some (0, g26)) (by decide +kernel) rfl trivial (Nat.le_of_ble_eq_true rfl) (Nat.le_of_ble_eq_true rfl)
  · have h := ite_f c7 h
    refine r_iload_n (pc := 10) 1 (n := 1) (by decide +kernel) rfl rfl ?_
    refine r_iconst (pc := 11) (z := 1) (by decide +kernel) ⟨by decide, by decide⟩ ?_
    refine r_iadd (pc := 12) (by decide +kernel) ?_
    refine r_aload_n (pc := 13) 0 (n := 0) (by decide +kernel) rfl rfl ?_
    obtain ⟨g14, q14, h⟩ := bnd h
    refine r_get (pc := 14) (by decide +kernel) fl_Row_15.r (by decide) rfl q14 ?_
    refine r_iload_n (pc := 17) 1 (n := 1) (by decide +kernel) rfl rfl ?_
    refine r_iconst (pc := 18) (z := 1) (by decide +kernel) ⟨by decide, by decide⟩ ?_
    refine r_iadd (pc := 19) (by decide +kernel) ?_
    obtain ⟨e20, q20, h⟩ := bnd h
    refine r_iald (pc := 20) (by decide +kernel) q20 ?_
    refine r_iadd (pc := 21) (by decide +kernel) ?_
    refine r_goto (pc := 22) (off := 7) (tgt := 29) (by decide +kernel) (by decide) ?_
    obtain rfl := Option.some.inj h
    exact r_ret (pc := 29) (r := some (0, wr ((wr (a1 + 1)) + e20))) (by decide +kernel) rfl trivial (Nat.le_of_ble_eq_true rfl) (Nat.le_of_ble_eq_true rfl)
