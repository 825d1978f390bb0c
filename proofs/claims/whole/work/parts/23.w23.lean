/-! TreeTonguesModel.add(III)V -/
noncomputable def D_M_add (a0 a1 a2 a3 : Int) (M : Mem) : Option (Mem) := (gf M a0 9 54 1).bind fun g3 => (rd M 10 g3 a1).bind fun e7 => (if e7 ≤ 0 then (some 0) else ((gf M a0 9 54 27).bind fun g12 => (rd M 10 g12 a2).bind fun e16 => some e16)).bind fun (t8 : Int) => (gf M a0 9 54 1).bind fun g22 => (rd M 10 g22 a1).bind fun e26 => (if e26 ≤ 1 then (some 0) else ((gf M a0 9 54 27).bind fun g32 => (rd M 10 g32 a3).bind fun e36 => some e36)).bind fun (t28 : Int) => (ck M a0 9 54).bind fun _ => (D_M_next a0 a1 t8 t28 M).bind fun x41 => (gf x41.2 a0 9 54 28).bind fun g47 => (rd x41.2 10 g47 x41.1).bind fun e52 => (if e52 = (-1) then ((gf x41.2 a0 9 54 28).bind fun g58 => (gf x41.2 a0 9 54 26).bind fun g64 => (wt x41.2 10 g58 x41.1 g64).bind fun m67 => (gf m67 a0 9 54 27).bind fun g69 => (gf m67 a0 9 54 26).bind fun g73 => (wt m67 10 g69 g73 x41.1).bind fun m78 => (gf m78 a0 9 54 26).bind fun g81 => (pf m78 a0 9 54 26 (wr (g81 + 1))).bind fun m86 => some m86) else (some x41.2)).bind fun (t54 : Mem) => (gf t54 a0 9 54 32).bind fun g90 => (gf t54 a0 9 54 28).bind fun g106 => (rd t54 10 g106 x41.1).bind fun e111 => (wt t54 10 g90 (wr ((wr ((wr (262144 * a1)) + (wr (512 * a2)))) + a3)) e111).bind fun m112 => some m112
theorem c_M_add {d : Nat} (hd : 5 ≤ d) {a0 a1 a2 a3 : Int} {M : Mem} {x : Mem} (h : D_M_add a0 a1 a2 a3 M = some x) : Ct d Y_M_add [(2, a0), (0, a1), (0, a2), (0, a3)] M (none, x) 0 0 := by
  refine ct_of yk_M_add (Nat.le_of_ble_eq_true rfl) ?_
  rw [D_M_add] at h
  show Rn Y_M_add d 0 0 0 0 (none, x) 0 [(0, (2, a0)), (1, (0, a1)), (2, (0, a2)), (3, (0, a3))] [] M
  refine r_aload_n (pc := 0) 0 (n := 0) (by decide +kernel) rfl rfl ?_
  refine r_iload_n (pc := 1) 1 (n := 1) (by decide +kernel) rfl rfl ?_
  refine r_aload_n (pc := 2) 0 (n := 0) (by decide +kernel) rfl rfl ?_
  obtain ⟨g3, q3, h⟩ := bnd h
  refine r_get (pc := 3) (by decide +kernel) fl_M_7.r (by decide) rfl q3 ?_
  refine r_iload_n (pc := 6) 1 (n := 1) (by decide +kernel) rfl rfl ?_
  obtain ⟨e7, q7, h⟩ := bnd h
  refine r_iald (pc := 7) (by decide +kernel) q7 ?_
  obtain ⟨t8, ht8, h⟩ := bnd h
  have E8_0 : Rn Y_M_add d 0 0 0 0 (none, x) 21 [(0, (2, a0)), (1, (0, a1)), (2, (0, a2)), (3, (0, a3))] [(0, t8), (0, a1), (2, a0)] M := by
    refine r_aload_n (pc := 21) 0 (n := 0) (by decide +kernel) rfl rfl ?_
    obtain ⟨g22, q22, h⟩ := bnd h
    refine r_get (pc := 22) (by decide +kernel) fl_M_7.r (by decide) rfl q22 ?_
    refine r_iload_n (pc := 25) 1 (n := 1) (by decide +kernel) rfl rfl ?_
    obtain ⟨e26, q26, h⟩ := bnd h
    refine r_iald (pc := 26) (by decide +kernel) q26 ?_
    refine r_iconst (pc := 27) (z := 1) (by decide +kernel) ⟨by decide, by decide⟩ ?_
    obtain ⟨t28, ht28, h⟩ := bnd h
    have E28_0 : Rn Y_M_add d 0 0 0 0 (none, x) 41 [(0, (2, a0)), (1, (0, a1)), (2, (0, a2)), (3, (0, a3))] [(0, t28), (0, t8), (0, a1), (2, a0)] M := by
      obtain ⟨_, q41c, h⟩ := bnd h
      obtain ⟨x41, q41, h⟩ := bnd h
      refine r_callV (pc := 41) (i := 198) (d2 := d - 1) (As := [(0, a1), (0, t8), (0, t28)]) (st := []) (st1 := [(0, t28), (0, t8), (0, a1), (2, a0)]) (by decide +kernel) yk_M_next (by decide) rfl ⟨ml_M_198, vk_M_next⟩ np_M_next rfl (by omega) q41c (c_M_next (d := d - 1) (by omega) q41) (Nat.le_of_ble_eq_true rfl) (Nat.le_of_ble_eq_true rfl) (Nat.le_of_ble_eq_true rfl) rfl ?_
      show Rn _ d _ _ 0 0 _ 44 [(0, (2, a0)), (1, (0, a1)), (2, (0, a2)), (3, (0, a3))] [(0, x41.1)] x41.2
      refine r_istore (pc := 44) (lv' := [(4, (0, x41.1)), (0, (2, a0)), (1, (0, a1)), (2, (0, a2)), (3, (0, a3))]) (by decide +kernel) (Nat.le_of_ble_eq_true rfl) rfl ?_
      refine r_aload_n (pc := 46) 1 (n := 0) (by decide +kernel) rfl rfl ?_
      obtain ⟨g47, q47, h⟩ := bnd h
      refine r_get (pc := 47) (by decide +kernel) fl_M_65.r (by decide) rfl q47 ?_
      refine r_iload (pc := 50) 0 (by decide +kernel) rfl ?_
      obtain ⟨e52, q52, h⟩ := bnd h
      refine r_iald (pc := 52) (by decide +kernel) q52 ?_
      refine r_iconst (pc := 53) (z := (-1)) (by decide +kernel) ⟨by decide, by decide⟩ ?_
      obtain ⟨t54, ht54, h⟩ := bnd h
      have E54_0 : Rn Y_M_add d 0 0 0 0 (none, x) 89 [(0, (2, a0)), (1, (0, a1)), (2, (0, a2)), (3, (0, a3)), (4, (0, x41.1))] [] t54 := by
        refine r_aload_n (pc := 89) 0 (n := 0) (by decide +kernel) rfl rfl ?_
        obtain ⟨g90, q90, h⟩ := bnd h
        refine r_get (pc := 90) (by decide +kernel) fl_M_78.r (by decide) rfl q90 ?_
        refine r_ldc (pc := 93) (i := 204) (z := 262144) (by decide +kernel) (mg 1159 (by decide +kernel) (by decide +kernel)) ⟨by decide, by decide⟩ ?_
        refine r_iload_n (pc := 95) 1 (n := 1) (by decide +kernel) rfl rfl ?_
        refine r_imul (pc := 96) (by decide +kernel) ?_
        refine r_sipush (pc := 97) (z := 512) (by decide +kernel) ⟨by decide, by decide⟩ ?_
        refine r_iload_n (pc := 100) 2 (n := 2) (by decide +kernel) rfl rfl ?_
        refine r_imul (pc := 101) (by decide +kernel) ?_
        refine r_iadd (pc := 102) (by decide +kernel) ?_
        refine r_iload_n (pc := 103) 3 (n := 3) (by decide +kernel) rfl rfl ?_
        refine r_iadd (pc := 104) (by decide +kernel) ?_
        refine r_aload_n (pc := 105) 0 (n := 0) (by decide +kernel) rfl rfl ?_
        obtain ⟨g106, q106, h⟩ := bnd h
        refine r_get (pc := 106) (by decide +kernel) fl_M_65.r (by decide) rfl q106 ?_
        refine r_iload (pc := 109) 4 (by decide +kernel) rfl ?_
        obtain ⟨e111, q111, h⟩ := bnd h
        refine r_iald (pc := 111) (by decide +kernel) q111 ?_
        obtain ⟨m112, q112, h⟩ := bnd h
        refine r_iast (pc := 112) (by decide +kernel) q112 ?_
        obtain rfl := Option.some.inj h
        exact r_ret (pc := 113) (r := none) (by decide +kernel) rfl trivial (Nat.le_of_ble_eq_true rfl) (Nat.le_of_ble_eq_true rfl)
      refine r_icmp_ne (pc := 54) (off := 35) (tgt := 89) (by decide +kernel) (by decide) (fun c54 => ?_) (fun c54 => ?_)
      · have ht54 := ite_f c54 ht54
        obtain rfl := Option.some.inj ht54
        refine r_lv [1, 2, 3, 4, 0] rfl ?_
        exact E54_0
      · have ht54 := ite_t c54 ht54
        refine r_aload_n (pc := 57) 1 (n := 0) (by decide +kernel) rfl rfl ?_
        obtain ⟨g58, q58, ht54⟩ := bnd ht54
        refine r_get (pc := 58) (by decide +kernel) fl_M_65.r (by decide) rfl q58 ?_
        refine r_iload (pc := 61) 0 (by decide +kernel) rfl ?_
        refine r_aload_n (pc := 63) 1 (n := 0) (by decide +kernel) rfl rfl ?_
        obtain ⟨g64, q64, ht54⟩ := bnd ht54
        refine r_get (pc := 64) (by decide +kernel) fl_M_201.r (by decide) rfl q64 ?_
        obtain ⟨m67, q67, ht54⟩ := bnd ht54
        refine r_iast (pc := 67) (by decide +kernel) q67 ?_
        refine r_aload_n (pc := 68) 1 (n := 0) (by decide +kernel) rfl rfl ?_
        obtain ⟨g69, q69, ht54⟩ := bnd ht54
        refine r_get (pc := 69) (by decide +kernel) fl_M_62.r (by decide) rfl q69 ?_
        refine r_aload_n (pc := 72) 1 (n := 0) (by decide +kernel) rfl rfl ?_
        obtain ⟨g73, q73, ht54⟩ := bnd ht54
        refine r_get (pc := 73) (by decide +kernel) fl_M_201.r (by decide) rfl q73 ?_
        refine r_iload (pc := 76) 0 (by decide +kernel) rfl ?_
        obtain ⟨m78, q78, ht54⟩ := bnd ht54
        refine r_iast (pc := 78) (by decide +kernel) q78 ?_
        refine r_aload_n (pc := 79) 1 (n := 0) (by decide +kernel) rfl rfl ?_
        refine r_dup (pc := 80) (by decide +kernel) rfl ?_
        obtain ⟨g81, q81, ht54⟩ := bnd ht54
        refine r_get (pc := 81) (by decide +kernel) fl_M_201.r (by decide) rfl q81 ?_
        refine r_iconst (pc := 84) (z := 1) (by decide +kernel) ⟨by decide, by decide⟩ ?_
        refine r_iadd (pc := 85) (by decide +kernel) ?_
        obtain ⟨m86, q86, ht54⟩ := bnd ht54
        refine r_put (pc := 86) (by decide +kernel) fl_M_201 (by decide) (Or.inr nf_9_26) rfl (fun h3 => by cases h3) q86 ?_
        obtain rfl := Option.some.inj ht54
        refine r_lv [1, 2, 3, 4, 0] rfl ?_
        exact E54_0
    refine r_icmp_le (pc := 28) (off := 12) (tgt := 40) (by decide +kernel) (by decide) (fun c28 => ?_) (fun c28 => ?_)
    · have ht28 := ite_t c28 ht28
      refine r_iconst (pc := 40) (z := 0) (by decide +kernel) ⟨by decide, by decide⟩ ?_
      obtain rfl := Option.some.inj ht28
      exact E28_0
    · have ht28 := ite_f c28 ht28
      refine r_aload_n (pc := 31) 0 (n := 0) (by decide +kernel) rfl rfl ?_
      obtain ⟨g32, q32, ht28⟩ := bnd ht28
      refine r_get (pc := 32) (by decide +kernel) fl_M_62.r (by decide) rfl q32 ?_
      refine r_iload_n (pc := 35) 3 (n := 3) (by decide +kernel) rfl rfl ?_
      obtain ⟨e36, q36, ht28⟩ := bnd ht28
      refine r_iald (pc := 36) (by decide +kernel) q36 ?_
      refine r_goto (pc := 37) (off := 4) (tgt := 41) (by decide +kernel) (by decide) ?_
      obtain rfl := Option.some.inj ht28
      exact E28_0
  refine r_if_le (pc := 8) (off := 12) (tgt := 20) (by decide +kernel) (by decide) (fun c8 => ?_) (fun c8 => ?_)
  · have ht8 := ite_t c8 ht8
    refine r_iconst (pc := 20) (z := 0) (by decide +kernel) ⟨by decide, by decide⟩ ?_
    obtain rfl := Option.some.inj ht8
    exact E8_0
  · have ht8 := ite_f c8 ht8
    refine r_aload_n (pc := 11) 0 (n := 0) (by decide +kernel) rfl rfl ?_
    obtain ⟨g12, q12, ht8⟩ := bnd ht8
    refine r_get (pc := 12) (by decide +kernel) fl_M_62.r (by decide) rfl q12 ?_
    refine r_iload_n (pc := 15) 2 (n := 2) (by decide +kernel) rfl rfl ?_
    obtain ⟨e16, q16, ht8⟩ := bnd ht8
    refine r_iald (pc := 16) (by decide +kernel) q16 ?_
    refine r_goto (pc := 17) (off := 4) (tgt := 21) (by decide +kernel) (by decide) ?_
    obtain rfl := Option.some.inj ht8
    exact E8_0

/-! TreeTonguesModel.findKeys()V -/
noncomputable def L_M_findKeys_7 (k : Mem → Option (Mem)) (v0 : Int) : Nat → Int → Mem → Option (Mem)
  | 0 => fun _ _ => none
  | n + 1 => fun v1 M => if 512 ≤ v1 then (k  M) else ((gf M v0 9 54 28).bind fun g15 => (wt M 10 g15 v1 (-1)).bind fun m20 => L_M_findKeys_7 k v0 n (wr (v1 + 1)) m20)
noncomputable def L_M_findKeys_29 (k : Mem → Option (Mem)) (v0 : Int) : Nat → Int → Mem → Option (Mem)
  | 0 => fun _ _ => none
  | n + 1 => fun v1 M => (gf M v0 9 54 0).bind fun g31 => if g31 ≤ v1 then (k  M) else ((gf M v0 9 54 1).bind fun g38 => (rd M 10 g38 v1).bind fun e42 => (if e42 = 0 then ((ck M v0 9 54).bind fun _ => (D_M_add v0 v1 0 0 M).bind fun x50 => some x50) else (some M)).bind fun (t43 : Mem) => L_M_findKeys_29 k v0 n (wr (v1 + 1)) t43)
noncomputable def L_M_findKeys_98 (k : Mem → Option (Mem)) (v0 : Int) (v1 : Int) (v2 : Int) : Nat → Int → Mem → Option (Mem)
  | 0 => fun _ _ => none
  | n + 1 => fun v3 M => (if v1 < v3 then (some 0) else ((gf M v0 9 54 1).bind fun g104 => (rd M 10 g104 v2).bind fun e108 => if e108 = 2 then (some 1) else (some 0))).bind fun (t100 : Int) => if t100 = 0 then (k  M) else ((ck M v0 9 54).bind fun _ => (D_M_add v0 v2 v1 v3 M).bind fun x117 => (ck x117 v0 9 54).bind fun _ => (D_M_add v0 v2 v3 v1 x117).bind fun x124 => L_M_findKeys_98 k v0 v1 v2 n (wr (v3 + 1)) x124)
noncomputable def L_M_findKeys_71 (k : Mem → Option (Mem)) (v0 : Int) (v1 : Int) : Nat → Int → Mem → Option (Mem)
  | 0 => fun _ _ => none
  | n + 1 => fun v2 M => (gf M v0 9 54 0).bind fun g73 => if g73 ≤ v2 then (k  M) else ((gf M v0 9 54 1).bind fun g80 => (rd M 10 g80 v2).bind fun e84 => (if e84 = 1 then ((ck M v0 9 54).bind fun _ => (D_M_add v0 v2 v1 0 M).bind fun x93 => some x93) else (some M)).bind fun (t86 : Mem) => L_M_findKeys_98 (fun  m98 => L_M_findKeys_71 k v0 v1 n (wr (v2 + 1)) m98) v0 v1 v2 FU 0 t86)
noncomputable def L_M_findKeys_61 (k : Mem → Option (Mem)) (v0 : Int) : Nat → Int → Mem → Option (Mem)
  | 0 => fun _ _ => none
  | n + 1 => fun v1 M => (gf M v0 9 54 26).bind fun g63 => if g63 ≤ v1 then (k  M) else (L_M_findKeys_71 (fun  m71 => L_M_findKeys_61 k v0 n (wr (v1 + 1)) m71) v0 v1 FU 0 M)
noncomputable def D_M_findKeys (a0 : Int) (M : Mem) : Option (Mem) := (pf M a0 9 54 26 0).bind fun m2 => L_M_findKeys_7 (fun  m7 => L_M_findKeys_29 (fun  m29 => L_M_findKeys_61 (fun  m61 => some m61) a0 FU 0 m29) a0 FU 0 m7) a0 FU 0 m2
theorem sL_M_findKeys_7 {d mc ms : Nat} (hd : 6 ≤ d) {r : Mem} {k : Mem → Option (Mem)} {v0 : Int} (hk : ∀ (M : Mem), k M = some r → Rn Y_M_findKeys d mc ms 0 0 (none, r) 27 [(0, (2, v0))] [] M) : ∀ (n : Nat) (v1 : Int) (M : Mem), L_M_findKeys_7 k v0 n v1 M = some r → Rn Y_M_findKeys d mc ms 0 0 (none, r) 7 [(0, (2, v0)), (1, (0, v1))] [] M := by
  intro n
  induction n with
  | zero => intro _ _ h; cases h
  | succ n ih =>
    intro v1 M h
    rw [L_M_findKeys_7] at h
    refine r_iload_n (pc := 7) 1 (n := 1) (by decide +kernel) rfl rfl ?_
    refine r_sipush (pc := 8) (z := 512) (by decide +kernel) ⟨by decide, by decide⟩ ?_
    refine r_icmp_ge (pc := 11) (off := 16) (tgt := 27) (by decide +kernel) (by decide) (fun c11 => ?_) (fun c11 => ?_)
    · have h := ite_t c11 h
      refine r_lv [0] rfl ?_
      exact hk  M h
    · have h := ite_f c11 h
      refine r_aload_n (pc := 14) 0 (n := 0) (by decide +kernel) rfl rfl ?_
      obtain ⟨g15, q15, h⟩ := bnd h
      refine r_get (pc := 15) (by decide +kernel) fl_M_65.r (by decide) rfl q15 ?_
      refine r_iload_n (pc := 18) 1 (n := 1) (by decide +kernel) rfl rfl ?_
      refine r_iconst (pc := 19) (z := (-1)) (by decide +kernel) ⟨by decide, by decide⟩ ?_
      obtain ⟨m20, q20, h⟩ := bnd h
      refine r_iast (pc := 20) (by decide +kernel) q20 ?_
      refine r_iinc (pc := 21) 1 (n := 1) (lv' := [(1, (0, wr (v1 + 1))), (0, (2, v0))]) (by decide +kernel) rfl (Nat.le_of_ble_eq_true rfl) rfl ?_
      refine r_goto (pc := 24) (off := (-17)) (tgt := 7) (by decide +kernel) (by decide) ?_
      refine r_lv [1, 0] rfl ?_
      exact ih (wr (v1 + 1)) m20 h
theorem sL_M_findKeys_29 {d mc ms : Nat} (hd : 6 ≤ d) {r : Mem} {k : Mem → Option (Mem)} {v0 : Int} (hk : ∀ (M : Mem), k M = some r → Rn Y_M_findKeys d mc ms 0 0 (none, r) 59 [(0, (2, v0))] [] M) : ∀ (n : Nat) (v1 : Int) (M : Mem), L_M_findKeys_29 k v0 n v1 M = some r → Rn Y_M_findKeys d mc ms 0 0 (none, r) 29 [(0, (2, v0)), (1, (0, v1))] [] M := by
  intro n
  induction n with
  | zero => intro _ _ h; cases h
  | succ n ih =>
    intro v1 M h
    rw [L_M_findKeys_29] at h
    refine r_iload_n (pc := 29) 1 (n := 1) (by decide +kernel) rfl rfl ?_
    refine r_aload_n (pc := 30) 0 (n := 0) (by decide +kernel) rfl rfl ?_
    obtain ⟨g31, q31, h⟩ := bnd h
    refine r_get (pc := 31) (by decide +kernel) fl_M_124.r (by decide) rfl q31 ?_
    refine r_icmp_ge (pc := 34) (off := 25) (tgt := 59) (by decide +kernel) (by decide) (fun c34 => ?_) (fun c34 => ?_)
    · have h := ite_t c34 h
      refine r_lv [0] rfl ?_
      exact hk  M h
    · have h := ite_f c34 h
      refine r_aload_n (pc := 37) 0 (n := 0) (by decide +kernel) rfl rfl ?_
      obtain ⟨g38, q38, h⟩ := bnd h
      refine r_get (pc := 38) (by decide +kernel) fl_M_7.r (by decide) rfl q38 ?_
      refine r_iload_n (pc := 41) 1 (n := 1) (by decide +kernel) rfl rfl ?_
      obtain ⟨e42, q42, h⟩ := bnd h
      refine r_iald (pc := 42) (by decide +kernel) q42 ?_
      obtain ⟨t43, ht43, h⟩ := bnd h
      have E43_0 : Rn Y_M_findKeys d mc ms 0 0 (none, r) 53 [(0, (2, v0)), (1, (0, v1))] [] t43 := by
        refine r_iinc (pc := 53) 1 (n := 1) (lv' := [(1, (0, wr (v1 + 1))), (0, (2, v0))]) (by decide +kernel) rfl (Nat.le_of_ble_eq_true rfl) rfl ?_
        refine r_goto (pc := 56) (off := (-27)) (tgt := 29) (by decide +kernel) (by decide) ?_
        refine r_lv [1, 0] rfl ?_
        exact ih (wr (v1 + 1)) t43 h
      refine r_if_ne (pc := 43) (off := 10) (tgt := 53) (by decide +kernel) (by decide) (fun c43 => ?_) (fun c43 => ?_)
      · have ht43 := ite_f c43 ht43
        obtain rfl := Option.some.inj ht43
        exact E43_0
      · have ht43 := ite_t c43 ht43
        refine r_aload_n (pc := 46) 0 (n := 0) (by decide +kernel) rfl rfl ?_
        refine r_iload_n (pc := 47) 1 (n := 1) (by decide +kernel) rfl rfl ?_
        refine r_iconst (pc := 48) (z := 0) (by decide +kernel) ⟨by decide, by decide⟩ ?_
        refine r_iconst (pc := 49) (z := 0) (by decide +kernel) ⟨by decide, by decide⟩ ?_
        obtain ⟨_, q50c, ht43⟩ := bnd ht43
        obtain ⟨x50, q50, ht43⟩ := bnd ht43
        refine r_callV (pc := 50) (i := 205) (d2 := d - 1) (As := [(0, v1), (0, 0), (0, 0)]) (st := []) (st1 := [(0, 0), (0, 0), (0, v1), (2, v0)]) (by decide +kernel) yk_M_add (by decide) rfl ⟨ml_M_205, vk_M_add⟩ np_M_add rfl (by omega) q50c (c_M_add (d := d - 1) (by omega) q50) (Nat.le_of_ble_eq_true rfl) (Nat.le_of_ble_eq_true rfl) (Nat.le_of_ble_eq_true rfl) rfl ?_
        show Rn _ d _ _ 0 0 _ 53 [(0, (2, v0)), (1, (0, v1))] [] x50
        obtain rfl := Option.some.inj ht43
        exact E43_0
theorem sL_M_findKeys_98 {d mc ms : Nat} (hd : 6 ≤ d) {r : Mem} {k : Mem → Option (Mem)} {v0 : Int} {v1 : Int} {v2 : Int} (hk : ∀ (M : Mem), k M = some r → Rn Y_M_findKeys d mc ms 0 0 (none, r) 133 [(0, (2, v0)), (1, (0, v1)), (2, (0, v2))] [] M) : ∀ (n : Nat) (v3 : Int) (M : Mem), L_M_findKeys_98 k v0 v1 v2 n v3 M = some r → Rn Y_M_findKeys d mc ms 0 0 (none, r) 98 [(0, (2, v0)), (1, (0, v1)), (2, (0, v2)), (3, (0, v3))] [] M := by
  intro n
  induction n with
  | zero => intro _ _ h; cases h
  | succ n ih =>
    intro v3 M h
    rw [L_M_findKeys_98] at h
    refine r_iload_n (pc := 98) 3 (n := 3) (by decide +kernel) rfl rfl ?_
    refine r_iload_n (pc := 99) 1 (n := 1) (by decide +kernel) rfl rfl ?_
    obtain ⟨t100, ht100, h⟩ := bnd h
    have E100_0 : t100 = 0 → Rn Y_M_findKeys d mc ms 0 0 (none, r) 133 [(0, (2, v0)), (1, (0, v1)), (2, (0, v2))] [] M := by
      intro y0
      have h := ite_t y0 h
      exact hk  M h
    have E100_1 : ¬ t100 = 0 → Rn Y_M_findKeys d mc ms 0 0 (none, r) 113 [(0, (2, v0)), (1, (0, v1)), (2, (0, v2)), (3, (0, v3))] [] M := by
      intro n0
      have h := ite_f n0 h
      refine r_aload_n (pc := 113) 0 (n := 0) (by decide +kernel) rfl rfl ?_
      refine r_iload_n (pc := 114) 2 (n := 2) (by decide +kernel) rfl rfl ?_
      refine r_iload_n (pc := 115) 1 (n := 1) (by decide +kernel) rfl rfl ?_
      refine r_iload_n (pc := 116) 3 (n := 3) (by decide +kernel) rfl rfl ?_
      obtain ⟨_, q117c, h⟩ := bnd h
      obtain ⟨x117, q117, h⟩ := bnd h
      refine r_callV (pc := 117) (i := 205) (d2 := d - 1) (As := [(0, v2), (0, v1), (0, v3)]) (st := []) (st1 := [(0, v3), (0, v1), (0, v2), (2, v0)]) (by decide +kernel) yk_M_add (by decide) rfl ⟨ml_M_205, vk_M_add⟩ np_M_add rfl (by omega) q117c (c_M_add (d := d - 1) (by omega) q117) (Nat.le_of_ble_eq_true rfl) (Nat.le_of_ble_eq_true rfl) (Nat.le_of_ble_eq_true rfl) rfl ?_
      show Rn _ d _ _ 0 0 _ 120 [(0, (2, v0)), (1, (0, v1)), (2, (0, v2)), (3, (0, v3))] [] x117
      refine r_aload_n (pc := 120) 0 (n := 0) (by decide +kernel) rfl rfl ?_
      refine r_iload_n (pc := 121) 2 (n := 2) (by decide +kernel) rfl rfl ?_
      refine r_iload_n (pc := 122) 3 (n := 3) (by decide +kernel) rfl rfl ?_
      refine r_iload_n (pc := 123) 1 (n := 1) (by decide +kernel) rfl rfl ?_
      obtain ⟨_, q124c, h⟩ := bnd h
      obtain ⟨x124, q124, h⟩ := bnd h
      refine r_callV (pc := 124) (i := 205) (d2 := d - 1) (As := [(0, v2), (0, v3), (0, v1)]) (st := []) (st1 := [(0, v1), (0, v3), (0, v2), (2, v0)]) (by decide +kernel) yk_M_add (by decide) rfl ⟨ml_M_205, vk_M_add⟩ np_M_add rfl (by omega) q124c (c_M_add (d := d - 1) (by omega) q124) (Nat.le_of_ble_eq_true rfl) (Nat.le_of_ble_eq_true rfl) (Nat.le_of_ble_eq_true rfl) rfl ?_
      show Rn _ d _ _ 0 0 _ 127 [(0, (2, v0)), (1, (0, v1)), (2, (0, v2)), (3, (0, v3))] [] x124
      refine r_iinc (pc := 127) 3 (n := 1) (lv' := [(3, (0, wr (v3 + 1))), (0, (2, v0)), (1, (0, v1)), (2, (0, v2))]) (by decide +kernel) rfl (Nat.le_of_ble_eq_true rfl) rfl ?_
      refine r_goto (pc := 130) (off := (-32)) (tgt := 98) (by decide +kernel) (by decide) ?_
      refine r_lv [1, 2, 3, 0] rfl ?_
      exact ih (wr (v3 + 1)) x124 h
    refine r_icmp_gt (pc := 100) (off := 33) (tgt := 133) (by decide +kernel) (by decide) (fun c100 => ?_) (fun c100 => ?_)
    · have ht100 := ite_t c100 ht100
      obtain rfl := Option.some.inj ht100
      refine r_lv [0, 1, 2] rfl ?_
      exact E100_0 rfl
    · have ht100 := ite_f c100 ht100
      refine r_aload_n (pc := 103) 0 (n := 0) (by decide +kernel) rfl rfl ?_
      obtain ⟨g104, q104, ht100⟩ := bnd ht100
      refine r_get (pc := 104) (by decide +kernel) fl_M_7.r (by decide) rfl q104 ?_
      refine r_iload_n (pc := 107) 2 (n := 2) (by decide +kernel) rfl rfl ?_
      obtain ⟨e108, q108, ht100⟩ := bnd ht100
      refine r_iald (pc := 108) (by decide +kernel) q108 ?_
      refine r_iconst (pc := 109) (z := 2) (by decide +kernel) ⟨by decide, by decide⟩ ?_
      refine r_icmp_ne (pc := 110) (off := 23) (tgt := 133) (by decide +kernel) (by decide) (fun c110 => ?_) (fun c110 => ?_)
      · have ht100 := ite_f c110 ht100
        obtain rfl := Option.some.inj ht100
        refine r_lv [0, 1, 2] rfl ?_
        exact E100_0 rfl
      · have ht100 := ite_t c110 ht100
        obtain rfl := Option.some.inj ht100
        exact E100_1 (show ¬ (1 : Int) = 0 by decide)
theorem sL_M_findKeys_71 {d mc ms : Nat} (hd : 6 ≤ d) {r : Mem} {k : Mem → Option (Mem)} {v0 : Int} {v1 : Int} (hk : ∀ (M : Mem), k M = some r → Rn Y_M_findKeys d mc ms 0 0 (none, r) 139 [(0, (2, v0)), (1, (0, v1))] [] M) : ∀ (n : Nat) (v2 : Int) (M : Mem), L_M_findKeys_71 k v0 v1 n v2 M = some r → Rn Y_M_findKeys d mc ms 0 0 (none, r) 71 [(0, (2, v0)), (1, (0, v1)), (2, (0, v2))] [] M := by
  intro n
  induction n with
  | zero => intro _ _ h; cases h
  | succ n ih =>
    intro v2 M h
    rw [L_M_findKeys_71] at h
    refine r_iload_n (pc := 71) 2 (n := 2) (by decide +kernel) rfl rfl ?_
    refine r_aload_n (pc := 72) 0 (n := 0) (by decide +kernel) rfl rfl ?_
    obtain ⟨g73, q73, h⟩ := bnd h
    refine r_get (pc := 73) (by decide +kernel) fl_M_124.r (by decide) rfl q73 ?_
    refine r_icmp_ge (pc := 76) (off := 63) (tgt := 139) (by decide +kernel) (by decide) (fun c76 => ?_) (fun c76 => ?_)
    · have h := ite_t c76 h
      refine r_lv [0, 1] rfl ?_
      exact hk  M h
    · have h := ite_f c76 h
      refine r_aload_n (pc := 79) 0 (n := 0) (by decide +kernel) rfl rfl ?_
      obtain ⟨g80, q80, h⟩ := bnd h
      refine r_get (pc := 80) (by decide +kernel) fl_M_7.r (by decide) rfl q80 ?_
      refine r_iload_n (pc := 83) 2 (n := 2) (by decide +kernel) rfl rfl ?_
      obtain ⟨e84, q84, h⟩ := bnd h
      refine r_iald (pc := 84) (by decide +kernel) q84 ?_
      refine r_iconst (pc := 85) (z := 1) (by decide +kernel) ⟨by decide, by decide⟩ ?_
      obtain ⟨t86, ht86, h⟩ := bnd h
      have E86_0 : Rn Y_M_findKeys d mc ms 0 0 (none, r) 96 [(0, (2, v0)), (1, (0, v1)), (2, (0, v2))] [] t86 := by
        refine r_iconst (pc := 96) (z := 0) (by decide +kernel) ⟨by decide, by decide⟩ ?_
        refine r_istore_n (pc := 97) (n := 3) (lv' := [(3, (0, 0)), (0, (2, v0)), (1, (0, v1)), (2, (0, v2))]) (by decide +kernel) rfl (Nat.le_of_ble_eq_true rfl) rfl ?_
        refine r_lv [1, 2, 3, 0] rfl ?_
        refine sL_M_findKeys_98 (by omega) ?_ _ _  _ h
        intro m98 h
        refine r_iinc (pc := 133) 2 (n := 1) (lv' := [(2, (0, wr (v2 + 1))), (0, (2, v0)), (1, (0, v1))]) (by decide +kernel) rfl (Nat.le_of_ble_eq_true rfl) rfl ?_
        refine r_goto (pc := 136) (off := (-65)) (tgt := 71) (by decide +kernel) (by decide) ?_
        refine r_lv [1, 2, 0] rfl ?_
        exact ih (wr (v2 + 1)) m98 h
      refine r_icmp_ne (pc := 86) (off := 10) (tgt := 96) (by decide +kernel) (by decide) (fun c86 => ?_) (fun c86 => ?_)
      · have ht86 := ite_f c86 ht86
        obtain rfl := Option.some.inj ht86
        exact E86_0
      · have ht86 := ite_t c86 ht86
        refine r_aload_n (pc := 89) 0 (n := 0) (by decide +kernel) rfl rfl ?_
        refine r_iload_n (pc := 90) 2 (n := 2) (by decide +kernel) rfl rfl ?_
        refine r_iload_n (pc := 91) 1 (n := 1) (by decide +kernel) rfl rfl ?_
        refine r_iconst (pc := 92) (z := 0) (by decide +kernel) ⟨by decide, by decide⟩ ?_
        obtain ⟨_, q93c, ht86⟩ := bnd ht86
        obtain ⟨x93, q93, ht86⟩ := bnd ht86
        refine r_callV (pc := 93) (i := 205) (d2 := d - 1) (As := [(0, v2), (0, v1), (0, 0)]) (st := []) (st1 := [(0, 0), (0, v1), (0, v2), (2, v0)]) (by decide +kernel) yk_M_add (by decide) rfl ⟨ml_M_205, vk_M_add⟩ np_M_add rfl (by omega) q93c (c_M_add (d := d - 1) (by omega) q93) (Nat.le_of_ble_eq_true rfl) (Nat.le_of_ble_eq_true rfl) (Nat.le_of_ble_eq_true rfl) rfl ?_
        show Rn _ d _ _ 0 0 _ 96 [(0, (2, v0)), (1, (0, v1)), (2, (0, v2))] [] x93
        obtain rfl := Option.some.inj ht86
        exact E86_0
theorem sL_M_findKeys_61 {d mc ms : Nat} (hd : 6 ≤ d) {r : Mem} {k : Mem → Option (Mem)} {v0 : Int} (hk : ∀ (M : Mem), k M = some r → Rn Y_M_findKeys d mc ms 0 0 (none, r) 145 [] [] M) : ∀ (n : Nat) (v1 : Int) (M : Mem), L_M_findKeys_61 k v0 n v1 M = some r → Rn Y_M_findKeys d mc ms 0 0 (none, r) 61 [(0, (2, v0)), (1, (0, v1))] [] M := by
  intro n
  induction n with
  | zero => intro _ _ h; cases h
  | succ n ih =>
    intro v1 M h
    rw [L_M_findKeys_61] at h
    refine r_iload_n (pc := 61) 1 (n := 1) (by decide +kernel) rfl rfl ?_
    refine r_aload_n (pc := 62) 0 (n := 0) (by decide +kernel) rfl rfl ?_
    obtain ⟨g63, q63, h⟩ := bnd h
    refine r_get (pc := 63) (by decide +kernel) fl_M_201.r (by decide) rfl q63 ?_
    refine r_icmp_ge (pc := 66) (off := 79) (tgt := 145) (by decide +kernel) (by decide) (fun c66 => ?_) (fun c66 => ?_)
    · have h := ite_t c66 h
      refine r_lv [] rfl ?_
      exact hk  M h
    · have h := ite_f c66 h
      refine r_iconst (pc := 69) (z := 0) (by decide +kernel) ⟨by decide, by decide⟩ ?_
      refine r_istore_n (pc := 70) (n := 2) (lv' := [(2, (0, 0)), (0, (2, v0)), (1, (0, v1))]) (by decide +kernel) rfl (Nat.le_of_ble_eq_true rfl) rfl ?_
      refine r_lv [1, 2, 0] rfl ?_
      refine sL_M_findKeys_71 (by omega) ?_ _ _  _ h
      intro m71 h
      refine r_iinc (pc := 139) 1 (n := 1) (lv' := [(1, (0, wr (v1 + 1))), (0, (2, v0))]) (by decide +kernel) rfl (Nat.le_of_ble_eq_true rfl) rfl ?_
      refine r_goto (pc := 142) (off := (-81)) (tgt := 61) (by decide +kernel) (by decide) ?_
      refine r_lv [1, 0] rfl ?_
      exact ih (wr (v1 + 1)) m71 h
theorem c_M_findKeys {d : Nat} (hd : 6 ≤ d) {a0 : Int} {M : Mem} {x : Mem} (h : D_M_findKeys a0 M = some x) : Ct d Y_M_findKeys [(2, a0)] M (none, x) 0 0 := by
  refine ct_of yk_M_findKeys (Nat.le_of_ble_eq_true rfl) ?_
  rw [D_M_findKeys] at h
  show Rn Y_M_findKeys d 0 0 0 0 (none, x) 0 [(0, (2, a0))] [] M
  refine r_aload_n (pc := 0) 0 (n := 0) (by decide +kernel) rfl rfl ?_
  refine r_iconst (pc := 1) (z := 0) (by decide +kernel) ⟨by decide, by decide⟩ ?_
  obtain ⟨m2, q2, h⟩ := bnd h
  refine r_put (pc := 2) (by decide +kernel) fl_M_201 (by decide) (Or.inr nf_9_26) rfl (fun h3 => by cases h3) q2 ?_
  refine r_iconst (pc := 5) (z := 0) (by decide +kernel) ⟨by decide, by decide⟩ ?_
  refine r_istore_n (pc := 6) (n := 1) (lv' := [(1, (0, 0)), (0, (2, a0))]) (by decide +kernel) rfl (Nat.le_of_ble_eq_true rfl) rfl ?_
  refine r_lv [1, 0] rfl ?_
  refine sL_M_findKeys_7 (by omega) ?_ _ _  _ h
  intro m7 h
  refine r_iconst (pc := 27) (z := 0) (by decide +kernel) ⟨by decide, by decide⟩ ?_
  refine r_istore_n (pc := 28) (n := 1) (lv' := [(1, (0, 0)), (0, (2, a0))]) (by decide +kernel) rfl (Nat.le_of_ble_eq_true rfl) rfl ?_
  refine r_lv [1, 0] rfl ?_
  refine sL_M_findKeys_29 (by omega) ?_ _ _  _ h
  intro m29 h
  refine r_iconst (pc := 59) (z := 0) (by decide +kernel) ⟨by decide, by decide⟩ ?_
  refine r_istore_n (pc := 60) (n := 1) (lv' := [(1, (0, 0)), (0, (2, a0))]) (by decide +kernel) rfl (Nat.le_of_ble_eq_true rfl) rfl ?_
  refine r_lv [1, 0] rfl ?_
  refine sL_M_findKeys_61 (by omega) ?_ _ _  _ h
  intro m61 h
  obtain rfl := Option.some.inj h
  exact r_ret (pc := 145) (r := none) (by decide +kernel) rfl trivial (Nat.le_of_ble_eq_true rfl) (Nat.le_of_ble_eq_true rfl)

/-! TreeTonguesModel.ofTwo(ZZ)Z -/
noncomputable def D_M_ofTwo (a0 a1 a2 : Int) (M : Mem) : Option (Int × Mem) := (gf M a0 9 54 21).bind fun g1 => if g1 = 0 then ((if a1 = 0 then (if a2 = 0 then (some 1) else (some 0)) else (some 0)).bind fun (t8 : Int) => if t8 = 0 then (some (1, M)) else (some (0, M))) else ((gf M a0 9 54 21).bind fun g24 => if g24 = 1 then ((if a1 = 0 then (some 0) else (if a2 = 0 then (some 0) else (some 1))).bind fun (t32 : Int) => if t32 = 0 then (some (0, M)) else (some (1, M))) else ((gf M a0 9 54 21).bind fun g48 => if g48 = 2 then ((if a1 = 0 then (some 0) else (if a2 = 0 then (some 1) else (some 0))).bind fun (t56 : Int) => if t56 = 0 then (some (0, M)) else (some (1, M))) else (if a1 = a2 then (some (0, M)) else (some (1, M)))))
theorem c_M_ofTwo {d : Nat} (hd : 1 ≤ d) {a0 a1 a2 : Int} {M : Mem} {x : Int × Mem} (h : D_M_ofTwo a0 a1 a2 M = some x) : Ct d Y_M_ofTwo [(2, a0), (0, a1), (0, a2)] M (some (0, x.1), x.2) 0 0 := by
  refine ct_of yk_M_ofTwo (Nat.le_of_ble_eq_true rfl) ?_
  rw [D_M_ofTwo] at h
  show Rn Y_M_ofTwo d 0 0 0 0 (some (0, x.1), x.2) 0 [(0, (2, a0)), (1, (0, a1)), (2, (0, a2))] [] M
  refine r_aload_n (pc := 0) 0 (n := 0) (by decide +kernel) rfl rfl ?_
  obtain ⟨g1, q1, h⟩ := bnd h
  refine r_get (pc := 1) (by decide +kernel) fl_M_185.r (by decide) rfl q1 ?_
  refine r_if_ne (pc := 4) (off := 19) (tgt := 23) (by decide +kernel) (by decide) (fun c4 => ?_) (fun c4 => ?_)
  · have h := ite_f c4 h
    refine r_aload_n (pc := 23) 0 (n := 0) (by decide +kernel) rfl rfl ?_
    obtain ⟨g24, q24, h⟩ := bnd h
    refine r_get (pc := 24) (by decide +kernel) fl_M_185.r (by decide) rfl q24 ?_
    refine r_iconst (pc := 27) (z := 1) (by decide +kernel) ⟨by decide, by decide⟩ ?_
    refine r_icmp_ne (pc := 28) (off := 19) (tgt := 47) (by decide +kernel) (by decide) (fun c28 => ?_) (fun c28 => ?_)
    · have h := ite_f c28 h
      refine r_aload_n (pc := 47) 0 (n := 0) (by decide +kernel) rfl rfl ?_
      obtain ⟨g48, q48, h⟩ := bnd h
      refine r_get (pc := 48) (by decide +kernel) fl_M_185.r (by decide) rfl q48 ?_
      refine r_iconst (pc := 51) (z := 2) (by decide +kernel) ⟨by decide, by decide⟩ ?_
      refine r_icmp_ne (pc := 52) (off := 19) (tgt := 71) (by decide +kernel) (by decide) (fun c52 => ?_) (fun c52 => ?_)
      · have h := ite_f c52 h
        refine r_iload_n (pc := 71) 1 (n := 1) (by decide +kernel) rfl rfl ?_
        refine r_iload_n (pc := 72) 2 (n := 2) (by decide +kernel) rfl rfl ?_
        refine r_icmp_eq (pc := 73) (off := 7) (tgt := 80) (by decide +kernel) (by decide) (fun c73 => ?_) (fun c73 => ?_)
        · have h := ite_t c73 h
          refine r_iconst (pc := 80) (z := 0) (by decide +kernel) ⟨by decide, by decide⟩ ?_
          obtain rfl := Option.some.inj h
          exact r_ret (pc := 81) (r := some (0, 0)) (by decide +kernel) rfl (Or.inl rfl) (Nat.le_of_ble_eq_true rfl) (Nat.le_of_ble_eq_true rfl)
        · have h := ite_f c73 h
          refine r_iconst (pc := 76) (z := 1) (by decide +kernel) ⟨by decide, by decide⟩ ?_
          refine r_goto (pc := 77) (off := 4) (tgt := 81) (by decide +kernel) (by decide) ?_
          obtain rfl := Option.some.inj h
          exact r_ret (pc := 81) (r := some (0, 1)) (by decide +kernel) rfl (Or.inr rfl) (Nat.le_of_ble_eq_true rfl) (Nat.le_of_ble_eq_true rfl)
      · have h := ite_t c52 h
        refine r_iload_n (pc := 55) 1 (n := 1) (by decide +kernel) rfl rfl ?_
        obtain ⟨t56, ht56, h⟩ := bnd h
        have E56_0 : t56 = 0 → Rn Y_M_ofTwo d 0 0 0 0 (some (0, x.1), x.2) 67 [] [] M := by
          intro y0
          have h := ite_t y0 h
          refine r_iconst (pc := 67) (z := 0) (by decide +kernel) ⟨by decide, by decide⟩ ?_
          refine r_goto (pc := 68) (off := 13) (tgt := 81) (by decide +kernel) (by decide) ?_
          obtain rfl := Option.some.inj h
          exact r_ret (pc := 81) (r := some (0, 0)) (by decide +kernel) rfl (Or.inl rfl) (Nat.le_of_ble_eq_true rfl) (Nat.le_of_ble_eq_true rfl)
        have E56_1 : ¬ t56 = 0 → Rn Y_M_ofTwo d 0 0 0 0 (some (0, x.1), x.2) 63 [] [] M := by
          intro n0
          have h := ite_f n0 h
          refine r_iconst (pc := 63) (z := 1) (by decide +kernel) ⟨by decide, by decide⟩ ?_
          refine r_goto (pc := 64) (off := 17) (tgt := 81) (by decide +kernel) (by decide) ?_
          obtain rfl := Option.some.inj h
          exact r_ret (pc := 81) (r := some (0, 1)) (by decide +kernel) rfl (Or.inr rfl) (Nat.le_of_ble_eq_true rfl) (Nat.le_of_ble_eq_true rfl)
        refine r_if_eq (pc := 56) (off := 11) (tgt := 67) (by decide +kernel) (by decide) (fun c56 => ?_) (fun c56 => ?_)
        · have ht56 := ite_t c56 ht56
          obtain rfl := Option.some.inj ht56
          refine r_lv [] rfl ?_
          exact E56_0 rfl
        · have ht56 := ite_f c56 ht56
          refine r_iload_n (pc := 59) 2 (n := 2) (by decide +kernel) rfl rfl ?_
          refine r_if_ne (pc := 60) (off := 7) (tgt := 67) (by decide +kernel) (by decide) (fun c60 => ?_) (fun c60 => ?_)
          · have ht56 := ite_f c60 ht56
            obtain rfl := Option.some.inj ht56
            refine r_lv [] rfl ?_
            exact E56_0 rfl
          · have ht56 := ite_t c60 ht56
            obtain rfl := Option.some.inj ht56
            refine r_lv [] rfl ?_
            exact E56_1 (show ¬ (1 : Int) = 0 by decide)
    · have h := ite_t c28 h
      refine r_iload_n (pc := 31) 1 (n := 1) (by decide +kernel) rfl rfl ?_
      obtain ⟨t32, ht32, h⟩ := bnd h
      have E32_0 : t32 = 0 → Rn Y_M_ofTwo d 0 0 0 0 (some (0, x.1), x.2) 43 [] [] M := by
        intro y0
        have h := ite_t y0 h
        refine r_iconst (pc := 43) (z := 0) (by decide +kernel) ⟨by decide, by decide⟩ ?_
        refine r_goto (pc := 44) (off := 37) (tgt := 81) (by decide +kernel) (by decide) ?_
        obtain rfl := Option.some.inj h
        exact r_ret (pc := 81) (r := some (0, 0)) (by decide +kernel) rfl (Or.inl rfl) (Nat.le_of_ble_eq_true rfl) (Nat.le_of_ble_eq_true rfl)
      have E32_1 : ¬ t32 = 0 → Rn Y_M_ofTwo d 0 0 0 0 (some (0, x.1), x.2) 39 [] [] M := by
        intro n0
        have h := ite_f n0 h
        refine r_iconst (pc := 39) (z := 1) (by decide +kernel) ⟨by decide, by decide⟩ ?_
        refine r_goto (pc := 40) (off := 41) (tgt := 81) (by decide +kernel) (by decide) ?_
        obtain rfl := Option.some.inj h
        exact r_ret (pc := 81) (r := some (0, 1)) (by decide +kernel) rfl (Or.inr rfl) (Nat.le_of_ble_eq_true rfl) (Nat.le_of_ble_eq_true rfl)
      refine r_if_eq (pc := 32) (off := 11) (tgt := 43) (by decide +kernel) (by decide) (fun c32 => ?_) (fun c32 => ?_)
      · have ht32 := ite_t c32 ht32
        obtain rfl := Option.some.inj ht32
        refine r_lv [] rfl ?_
        exact E32_0 rfl
      · have ht32 := ite_f c32 ht32
        refine r_iload_n (pc := 35) 2 (n := 2) (by decide +kernel) rfl rfl ?_
        refine r_if_eq (pc := 36) (off := 7) (tgt := 43) (by decide +kernel) (by decide) (fun c36 => ?_) (fun c36 => ?_)
        · have ht32 := ite_t c36 ht32
          obtain rfl := Option.some.inj ht32
          refine r_lv [] rfl ?_
          exact E32_0 rfl
        · have ht32 := ite_f c36 ht32
          obtain rfl := Option.some.inj ht32
          refine r_lv [] rfl ?_
          exact E32_1 (show ¬ (1 : Int) = 0 by decide)
  · have h := ite_t c4 h
    refine r_iload_n (pc := 7) 1 (n := 1) (by decide +kernel) rfl rfl ?_
    obtain ⟨t8, ht8, h⟩ := bnd h
    have E8_0 : t8 = 0 → Rn Y_M_ofTwo d 0 0 0 0 (some (0, x.1), x.2) 15 [] [] M := by
      intro y0
      have h := ite_t y0 h
      refine r_iconst (pc := 15) (z := 1) (by decide +kernel) ⟨by decide, by decide⟩ ?_
      refine r_goto (pc := 16) (off := 65) (tgt := 81) (by decide +kernel) (by decide) ?_
      obtain rfl := Option.some.inj h
      exact r_ret (pc := 81) (r := some (0, 1)) (by decide +kernel) rfl (Or.inr rfl) (Nat.le_of_ble_eq_true rfl) (Nat.le_of_ble_eq_true rfl)
    have E8_1 : ¬ t8 = 0 → Rn Y_M_ofTwo d 0 0 0 0 (some (0, x.1), x.2) 19 [] [] M := by
      intro n0
      have h := ite_f n0 h
      refine r_iconst (pc := 19) (z := 0) (by decide +kernel) ⟨by decide, by decide⟩ ?_
      refine r_goto (pc := 20) (off := 61) (tgt := 81) (by decide +kernel) (by decide) ?_
      obtain rfl := Option.some.inj h
      exact r_ret (pc := 81) (r := some (0, 0)) (by decide +kernel) rfl (Or.inl rfl) (Nat.le_of_ble_eq_true rfl) (Nat.le_of_ble_eq_true rfl)
    refine r_if_ne (pc := 8) (off := 7) (tgt := 15) (by decide +kernel) (by decide) (fun c8 => ?_) (fun c8 => ?_)
    · have ht8 := ite_f c8 ht8
      obtain rfl := Option.some.inj ht8
      refine r_lv [] rfl ?_
      exact E8_0 rfl
    · have ht8 := ite_t c8 ht8
      refine r_iload_n (pc := 11) 2 (n := 2) (by decide +kernel) rfl rfl ?_
      refine r_if_eq (pc := 12) (off := 7) (tgt := 19) (by decide +kernel) (by decide) (fun c12 => ?_) (fun c12 => ?_)
      · have ht8 := ite_t c12 ht8
        obtain rfl := Option.some.inj ht8
        refine r_lv [] rfl ?_
        exact E8_1 (show ¬ (1 : Int) = 0 by decide)
      · have ht8 := ite_f c12 ht8
        obtain rfl := Option.some.inj ht8
        refine r_lv [] rfl ?_
        exact E8_0 rfl

/-! TreeTonguesModel.hasLast(I)Z -/
noncomputable def L_M_hasLast_4 (k : Int → Mem → Option (Int × Mem)) (v0 : Int) (v1 : Int) : Nat → Int → Int → Mem → Option (Int × Mem)
  | 0 => fun _ _ _ => none
  | n + 1 => fun v2 v3 M => (gf M v0 9 54 13).bind fun g6 => (rd M 10 g6 16).bind fun e11 => if e11 ≤ v3 then (k v2 M) else (((if v2 = 0 then ((if (iand (ishr v1 v3) 1) = 1 then ((gf M v0 9 54 15).bind fun g29 => (rd M 12 g29 (wr (96 + v3))).bind fun e36 => if e36 = 0 then (some 0) else (some 1)) else (some 0)).bind fun (t25 : Int) => if t25 = 0 then (some 1) else (some 0)) else (some 0)).bind fun (t16i : Int) => if t16i = 0 then (some 1) else (some 0)).bind fun (t16 : Int) => L_M_hasLast_4 k v0 v1 n t16 (wr (v3 + 1)) M)
noncomputable def D_M_hasLast (a0 a1 : Int) (M : Mem) : Option (Int × Mem) := L_M_hasLast_4 (fun w2_4 m4 => (bz w2_4).bind fun _ => some (w2_4, m4)) a0 a1 FU 0 0 M
theorem sL_M_hasLast_4 {d mc ms : Nat} (hd : 1 ≤ d) {r : Int × Mem} {k : Int → Mem → Option (Int × Mem)} {v0 : Int} {v1 : Int} (hk : ∀ (v2 : Int) (M : Mem), k v2 M = some r → Rn Y_M_hasLast d mc ms 0 0 (some (0, r.1), r.2) 52 [(2, (0, v2))] [] M) : ∀ (n : Nat) (v2 : Int) (v3 : Int) (M : Mem), L_M_hasLast_4 k v0 v1 n v2 v3 M = some r → Rn Y_M_hasLast d mc ms 0 0 (some (0, r.1), r.2) 4 [(0, (2, v0)), (1, (0, v1)), (2, (0, v2)), (3, (0, v3))] [] M := by
  intro n
  induction n with
  | zero => intro _ _ _ h; cases h
  | succ n ih =>
    intro v2 v3 M h
    rw [L_M_hasLast_4] at h
    refine r_iload_n (pc := 4) 3 (n := 3) (by decide +kernel) rfl rfl ?_
    refine r_aload_n (pc := 5) 0 (n := 0) (by decide +kernel) rfl rfl ?_
    obtain ⟨g6, q6, h⟩ := bnd h
    refine r_get (pc := 6) (by decide +kernel) fl_M_41.r (by decide) rfl q6 ?_
    refine r_bipush (pc := 9) (z := 16) (by decide +kernel) ⟨by decide, by decide⟩ ?_
    obtain ⟨e11, q11, h⟩ := bnd h
    refine r_iald (pc := 11) (by decide +kernel) q11 ?_
    refine r_icmp_ge (pc := 12) (off := 40) (tgt := 52) (by decide +kernel) (by decide) (fun c12 => ?_) (fun c12 => ?_)
    · have h := ite_t c12 h
      refine r_lv [2] rfl ?_
      exact hk v2 M h
    · have h := ite_f c12 h
      refine r_iload_n (pc := 15) 2 (n := 2) (by decide +kernel) rfl rfl ?_
      obtain ⟨t16, ht16, h⟩ := bnd h
      have E16_0 : Rn Y_M_hasLast d mc ms 0 0 (some (0, r.1), r.2) 45 [(0, (2, v0)), (1, (0, v1)), (3, (0, v3))] [(0, t16)] M := by
        refine r_istore_n (pc := 45) (n := 2) (lv' := [(2, (0, t16)), (0, (2, v0)), (1, (0, v1)), (3, (0, v3))]) (by decide +kernel) rfl (Nat.le_of_ble_eq_true rfl) rfl ?_
        refine r_iinc (pc := 46) 3 (n := 1) (lv' := [(3, (0, wr (v3 + 1))), (2, (0, t16)), (0, (2, v0)), (1, (0, v1))]) (by decide +kernel) rfl (Nat.le_of_ble_eq_true rfl) rfl ?_
        refine r_goto (pc := 49) (off := (-45)) (tgt := 4) (by decide +kernel) (by decide) ?_
        refine r_lv [2, 3, 1, 0] rfl ?_
        exact ih t16 (wr (v3 + 1)) M h
      obtain ⟨t16i, ht16i, ht16⟩ := bnd ht16
      have E16i_0 : t16i = 0 → Rn Y_M_hasLast d mc ms 0 0 (some (0, r.1), r.2) 40 [(0, (2, v0)), (1, (0, v1)), (3, (0, v3))] [] M := by
        intro y0
        have ht16 := ite_t y0 ht16
        refine r_iconst (pc := 40) (z := 1) (by decide +kernel) ⟨by decide, by decide⟩ ?_
        refine r_goto (pc := 41) (off := 4) (tgt := 45) (by decide +kernel) (by decide) ?_
        obtain rfl := Option.some.inj ht16
        exact E16_0
      have E16i_1 : ¬ t16i = 0 → Rn Y_M_hasLast d mc ms 0 0 (some (0, r.1), r.2) 44 [(0, (2, v0)), (1, (0, v1)), (3, (0, v3))] [] M := by
        intro n0
        have ht16 := ite_f n0 ht16
        refine r_iconst (pc := 44) (z := 0) (by decide +kernel) ⟨by decide, by decide⟩ ?_
        obtain rfl := Option.some.inj ht16
        exact E16_0
      refine r_if_ne (pc := 16) (off := 24) (tgt := 40) (by decide +kernel) (by decide) (fun c16 => ?_) (fun c16 => ?_)
      · have ht16i := ite_f c16 ht16i
        obtain rfl := Option.some.inj ht16i
        refine r_lv [0, 1, 3] rfl ?_
        exact E16i_0 rfl
      · have ht16i := ite_t c16 ht16i
        refine r_iload_n (pc := 19) 1 (n := 1) (by decide +kernel) rfl rfl ?_
        refine r_iload_n (pc := 20) 3 (n := 3) (by decide +kernel) rfl rfl ?_
        refine r_ishr (pc := 21) (by decide +kernel) ?_
        refine r_iconst (pc := 22) (z := 1) (by decide +kernel) ⟨by decide, by decide⟩ ?_
        refine r_iand (pc := 23) (by decide +kernel) ?_
        refine r_iconst (pc := 24) (z := 1) (by decide +kernel) ⟨by decide, by decide⟩ ?_
        obtain ⟨t25, ht25, ht16i⟩ := bnd ht16i
        have E25_0 : t25 = 0 → Rn Y_M_hasLast d mc ms 0 0 (some (0, r.1), r.2) 44 [(0, (2, v0)), (1, (0, v1)), (3, (0, v3))] [] M := by
          intro y0
          have ht16i := ite_t y0 ht16i
          obtain rfl := Option.some.inj ht16i
          exact E16i_1 (show ¬ (1 : Int) = 0 by decide)
        have E25_1 : ¬ t25 = 0 → Rn Y_M_hasLast d mc ms 0 0 (some (0, r.1), r.2) 40 [(0, (2, v0)), (1, (0, v1)), (3, (0, v3))] [] M := by
          intro n0
          have ht16i := ite_f n0 ht16i
          obtain rfl := Option.some.inj ht16i
          exact E16i_0 rfl
        refine r_icmp_ne (pc := 25) (off := 19) (tgt := 44) (by decide +kernel) (by decide) (fun c25 => ?_) (fun c25 => ?_)
        · have ht25 := ite_f c25 ht25
          obtain rfl := Option.some.inj ht25
          refine r_lv [0, 1, 3] rfl ?_
          exact E25_0 rfl
        · have ht25 := ite_t c25 ht25
          refine r_aload_n (pc := 28) 0 (n := 0) (by decide +kernel) rfl rfl ?_
          obtain ⟨g29, q29, ht25⟩ := bnd ht25
          refine r_get (pc := 29) (by decide +kernel) fl_M_47.r (by decide) rfl q29 ?_
          refine r_bipush (pc := 32) (z := 96) (by decide +kernel) ⟨by decide, by decide⟩ ?_
          refine r_iload_n (pc := 34) 3 (n := 3) (by decide +kernel) rfl rfl ?_
          refine r_iadd (pc := 35) (by decide +kernel) ?_
          obtain ⟨e36, q36, ht25⟩ := bnd ht25
          refine r_zald (pc := 36) (by decide +kernel) q36 ?_
          refine r_if_eq (pc := 37) (off := 7) (tgt := 44) (by decide +kernel) (by decide) (fun c37 => ?_) (fun c37 => ?_)
          · have ht25 := ite_t c37 ht25
            obtain rfl := Option.some.inj ht25
            refine r_lv [0, 1, 3] rfl ?_
            exact E25_0 rfl
          · have ht25 := ite_f c37 ht25
            obtain rfl := Option.some.inj ht25
            refine r_lv [0, 1, 3] rfl ?_
            exact E25_1 (show ¬ (1 : Int) = 0 by decide)
theorem c_M_hasLast {d : Nat} (hd : 1 ≤ d) {a0 a1 : Int} {M : Mem} {x : Int × Mem} (h : D_M_hasLast a0 a1 M = some x) : Ct d Y_M_hasLast [(2, a0), (0, a1)] M (some (0, x.1), x.2) 0 0 := by
  refine ct_of yk_M_hasLast (Nat.le_of_ble_eq_true rfl) ?_
  rw [D_M_hasLast] at h
  show Rn Y_M_hasLast d 0 0 0 0 (some (0, x.1), x.2) 0 [(0, (2, a0)), (1, (0, a1))] [] M
  refine r_iconst (pc := 0) (z := 0) (by decide +kernel) ⟨by decide, by decide⟩ ?_
  refine r_istore_n (pc := 1) (n := 2) (lv' := [(2, (0, 0)), (0, (2, a0)), (1, (0, a1))]) (by decide +kernel) rfl (Nat.le_of_ble_eq_true rfl) rfl ?_
  refine r_iconst (pc := 2) (z := 0) (by decide +kernel) ⟨by decide, by decide⟩ ?_
  refine r_istore_n (pc := 3) (n := 3) (lv' := [(3, (0, 0)), (2, (0, 0)), (0, (2, a0)), (1, (0, a1))]) (by decide +kernel) rfl (Nat.le_of_ble_eq_true rfl) rfl ?_
  refine r_lv [2, 3, 1, 0] rfl ?_
  refine sL_M_hasLast_4 (by omega) ?_ _ _ _  _ h
  intro w2_4 m4 h
  refine r_iload_n (pc := 52) 0 (n := 2) (by decide +kernel) rfl rfl ?_
  obtain ⟨_, qz, h⟩ := bnd h
  obtain rfl := Option.some.inj h
  exact r_ret (pc := 53) (r := some (0, w2_4)) (by decide +kernel) rfl (bz_s qz) (Nat.le_of_ble_eq_true rfl) (Nat.le_of_ble_eq_true rfl)

/-! TreeTonguesModel.isFinal(I)Z -/
noncomputable def D_M_isFinal (a0 a1 : Int) (M : Mem) : Option (Int × Mem) := (gf M a0 9 54 20).bind fun g1 => if (g1 < 0 ∨ 4 < g1) then ((ck M a0 9 54).bind fun _ => (D_M_hasLast a0 (idv a1 8) M).bind fun x178 => (bz x178.1).bind fun _ => some (x178.1, x178.2)) else if g1 = 0 then ((gf M a0 9 54 7).bind fun g42 => (gf M a0 9 54 22).bind fun g46 => (rd M 10 g42 g46).bind fun e49 => if (iand a1 e49) = 0 then (some (0, M)) else (some (1, M))) else if g1 = 1 then ((gf M a0 9 54 15).bind fun g62 => (rd M 12 g62 (wr (96 + (idv a1 8)))).bind fun e72 => (gf M a0 9 54 15).bind fun g74 => (rd M 12 g74 (wr (102 + (irm a1 8)))).bind fun e84 => (ck M a0 9 54).bind fun _ => (D_M_ofTwo a0 e72 e84 M).bind fun x85 => (bz x85.1).bind fun _ => some (x85.1, x85.2)) else if g1 = 2 then ((gf M a0 9 54 21).bind fun g90 => if g90 = 0 then ((gf M a0 9 54 15).bind fun g97 => (rd M 12 g97 (wr (96 + a1))).bind fun e104 => if e104 = 0 then (some (1, M)) else (some (0, M))) else ((gf M a0 9 54 21).bind fun g117 => if g117 = 1 then ((gf M a0 9 54 15).bind fun g125 => (rd M 12 g125 (wr (96 + a1))).bind fun e132 => (bz e132).bind fun _ => some (e132, M)) else ((gf M a0 9 54 25).bind fun g137 => if (iand (ishr g137 a1) 1) = 1 then (some (1, M)) else (some (0, M))))) else if g1 = 3 then ((ck M a0 9 54).bind fun _ => (D_M_hasLast a0 a1 M).bind fun x156 => (bz x156.1).bind fun _ => some (x156.1, x156.2)) else (if (irm a1 2) = 1 then (some (1, M)) else (some (0, M)))
theorem c_M_isFinal {d : Nat} (hd : 2 ≤ d) {a0 a1 : Int} {M : Mem} {x : Int × Mem} (h : D_M_isFinal a0 a1 M = some x) : Ct d Y_M_isFinal [(2, a0), (0, a1)] M (some (0, x.1), x.2) 0 0 := by
  refine ct_of yk_M_isFinal (Nat.le_of_ble_eq_true rfl) ?_
  rw [D_M_isFinal] at h
  show Rn Y_M_isFinal d 0 0 0 0 (some (0, x.1), x.2) 0 [(0, (2, a0)), (1, (0, a1))] [] M
  refine r_aload_n (pc := 0) 0 (n := 0) (by decide +kernel) rfl rfl ?_
  obtain ⟨g1, q1, h⟩ := bnd h
  refine r_get (pc := 1) (by decide +kernel) fl_M_170.r (by decide) rfl q1 ?_
  refine r_table (pc := 4) (dflt := 169) (lo := 0) (hi := 4) (offs := #[36, 56, 85, 150, 156]) (len := 36) (z := g1) (tg := fun j => [40, 60, 89, 154, 160].getD j 0) (dt := 173) (by decide +kernel) (by decide) (fun j hj => tb_of (N := 5) 4 #[36, 56, 85, 150, 156] (fun j => [40, 60, 89, 154, 160].getD j 0) (by decide +kernel) j (by omega)) (fun c4 => ?_) (fun j hz hj => ?_)
  · have h := ite_t c4 h
    refine r_aload_n (pc := 173) 0 (n := 0) (by decide +kernel) rfl rfl ?_
    refine r_iload_n (pc := 174) 1 (n := 1) (by decide +kernel) rfl rfl ?_
    refine r_bipush (pc := 175) (z := 8) (by decide +kernel) ⟨by decide, by decide⟩ ?_
    refine r_idiv (pc := 177) (by decide +kernel) (by decide) ?_
    obtain ⟨_, q178c, h⟩ := bnd h
    obtain ⟨x178, q178, h⟩ := bnd h
    refine r_callV (pc := 178) (i := 195) (d2 := d - 1) (As := [(0, idv a1 8)]) (st := []) (st1 := [(0, idv a1 8), (2, a0)]) (by decide +kernel) yk_M_hasLast (by decide) rfl ⟨ml_M_195, vk_M_hasLast⟩ np_M_hasLast rfl (by omega) q178c (c_M_hasLast (d := d - 1) (by omega) q178) (Nat.le_of_ble_eq_true rfl) (Nat.le_of_ble_eq_true rfl) (Nat.le_of_ble_eq_true rfl) rfl ?_
    show Rn _ d _ _ 0 0 _ 181 [(0, (2, a0)), (1, (0, a1))] [(0, x178.1)] x178.2
    obtain ⟨_, qz, h⟩ := bnd h
    obtain rfl := Option.some.inj h
    exact r_ret (pc := 181) (r := some (0, x178.1)) (by decide +kernel) rfl (bz_s qz) (Nat.le_of_ble_eq_true rfl) (Nat.le_of_ble_eq_true rfl)
  · have h := ite_f (show ¬ (g1 < 0 ∨ 4 < g1) by omega) h
    by_cases e0 : g1 = 0
    · have h := ite_t e0 h
      obtain rfl : j = 0 := by omega
      show Rn _ d _ _ 0 0 _ 40 [(0, (2, a0)), (1, (0, a1))] [] M
      refine r_iload_n (pc := 40) 1 (n := 1) (by decide +kernel) rfl rfl ?_
      refine r_aload_n (pc := 41) 0 (n := 0) (by decide +kernel) rfl rfl ?_
      obtain ⟨g42, q42, h⟩ := bnd h
      refine r_get (pc := 42) (by decide +kernel) fl_M_23.r (by decide) rfl q42 ?_
      refine r_aload_n (pc := 45) 0 (n := 0) (by decide +kernel) rfl rfl ?_
      obtain ⟨g46, q46, h⟩ := bnd h
      refine r_get (pc := 46) (by decide +kernel) fl_M_152.r (by decide) rfl q46 ?_
      obtain ⟨e49, q49, h⟩ := bnd h
      refine r_iald (pc := 49) (by decide +kernel) q49 ?_
      refine r_iand (pc := 50) (by decide +kernel) ?_
      refine r_if_eq (pc := 51) (off := 7) (tgt := 58) (by decide +kernel) (by decide) (fun c51 => ?_) (fun c51 => ?_)
      · have h := ite_t c51 h
        refine r_iconst (pc := 58) (z := 0) (by decide +kernel) ⟨by decide, by decide⟩ ?_
        obtain rfl := Option.some.inj h
        exact r_ret (pc := 59) (r := some (0, 0)) (by decide +kernel) rfl (Or.inl rfl) (Nat.le_of_ble_eq_true rfl) (Nat.le_of_ble_eq_true rfl)
      · have h := ite_f c51 h
        refine r_iconst (pc := 54) (z := 1) (by decide +kernel) ⟨by decide, by decide⟩ ?_
        refine r_goto (pc := 55) (off := 4) (tgt := 59) (by decide +kernel) (by decide) ?_
        obtain rfl := Option.some.inj h
        exact r_ret (pc := 59) (r := some (0, 1)) (by decide +kernel) rfl (Or.inr rfl) (Nat.le_of_ble_eq_true rfl) (Nat.le_of_ble_eq_true rfl)
    · have h := ite_f e0 h
      by_cases e1 : g1 = 1
      · have h := ite_t e1 h
        obtain rfl : j = 1 := by omega
        show Rn _ d _ _ 0 0 _ 60 [(0, (2, a0)), (1, (0, a1))] [] M
        refine r_aload_n (pc := 60) 0 (n := 0) (by decide +kernel) rfl rfl ?_
        refine r_aload_n (pc := 61) 0 (n := 0) (by decide +kernel) rfl rfl ?_
        obtain ⟨g62, q62, h⟩ := bnd h
        refine r_get (pc := 62) (by decide +kernel) fl_M_47.r (by decide) rfl q62 ?_
        refine r_bipush (pc := 65) (z := 96) (by decide +kernel) ⟨by decide, by decide⟩ ?_
        refine r_iload_n (pc := 67) 1 (n := 1) (by decide +kernel) rfl rfl ?_
        refine r_bipush (pc := 68) (z := 8) (by decide +kernel) ⟨by decide, by decide⟩ ?_
        refine r_idiv (pc := 70) (by decide +kernel) (by decide) ?_
        refine r_iadd (pc := 71) (by decide +kernel) ?_
        obtain ⟨e72, q72, h⟩ := bnd h
        refine r_zald (pc := 72) (by decide +kernel) q72 ?_
        refine r_aload_n (pc := 73) 0 (n := 0) (by decide +kernel) rfl rfl ?_
        obtain ⟨g74, q74, h⟩ := bnd h
        refine r_get (pc := 74) (by decide +kernel) fl_M_47.r (by decide) rfl q74 ?_
        refine r_bipush (pc := 77) (z := 102) (by decide +kernel) ⟨by decide, by decide⟩ ?_
        refine r_iload_n (pc := 79) 1 (n := 1) (by decide +kernel) rfl rfl ?_
        refine r_bipush (pc := 80) (z := 8) (by decide +kernel) ⟨by decide, by decide⟩ ?_
        refine r_irem (pc := 82) (by decide +kernel) (by decide) ?_
        refine r_iadd (pc := 83) (by decide +kernel) ?_
        obtain ⟨e84, q84, h⟩ := bnd h
        refine r_zald (pc := 84) (by decide +kernel) q84 ?_
        obtain ⟨_, q85c, h⟩ := bnd h
        obtain ⟨x85, q85, h⟩ := bnd h
        refine r_callV (pc := 85) (i := 188) (d2 := d - 1) (As := [(0, e72), (0, e84)]) (st := []) (st1 := [(0, e84), (0, e72), (2, a0)]) (by decide +kernel) yk_M_ofTwo (by decide) rfl ⟨ml_M_188, vk_M_ofTwo⟩ np_M_ofTwo rfl (by omega) q85c (c_M_ofTwo (d := d - 1) (by omega) q85) (Nat.le_of_ble_eq_true rfl) (Nat.le_of_ble_eq_true rfl) (Nat.le_of_ble_eq_true rfl) rfl ?_
        show Rn _ d _ _ 0 0 _ 88 [(0, (2, a0)), (1, (0, a1))] [(0, x85.1)] x85.2
        obtain ⟨_, qz, h⟩ := bnd h
        obtain rfl := Option.some.inj h
        exact r_ret (pc := 88) (r := some (0, x85.1)) (by decide +kernel) rfl (bz_s qz) (Nat.le_of_ble_eq_true rfl) (Nat.le_of_ble_eq_true rfl)
      · have h := ite_f e1 h
        by_cases e2 : g1 = 2
        · have h := ite_t e2 h
          obtain rfl : j = 2 := by omega
          show Rn _ d _ _ 0 0 _ 89 [(0, (2, a0)), (1, (0, a1))] [] M
          refine r_aload_n (pc := 89) 0 (n := 0) (by decide +kernel) rfl rfl ?_
          obtain ⟨g90, q90, h⟩ := bnd h
          refine r_get (pc := 90) (by decide +kernel) fl_M_185.r (by decide) rfl q90 ?_
          refine r_if_ne (pc := 93) (off := 23) (tgt := 116) (by decide +kernel) (by decide) (fun c93 => ?_) (fun c93 => ?_)
          · have h := ite_f c93 h
            refine r_aload_n (pc := 116) 0 (n := 0) (by decide +kernel) rfl rfl ?_
            obtain ⟨g117, q117, h⟩ := bnd h
            refine r_get (pc := 117) (by decide +kernel) fl_M_185.r (by decide) rfl q117 ?_
            refine r_iconst (pc := 120) (z := 1) (by decide +kernel) ⟨by decide, by decide⟩ ?_
            refine r_icmp_ne (pc := 121) (off := 15) (tgt := 136) (by decide +kernel) (by decide) (fun c121 => ?_) (fun c121 => ?_)
            · have h := ite_f c121 h
              refine r_aload_n (pc := 136) 0 (n := 0) (by decide +kernel) rfl rfl ?_
              obtain ⟨g137, q137, h⟩ := bnd h
              refine r_get (pc := 137) (by decide +kernel) fl_M_192.r (by decide) rfl q137 ?_
              refine r_iload_n (pc := 140) 1 (n := 1) (by decide +kernel) rfl rfl ?_
              refine r_ishr (pc := 141) (by decide +kernel) ?_
              refine r_iconst (pc := 142) (z := 1) (by decide +kernel) ⟨by decide, by decide⟩ ?_
              refine r_iand (pc := 143) (by decide +kernel) ?_
              refine r_iconst (pc := 144) (z := 1) (by decide +kernel) ⟨by decide, by decide⟩ ?_
              refine r_icmp_ne (pc := 145) (off := 7) (tgt := 152) (by decide +kernel) (by decide) (fun c145 => ?_) (fun c145 => ?_)
              · have h := ite_f c145 h
                refine r_iconst (pc := 152) (z := 0) (by decide +kernel) ⟨by decide, by decide⟩ ?_
                obtain rfl := Option.some.inj h
                exact r_ret (pc := 153) (r := some (0, 0)) (by decide +kernel) rfl (Or.inl rfl) (Nat.le_of_ble_eq_true rfl) (Nat.le_of_ble_eq_true rfl)
              · have h := ite_t c145 h
                refine r_iconst (pc := 148) (z := 1) (by decide +kernel) ⟨by decide, by decide⟩ ?_
                refine r_goto (pc := 149) (off := 4) (tgt := 153) (by decide +kernel) (by decide) ?_
                obtain rfl := Option.some.inj h
                exact r_ret (pc := 153) (r := some (0, 1)) (by decide +kernel) rfl (Or.inr rfl) (Nat.le_of_ble_eq_true rfl) (Nat.le_of_ble_eq_true rfl)
            · have h := ite_t c121 h
              refine r_aload_n (pc := 124) 0 (n := 0) (by decide +kernel) rfl rfl ?_
              obtain ⟨g125, q125, h⟩ := bnd h
              refine r_get (pc := 125) (by decide +kernel) fl_M_47.r (by decide) rfl q125 ?_
              refine r_bipush (pc := 128) (z := 96) (by decide +kernel) ⟨by decide, by decide⟩ ?_
              refine r_iload_n (pc := 130) 1 (n := 1) (by decide +kernel) rfl rfl ?_
              refine r_iadd (pc := 131) (by decide +kernel) ?_
              obtain ⟨e132, q132, h⟩ := bnd h
              refine r_zald (pc := 132) (by decide +kernel) q132 ?_
              refine r_goto (pc := 133) (off := 20) (tgt := 153) (by decide +kernel) (by decide) ?_
              obtain ⟨_, qz, h⟩ := bnd h
              obtain rfl := Option.some.inj h
              exact r_ret (pc := 153) (r := some (0, e132)) (by decide +kernel) rfl (bz_s qz) (Nat.le_of_ble_eq_true rfl) (Nat.le_of_ble_eq_true rfl)
          · have h := ite_t c93 h
            refine r_aload_n (pc := 96) 0 (n := 0) (by decide +kernel) rfl rfl ?_
            obtain ⟨g97, q97, h⟩ := bnd h
            refine r_get (pc := 97) (by decide +kernel) fl_M_47.r (by decide) rfl q97 ?_
            refine r_bipush (pc := 100) (z := 96) (by decide +kernel) ⟨by decide, by decide⟩ ?_
            refine r_iload_n (pc := 102) 1 (n := 1) (by decide +kernel) rfl rfl ?_
            refine r_iadd (pc := 103) (by decide +kernel) ?_
            obtain ⟨e104, q104, h⟩ := bnd h
            refine r_zald (pc := 104) (by decide +kernel) q104 ?_
            refine r_if_ne (pc := 105) (off := 7) (tgt := 112) (by decide +kernel) (by decide) (fun c105 => ?_) (fun c105 => ?_)
            · have h := ite_f c105 h
              refine r_iconst (pc := 112) (z := 0) (by decide +kernel) ⟨by decide, by decide⟩ ?_
              refine r_goto (pc := 113) (off := 40) (tgt := 153) (by decide +kernel) (by decide) ?_
              obtain rfl := Option.some.inj h
              exact r_ret (pc := 153) (r := some (0, 0)) (by decide +kernel) rfl (Or.inl rfl) (Nat.le_of_ble_eq_true rfl) (Nat.le_of_ble_eq_true rfl)
            · have h := ite_t c105 h
              refine r_iconst (pc := 108) (z := 1) (by decide +kernel) ⟨by decide, by decide⟩ ?_
              refine r_goto (pc := 109) (off := 44) (tgt := 153) (by decide +kernel) (by decide) ?_
              obtain rfl := Option.some.inj h
              exact r_ret (pc := 153) (r := some (0, 1)) (by decide +kernel) rfl (Or.inr rfl) (Nat.le_of_ble_eq_true rfl) (Nat.le_of_ble_eq_true rfl)
        · have h := ite_f e2 h
          by_cases e3 : g1 = 3
          · have h := ite_t e3 h
            obtain rfl : j = 3 := by omega
            show Rn _ d _ _ 0 0 _ 154 [(0, (2, a0)), (1, (0, a1))] [] M
            refine r_aload_n (pc := 154) 0 (n := 0) (by decide +kernel) rfl rfl ?_
            refine r_iload_n (pc := 155) 1 (n := 1) (by decide +kernel) rfl rfl ?_
            obtain ⟨_, q156c, h⟩ := bnd h
            obtain ⟨x156, q156, h⟩ := bnd h
            refine r_callV (pc := 156) (i := 195) (d2 := d - 1) (As := [(0, a1)]) (st := []) (st1 := [(0, a1), (2, a0)]) (by decide +kernel) yk_M_hasLast (by decide) rfl ⟨ml_M_195, vk_M_hasLast⟩ np_M_hasLast rfl (by omega) q156c (c_M_hasLast (d := d - 1) (by omega) q156) (Nat.le_of_ble_eq_true rfl) (Nat.le_of_ble_eq_true rfl) (Nat.le_of_ble_eq_true rfl) rfl ?_
            show Rn _ d _ _ 0 0 _ 159 [(0, (2, a0)), (1, (0, a1))] [(0, x156.1)] x156.2
            obtain ⟨_, qz, h⟩ := bnd h
            obtain rfl := Option.some.inj h
            exact r_ret (pc := 159) (r := some (0, x156.1)) (by decide +kernel) rfl (bz_s qz) (Nat.le_of_ble_eq_true rfl) (Nat.le_of_ble_eq_true rfl)
          · have h := ite_f e3 h
            obtain rfl : j = 4 := by omega
            show Rn _ d _ _ 0 0 _ 160 [(0, (2, a0)), (1, (0, a1))] [] M
            refine r_iload_n (pc := 160) 1 (n := 1) (by decide +kernel) rfl rfl ?_
            refine r_iconst (pc := 161) (z := 2) (by decide +kernel) ⟨by decide, by decide⟩ ?_
            refine r_irem (pc := 162) (by decide +kernel) (by decide) ?_
            refine r_iconst (pc := 163) (z := 1) (by decide +kernel) ⟨by decide, by decide⟩ ?_
            refine r_icmp_ne (pc := 164) (off := 7) (tgt := 171) (by decide +kernel) (by decide) (fun c164 => ?_) (fun c164 => ?_)
            · have h := ite_f c164 h
              refine r_iconst (pc := 171) (z := 0) (by decide +kernel) ⟨by decide, by decide⟩ ?_
              obtain rfl := Option.some.inj h
              exact r_ret (pc := 172) (r := some (0, 0)) (by decide +kernel) rfl (Or.inl rfl) (Nat.le_of_ble_eq_true rfl) (Nat.le_of_ble_eq_true rfl)
            · have h := ite_t c164 h
              refine r_iconst (pc := 167) (z := 1) (by decide +kernel) ⟨by decide, by decide⟩ ?_
              refine r_goto (pc := 168) (off := 4) (tgt := 172) (by decide +kernel) (by decide) ?_
              obtain rfl := Option.some.inj h
              exact r_ret (pc := 172) (r := some (0, 1)) (by decide +kernel) rfl (Or.inr rfl) (Nat.le_of_ble_eq_true rfl) (Nat.le_of_ble_eq_true rfl)

/-! TreeTonguesModel.partOf(III)I -/
noncomputable def D_M_partOf (a0 a1 a2 a3 : Int) (M : Mem) : Option (Int × Mem) := (gf M a0 9 54 29).bind fun g1 => (gf M a0 9 54 32).bind fun g5 => (rd M 10 g5 (wr ((wr ((wr (262144 * a1)) + (wr (512 * a2)))) + a3))).bind fun e20 => (rd M 10 g1 e20).bind fun e21 => some (e21, M)
theorem c_M_partOf {d : Nat} (hd : 1 ≤ d) {a0 a1 a2 a3 : Int} {M : Mem} {x : Int × Mem} (h : D_M_partOf a0 a1 a2 a3 M = some x) : Ct d Y_M_partOf [(2, a0), (0, a1), (0, a2), (0, a3)] M (some (0, x.1), x.2) 0 0 := by
  refine ct_of yk_M_partOf (Nat.le_of_ble_eq_true rfl) ?_
  rw [D_M_partOf] at h
  show Rn Y_M_partOf d 0 0 0 0 (some (0, x.1), x.2) 0 [(0, (2, a0)), (1, (0, a1)), (2, (0, a2)), (3, (0, a3))] [] M
  refine r_aload_n (pc := 0) 0 (n := 0) (by decide +kernel) rfl rfl ?_
  obtain ⟨g1, q1, h⟩ := bnd h
  refine r_get (pc := 1) (by decide +kernel) fl_M_68.r (by decide) rfl q1 ?_
  refine r_aload_n (pc := 4) 0 (n := 0) (by decide +kernel) rfl rfl ?_
  obtain ⟨g5, q5, h⟩ := bnd h
  refine r_get (pc := 5) (by decide +kernel) fl_M_78.r (by decide) rfl q5 ?_
  refine r_ldc (pc := 8) (i := 204) (z := 262144) (by decide +kernel) (mg 1159 (by decide +kernel) (by decide +kernel)) ⟨by decide, by decide⟩ ?_
  refine r_iload_n (pc := 10) 1 (n := 1) (by decide +kernel) rfl rfl ?_
  refine r_imul (pc := 11) (by decide +kernel) ?_
  refine r_sipush (pc := 12) (z := 512) (by decide +kernel) ⟨by decide, by decide⟩ ?_
  refine r_iload_n (pc := 15) 2 (n := 2) (by decide +kernel) rfl rfl ?_
  refine r_imul (pc := 16) (by decide +kernel) ?_
  refine r_iadd (pc := 17) (by decide +kernel) ?_
  refine r_iload_n (pc := 18) 3 (n := 3) (by decide +kernel) rfl rfl ?_
  refine r_iadd (pc := 19) (by decide +kernel) ?_
  obtain ⟨e20, q20, h⟩ := bnd h
  refine r_iald (pc := 20) (by decide +kernel) q20 ?_
  obtain ⟨e21, q21, h⟩ := bnd h
  refine r_iald (pc := 21) (by decide +kernel) q21 ?_
  obtain rfl := Option.some.inj h
  exact r_ret (pc := 22) (r := some (0, e21)) (by decide +kernel) rfl trivial (Nat.le_of_ble_eq_true rfl) (Nat.le_of_ble_eq_true rfl)

/-! TreeTonguesModel.areLike(II)Z -/
noncomputable def L_M_areLike_76 (k : Int → Mem → Option (Int × Mem)) (v0 : Int) (v1 : Int) (v2 : Int) (v4 : Int) : Nat → Int → Int → Mem → Option (Int × Mem)
  | 0 => fun _ _ _ => none
  | n + 1 => fun v3 v5 M => (gf M v0 9 54 26).bind fun g79 => (if g79 ≤ v5 then (some 0) else ((gf M v0 9 54 1).bind fun g86 => (rd M 10 g86 v4).bind fun e91 => if e91 = 2 then (if v3 = 0 then (some 0) else (some 1)) else (some 0))).bind fun (t82 : Int) => if t82 = 0 then (k v3 M) else ((ck M v0 9 54).bind fun _ => (D_M_partOf v0 v4 v1 v5 M).bind fun x106 => (ck x106.2 v0 9 54).bind fun _ => (D_M_partOf v0 v4 v2 v5 x106.2).bind fun x115 => ((if x106.1 = x115.1 then ((ck x115.2 v0 9 54).bind fun _ => (D_M_partOf v0 v4 v5 v1 x115.2).bind fun x127 => (ck x127.2 v0 9 54).bind fun _ => (D_M_partOf v0 v4 v5 v2 x127.2).bind fun x136 => if x127.1 = x136.1 then (some (1, x136.2)) else (some (0, x136.2))) else (some (0, x115.2))).bind fun (t118i : Int × Mem) => if t118i.1 = 0 then (some (0, t118i.2)) else (some (1, t118i.2))).bind fun (t118 : Int × Mem) => L_M_areLike_76 k v0 v1 v2 v4 n t118.1 (wr (v5 + 1)) t118.2)
noncomputable def L_M_areLike_24 (k : Int → Mem → Option (Int × Mem)) (v0 : Int) (v1 : Int) (v2 : Int) : Nat → Int → Int → Mem → Option (Int × Mem)
  | 0 => fun _ _ _ => none
  | n + 1 => fun v3 v4 M => (gf M v0 9 54 0).bind fun g27 => if g27 ≤ v4 then (k v3 M) else (if v3 = 0 then (k v3 M) else ((gf M v0 9 54 1).bind fun g38 => (rd M 10 g38 v4).bind fun e43 => (if e43 = 1 then ((ck M v0 9 54).bind fun _ => (D_M_partOf v0 v4 v1 0 M).bind fun x53 => (ck x53.2 v0 9 54).bind fun _ => (D_M_partOf v0 v4 v2 0 x53.2).bind fun x61 => (if x53.1 = x61.1 then (some 1) else (some 0)).bind fun (t64 : Int) => some (t64, x61.2)) else (some (v3, M))).bind fun (t45 : Int × Mem) => L_M_areLike_76 (fun w3_76 m76 => L_M_areLike_24 k v0 v1 v2 n w3_76 (wr (v4 + 1)) m76) v0 v1 v2 v4 FU t45.1 0 t45.2))
noncomputable def D_M_areLike (a0 a1 a2 : Int) (M : Mem) : Option (Int × Mem) := (gf M a0 9 54 29).bind fun g1 => (rd M 10 g1 a1).bind fun e5 => (gf M a0 9 54 29).bind fun g7 => (rd M 10 g7 a2).bind fun e11 => (if e5 = e11 then (some 1) else (some 0)).bind fun (t12 : Int) => L_M_areLike_24 (fun w3_24 m24 => (bz w3_24).bind fun _ => some (w3_24, m24)) a0 a1 a2 FU t12 0 M
theorem sL_M_areLike_76 {d mc ms : Nat} (hd : 2 ≤ d) {r : Int × Mem} {k : Int → Mem → Option (Int × Mem)} {v0 : Int} {v1 : Int} {v2 : Int} {v4 : Int} (hk : ∀ (v3 : Int) (M : Mem), k v3 M = some r → Rn Y_M_areLike d mc ms 0 0 (some (0, r.1), r.2) 154 [(0, (2, v0)), (1, (0, v1)), (2, (0, v2)), (3, (0, v3)), (4, (0, v4))] [] M) : ∀ (n : Nat) (v3 : Int) (v5 : Int) (M : Mem), L_M_areLike_76 k v0 v1 v2 v4 n v3 v5 M = some r → Rn Y_M_areLike d mc ms 0 0 (some (0, r.1), r.2) 76 [(0, (2, v0)), (1, (0, v1)), (2, (0, v2)), (3, (0, v3)), (4, (0, v4)), (5, (0, v5))] [] M := by
  intro n
  induction n with
  | zero => intro _ _ _ h; cases h
  | succ n ih =>
    intro v3 v5 M h
    rw [L_M_areLike_76] at h
    refine r_iload (pc := 76) 5 (by decide +kernel) rfl ?_
    refine r_aload_n (pc := 78) 0 (n := 0) (by decide +kernel) rfl rfl ?_
    obtain ⟨g79, q79, h⟩ := bnd h
    refine r_get (pc := 79) (by decide +kernel) fl_M_201.r (by decide) rfl q79 ?_
    obtain ⟨t82, ht82, h⟩ := bnd h
    have E82_0 : t82 = 0 → Rn Y_M_areLike d mc ms 0 0 (some (0, r.1), r.2) 154 [(0, (2, v0)), (1, (0, v1)), (2, (0, v2)), (3, (0, v3)), (4, (0, v4))] [] M := by
      intro y0
      have h := ite_t y0 h
      exact hk v3 M h
    have E82_1 : ¬ t82 = 0 → Rn Y_M_areLike d mc ms 0 0 (some (0, r.1), r.2) 100 [(0, (2, v0)), (1, (0, v1)), (2, (0, v2)), (4, (0, v4)), (5, (0, v5))] [] M := by
      intro n0
      have h := ite_f n0 h
      refine r_aload_n (pc := 100) 0 (n := 0) (by decide +kernel) rfl rfl ?_
      refine r_iload (pc := 101) 3 (by decide +kernel) rfl ?_
      refine r_iload_n (pc := 103) 1 (n := 1) (by decide +kernel) rfl rfl ?_
      refine r_iload (pc := 104) 4 (by decide +kernel) rfl ?_
      obtain ⟨_, q106c, h⟩ := bnd h
      obtain ⟨x106, q106, h⟩ := bnd h
      refine r_callV (pc := 106) (i := 209) (d2 := d - 1) (As := [(0, v4), (0, v1), (0, v5)]) (st := []) (st1 := [(0, v5), (0, v1), (0, v4), (2, v0)]) (by decide +kernel) yk_M_partOf (by decide) rfl ⟨ml_M_209, vk_M_partOf⟩ np_M_partOf rfl (by omega) q106c (c_M_partOf (d := d - 1) (by omega) q106) (Nat.le_of_ble_eq_true rfl) (Nat.le_of_ble_eq_true rfl) (Nat.le_of_ble_eq_true rfl) rfl ?_
      show Rn _ d _ _ 0 0 _ 109 [(0, (2, v0)), (1, (0, v1)), (2, (0, v2)), (4, (0, v4)), (5, (0, v5))] [(0, x106.1)] x106.2
      refine r_aload_n (pc := 109) 0 (n := 0) (by decide +kernel) rfl rfl ?_
      refine r_iload (pc := 110) 3 (by decide +kernel) rfl ?_
      refine r_iload_n (pc := 112) 2 (n := 2) (by decide +kernel) rfl rfl ?_
      refine r_iload (pc := 113) 4 (by decide +kernel) rfl ?_
      obtain ⟨_, q115c, h⟩ := bnd h
      obtain ⟨x115, q115, h⟩ := bnd h
      refine r_callV (pc := 115) (i := 209) (d2 := d - 1) (As := [(0, v4), (0, v2), (0, v5)]) (st := [(0, x106.1)]) (st1 := [(0, v5), (0, v2), (0, v4), (2, v0), (0, x106.1)]) (by decide +kernel) yk_M_partOf (by decide) rfl ⟨ml_M_209, vk_M_partOf⟩ np_M_partOf rfl (by omega) q115c (c_M_partOf (d := d - 1) (by omega) q115) (Nat.le_of_ble_eq_true rfl) (Nat.le_of_ble_eq_true rfl) (Nat.le_of_ble_eq_true rfl) rfl ?_
      show Rn _ d _ _ 0 0 _ 118 [(0, (2, v0)), (1, (0, v1)), (2, (0, v2)), (4, (0, v4)), (5, (0, v5))] [(0, x115.1), (0, x106.1)] x115.2
      obtain ⟨t118, ht118, h⟩ := bnd h
      have E118_0 : Rn Y_M_areLike d mc ms 0 0 (some (0, r.1), r.2) 147 [(0, (2, v0)), (1, (0, v1)), (2, (0, v2)), (4, (0, v4)), (5, (0, v5))] [(0, t118.1)] t118.2 := by
        refine r_istore_n (pc := 147) (n := 3) (lv' := [(3, (0, t118.1)), (0, (2, v0)), (1, (0, v1)), (2, (0, v2)), (4, (0, v4)), (5, (0, v5))]) (by decide +kernel) rfl (Nat.le_of_ble_eq_true rfl) rfl ?_
        refine r_iinc (pc := 148) 5 (n := 1) (lv' := [(5, (0, wr (v5 + 1))), (3, (0, t118.1)), (0, (2, v0)), (1, (0, v1)), (2, (0, v2)), (4, (0, v4))]) (by decide +kernel) rfl (Nat.le_of_ble_eq_true rfl) rfl ?_
        refine r_goto (pc := 151) (off := (-75)) (tgt := 76) (by decide +kernel) (by decide) ?_
        refine r_lv [2, 3, 4, 1, 5, 0] rfl ?_
        exact ih t118.1 (wr (v5 + 1)) t118.2 h
      obtain ⟨t118i, ht118i, ht118⟩ := bnd ht118
      have E118i_0 : t118i.1 = 0 → Rn Y_M_areLike d mc ms 0 0 (some (0, r.1), r.2) 146 [(0, (2, v0)), (1, (0, v1)), (2, (0, v2)), (4, (0, v4)), (5, (0, v5))] [] t118i.2 := by
        intro y0
        have ht118 := ite_t y0 ht118
        refine r_iconst (pc := 146) (z := 0) (by decide +kernel) ⟨by decide, by decide⟩ ?_
        obtain rfl := Option.some.inj ht118
        exact E118_0
      have E118i_1 : ¬ t118i.1 = 0 → Rn Y_M_areLike d mc ms 0 0 (some (0, r.1), r.2) 142 [(0, (2, v0)), (1, (0, v1)), (2, (0, v2)), (4, (0, v4)), (5, (0, v5))] [] t118i.2 := by
        intro n0
        have ht118 := ite_f n0 ht118
        refine r_iconst (pc := 142) (z := 1) (by decide +kernel) ⟨by decide, by decide⟩ ?_
        refine r_goto (pc := 143) (off := 4) (tgt := 147) (by decide +kernel) (by decide) ?_
        obtain rfl := Option.some.inj ht118
        exact E118_0
      refine r_icmp_ne (pc := 118) (off := 28) (tgt := 146) (by decide +kernel) (by decide) (fun c118 => ?_) (fun c118 => ?_)
      · have ht118i := ite_f c118 ht118i
        obtain rfl := Option.some.inj ht118i
        exact E118i_0 rfl
      · have ht118i := ite_t c118 ht118i
        refine r_aload_n (pc := 121) 0 (n := 0) (by decide +kernel) rfl rfl ?_
        refine r_iload (pc := 122) 3 (by decide +kernel) rfl ?_
        refine r_iload (pc := 124) 4 (by decide +kernel) rfl ?_
        refine r_iload_n (pc := 126) 1 (n := 1) (by decide +kernel) rfl rfl ?_
        obtain ⟨_, q127c, ht118i⟩ := bnd ht118i
        obtain ⟨x127, q127, ht118i⟩ := bnd ht118i
        refine r_callV (pc := 127) (i := 209) (d2 := d - 1) (As := [(0, v4), (0, v5), (0, v1)]) (st := []) (st1 := [(0, v1), (0, v5), (0, v4), (2, v0)]) (by decide +kernel) yk_M_partOf (by decide) rfl ⟨ml_M_209, vk_M_partOf⟩ np_M_partOf rfl (by omega) q127c (c_M_partOf (d := d - 1) (by omega) q127) (Nat.le_of_ble_eq_true rfl) (Nat.le_of_ble_eq_true rfl) (Nat.le_of_ble_eq_true rfl) rfl ?_
        show Rn _ d _ _ 0 0 _ 130 [(0, (2, v0)), (1, (0, v1)), (2, (0, v2)), (4, (0, v4)), (5, (0, v5))] [(0, x127.1)] x127.2
        refine r_aload_n (pc := 130) 0 (n := 0) (by decide +kernel) rfl rfl ?_
        refine r_iload (pc := 131) 3 (by decide +kernel) rfl ?_
        refine r_iload (pc := 133) 4 (by decide +kernel) rfl ?_
        refine r_iload_n (pc := 135) 2 (n := 2) (by decide +kernel) rfl rfl ?_
        obtain ⟨_, q136c, ht118i⟩ := bnd ht118i
        obtain ⟨x136, q136, ht118i⟩ := bnd ht118i
        refine r_callV (pc := 136) (i := 209) (d2 := d - 1) (As := [(0, v4), (0, v5), (0, v2)]) (st := [(0, x127.1)]) (st1 := [(0, v2), (0, v5), (0, v4), (2, v0), (0, x127.1)]) (by decide +kernel) yk_M_partOf (by decide) rfl ⟨ml_M_209, vk_M_partOf⟩ np_M_partOf rfl (by omega) q136c (c_M_partOf (d := d - 1) (by omega) q136) (Nat.le_of_ble_eq_true rfl) (Nat.le_of_ble_eq_true rfl) (Nat.le_of_ble_eq_true rfl) rfl ?_
        show Rn _ d _ _ 0 0 _ 139 [(0, (2, v0)), (1, (0, v1)), (2, (0, v2)), (4, (0, v4)), (5, (0, v5))] [(0, x136.1), (0, x127.1)] x136.2
        refine r_icmp_ne (pc := 139) (off := 7) (tgt := 146) (by decide +kernel) (by decide) (fun c139 => ?_) (fun c139 => ?_)
        · have ht118i := ite_f c139 ht118i
          obtain rfl := Option.some.inj ht118i
          exact E118i_0 rfl
        · have ht118i := ite_t c139 ht118i
          obtain rfl := Option.some.inj ht118i
          exact E118i_1 (show ¬ (1 : Int) = 0 by decide)
    refine r_icmp_ge (pc := 82) (off := 72) (tgt := 154) (by decide +kernel) (by decide) (fun c82 => ?_) (fun c82 => ?_)
    · have ht82 := ite_t c82 ht82
      obtain rfl := Option.some.inj ht82
      refine r_lv [0, 1, 2, 3, 4] rfl ?_
      exact E82_0 rfl
    · have ht82 := ite_f c82 ht82
      refine r_aload_n (pc := 85) 0 (n := 0) (by decide +kernel) rfl rfl ?_
      obtain ⟨g86, q86, ht82⟩ := bnd ht82
      refine r_get (pc := 86) (by decide +kernel) fl_M_7.r (by decide) rfl q86 ?_
      refine r_iload (pc := 89) 4 (by decide +kernel) rfl ?_
      obtain ⟨e91, q91, ht82⟩ := bnd ht82
      refine r_iald (pc := 91) (by decide +kernel) q91 ?_
      refine r_iconst (pc := 92) (z := 2) (by decide +kernel) ⟨by decide, by decide⟩ ?_
      refine r_icmp_ne (pc := 93) (off := 61) (tgt := 154) (by decide +kernel) (by decide) (fun c93 => ?_) (fun c93 => ?_)
      · have ht82 := ite_f c93 ht82
        obtain rfl := Option.some.inj ht82
        refine r_lv [0, 1, 2, 3, 4] rfl ?_
        exact E82_0 rfl
      · have ht82 := ite_t c93 ht82
        refine r_iload_n (pc := 96) 3 (n := 3) (by decide +kernel) rfl rfl ?_
        refine r_if_eq (pc := 97) (off := 57) (tgt := 154) (by decide +kernel) (by decide) (fun c97 => ?_) (fun c97 => ?_)
        · have ht82 := ite_t c97 ht82
          obtain rfl := Option.some.inj ht82
          refine r_lv [0, 1, 2, 3, 4] rfl ?_
          exact E82_0 rfl
        · have ht82 := ite_f c97 ht82
          obtain rfl := Option.some.inj ht82
          refine r_lv [0, 1, 2, 4, 5] rfl ?_
          exact E82_1 (show ¬ (1 : Int) = 0 by decide)
theorem sL_M_areLike_24 {d mc ms : Nat} (hd : 2 ≤ d) {r : Int × Mem} {k : Int → Mem → Option (Int × Mem)} {v0 : Int} {v1 : Int} {v2 : Int} (hk : ∀ (v3 : Int) (M : Mem), k v3 M = some r → Rn Y_M_areLike d mc ms 0 0 (some (0, r.1), r.2) 160 [(3, (0, v3))] [] M) : ∀ (n : Nat) (v3 : Int) (v4 : Int) (M : Mem), L_M_areLike_24 k v0 v1 v2 n v3 v4 M = some r → Rn Y_M_areLike d mc ms 0 0 (some (0, r.1), r.2) 24 [(0, (2, v0)), (1, (0, v1)), (2, (0, v2)), (3, (0, v3)), (4, (0, v4))] [] M := by
  intro n
  induction n with
  | zero => intro _ _ _ h; cases h
  | succ n ih =>
    intro v3 v4 M h
    rw [L_M_areLike_24] at h
    refine r_iload (pc := 24) 4 (by decide +kernel) rfl ?_
    refine r_aload_n (pc := 26) 0 (n := 0) (by decide +kernel) rfl rfl ?_
    obtain ⟨g27, q27, h⟩ := bnd h
    refine r_get (pc := 27) (by decide +kernel) fl_M_124.r (by decide) rfl q27 ?_
    refine r_icmp_ge (pc := 30) (off := 130) (tgt := 160) (by decide +kernel) (by decide) (fun c30 => ?_) (fun c30 => ?_)
    · have h := ite_t c30 h
      refine r_lv [3] rfl ?_
      exact hk v3 M h
    · have h := ite_f c30 h
      refine r_iload_n (pc := 33) 3 (n := 3) (by decide +kernel) rfl rfl ?_
      refine r_if_eq (pc := 34) (off := 126) (tgt := 160) (by decide +kernel) (by decide) (fun c34 => ?_) (fun c34 => ?_)
      · have h := ite_t c34 h
        refine r_lv [3] rfl ?_
        exact hk v3 M h
      · have h := ite_f c34 h
        refine r_aload_n (pc := 37) 0 (n := 0) (by decide +kernel) rfl rfl ?_
        obtain ⟨g38, q38, h⟩ := bnd h
        refine r_get (pc := 38) (by decide +kernel) fl_M_7.r (by decide) rfl q38 ?_
        refine r_iload (pc := 41) 4 (by decide +kernel) rfl ?_
        obtain ⟨e43, q43, h⟩ := bnd h
        refine r_iald (pc := 43) (by decide +kernel) q43 ?_
        refine r_iconst (pc := 44) (z := 1) (by decide +kernel) ⟨by decide, by decide⟩ ?_
        obtain ⟨t45, ht45, h⟩ := bnd h
        have E45_0 : Rn Y_M_areLike d mc ms 0 0 (some (0, r.1), r.2) 73 [(0, (2, v0)), (1, (0, v1)), (2, (0, v2)), (3, (0, t45.1)), (4, (0, v4))] [] t45.2 := by
          refine r_iconst (pc := 73) (z := 0) (by decide +kernel) ⟨by decide, by decide⟩ ?_
          refine r_istore (pc := 74) (lv' := [(5, (0, 0)), (0, (2, v0)), (1, (0, v1)), (2, (0, v2)), (3, (0, t45.1)), (4, (0, v4))]) (by decide +kernel) (Nat.le_of_ble_eq_true rfl) rfl ?_
          refine r_lv [1, 2, 3, 4, 5, 0] rfl ?_
          refine sL_M_areLike_76 (by omega) ?_ _ _ _  _ h
          intro w3_76 m76 h
          refine r_iinc (pc := 154) 4 (n := 1) (lv' := [(4, (0, wr (v4 + 1))), (0, (2, v0)), (1, (0, v1)), (2, (0, v2)), (3, (0, w3_76))]) (by decide +kernel) rfl (Nat.le_of_ble_eq_true rfl) rfl ?_
          refine r_goto (pc := 157) (off := (-133)) (tgt := 24) (by decide +kernel) (by decide) ?_
          refine r_lv [1, 2, 3, 4, 0] rfl ?_
          exact ih w3_76 (wr (v4 + 1)) m76 h
        refine r_icmp_ne (pc := 45) (off := 28) (tgt := 73) (by decide +kernel) (by decide) (fun c45 => ?_) (fun c45 => ?_)
        · have ht45 := ite_f c45 ht45
          obtain rfl := Option.some.inj ht45
          exact E45_0
        · have ht45 := ite_t c45 ht45
          refine r_aload_n (pc := 48) 0 (n := 0) (by decide +kernel) rfl rfl ?_
          refine r_iload (pc := 49) 4 (by decide +kernel) rfl ?_
          refine r_iload_n (pc := 51) 1 (n := 1) (by decide +kernel) rfl rfl ?_
          refine r_iconst (pc := 52) (z := 0) (by decide +kernel) ⟨by decide, by decide⟩ ?_
          obtain ⟨_, q53c, ht45⟩ := bnd ht45
          obtain ⟨x53, q53, ht45⟩ := bnd ht45
          refine r_callV (pc := 53) (i := 209) (d2 := d - 1) (As := [(0, v4), (0, v1), (0, 0)]) (st := []) (st1 := [(0, 0), (0, v1), (0, v4), (2, v0)]) (by decide +kernel) yk_M_partOf (by decide) rfl ⟨ml_M_209, vk_M_partOf⟩ np_M_partOf rfl (by omega) q53c (c_M_partOf (d := d - 1) (by omega) q53) (Nat.le_of_ble_eq_true rfl) (Nat.le_of_ble_eq_true rfl) (Nat.le_of_ble_eq_true rfl) rfl ?_
          show Rn _ d _ _ 0 0 _ 56 [(0, (2, v0)), (1, (0, v1)), (2, (0, v2)), (3, (0, v3)), (4, (0, v4))] [(0, x53.1)] x53.2
          refine r_aload_n (pc := 56) 0 (n := 0) (by decide +kernel) rfl rfl ?_
          refine r_iload (pc := 57) 4 (by decide +kernel) rfl ?_
          refine r_iload_n (pc := 59) 2 (n := 2) (by decide +kernel) rfl rfl ?_
          refine r_iconst (pc := 60) (z := 0) (by decide +kernel) ⟨by decide, by decide⟩ ?_
          obtain ⟨_, q61c, ht45⟩ := bnd ht45
          obtain ⟨x61, q61, ht45⟩ := bnd ht45
          refine r_callV (pc := 61) (i := 209) (d2 := d - 1) (As := [(0, v4), (0, v2), (0, 0)]) (st := [(0, x53.1)]) (st1 := [(0, 0), (0, v2), (0, v4), (2, v0), (0, x53.1)]) (by decide +kernel) yk_M_partOf (by decide) rfl ⟨ml_M_209, vk_M_partOf⟩ np_M_partOf rfl (by omega) q61c (c_M_partOf (d := d - 1) (by omega) q61) (Nat.le_of_ble_eq_true rfl) (Nat.le_of_ble_eq_true rfl) (Nat.le_of_ble_eq_true rfl) rfl ?_
          show Rn _ d _ _ 0 0 _ 64 [(0, (2, v0)), (1, (0, v1)), (2, (0, v2)), (3, (0, v3)), (4, (0, v4))] [(0, x61.1), (0, x53.1)] x61.2
          obtain ⟨t64, ht64, ht45⟩ := bnd ht45
          have E64_0 : Rn Y_M_areLike d mc ms 0 0 (some (0, r.1), r.2) 72 [(0, (2, v0)), (1, (0, v1)), (2, (0, v2)), (4, (0, v4))] [(0, t64)] x61.2 := by
            refine r_istore_n (pc := 72) (n := 3) (lv' := [(3, (0, t64)), (0, (2, v0)), (1, (0, v1)), (2, (0, v2)), (4, (0, v4))]) (by decide +kernel) rfl (Nat.le_of_ble_eq_true rfl) rfl ?_
            obtain rfl := Option.some.inj ht45
            refine r_lv [1, 2, 3, 0, 4] rfl ?_
            exact E45_0
          refine r_icmp_ne (pc := 64) (off := 7) (tgt := 71) (by decide +kernel) (by decide) (fun c64 => ?_) (fun c64 => ?_)
          · have ht64 := ite_f c64 ht64
            refine r_iconst (pc := 71) (z := 0) (by decide +kernel) ⟨by decide, by decide⟩ ?_
            obtain rfl := Option.some.inj ht64
            refine r_lv [0, 1, 2, 4] rfl ?_
            exact E64_0
          · have ht64 := ite_t c64 ht64
            refine r_iconst (pc := 67) (z := 1) (by decide +kernel) ⟨by decide, by decide⟩ ?_
            refine r_goto (pc := 68) (off := 4) (tgt := 72) (by decide +kernel) (by decide) ?_
            obtain rfl := Option.some.inj ht64
            refine r_lv [0, 1, 2, 4] rfl ?_
            exact E64_0
theorem c_M_areLike {d : Nat} (hd : 2 ≤ d) {a0 a1 a2 : Int} {M : Mem} {x : Int × Mem} (h : D_M_areLike a0 a1 a2 M = some x) : Ct d Y_M_areLike [(2, a0), (0, a1), (0, a2)] M (some (0, x.1), x.2) 0 0 := by
  refine ct_of yk_M_areLike (Nat.le_of_ble_eq_true rfl) ?_
  rw [D_M_areLike] at h
  show Rn Y_M_areLike d 0 0 0 0 (some (0, x.1), x.2) 0 [(0, (2, a0)), (1, (0, a1)), (2, (0, a2))] [] M
  refine r_aload_n (pc := 0) 0 (n := 0) (by decide +kernel) rfl rfl ?_
  obtain ⟨g1, q1, h⟩ := bnd h
  refine r_get (pc := 1) (by decide +kernel) fl_M_68.r (by decide) rfl q1 ?_
  refine r_iload_n (pc := 4) 1 (n := 1) (by decide +kernel) rfl rfl ?_
  obtain ⟨e5, q5, h⟩ := bnd h
  refine r_iald (pc := 5) (by decide +kernel) q5 ?_
  refine r_aload_n (pc := 6) 0 (n := 0) (by decide +kernel) rfl rfl ?_
  obtain ⟨g7, q7, h⟩ := bnd h
  refine r_get (pc := 7) (by decide +kernel) fl_M_68.r (by decide) rfl q7 ?_
  refine r_iload_n (pc := 10) 2 (n := 2) (by decide +kernel) rfl rfl ?_
  obtain ⟨e11, q11, h⟩ := bnd h
  refine r_iald (pc := 11) (by decide +kernel) q11 ?_
  obtain ⟨t12, ht12, h⟩ := bnd h
  have E12_0 : Rn Y_M_areLike d 0 0 0 0 (some (0, x.1), x.2) 20 [(0, (2, a0)), (1, (0, a1)), (2, (0, a2))] [(0, t12)] M := by
    refine r_istore_n (pc := 20) (n := 3) (lv' := [(3, (0, t12)), (0, (2, a0)), (1, (0, a1)), (2, (0, a2))]) (by decide +kernel) rfl (Nat.le_of_ble_eq_true rfl) rfl ?_
    refine r_iconst (pc := 21) (z := 0) (by decide +kernel) ⟨by decide, by decide⟩ ?_
    refine r_istore (pc := 22) (lv' := [(4, (0, 0)), (3, (0, t12)), (0, (2, a0)), (1, (0, a1)), (2, (0, a2))]) (by decide +kernel) (Nat.le_of_ble_eq_true rfl) rfl ?_
    refine r_lv [2, 3, 4, 1, 0] rfl ?_
    refine sL_M_areLike_24 (by omega) ?_ _ _ _  _ h
    intro w3_24 m24 h
    refine r_iload_n (pc := 160) 0 (n := 3) (by decide +kernel) rfl rfl ?_
    obtain ⟨_, qz, h⟩ := bnd h
    obtain rfl := Option.some.inj h
    exact r_ret (pc := 161) (r := some (0, w3_24)) (by decide +kernel) rfl (bz_s qz) (Nat.le_of_ble_eq_true rfl) (Nat.le_of_ble_eq_true rfl)
  refine r_icmp_ne (pc := 12) (off := 7) (tgt := 19) (by decide +kernel) (by decide) (fun c12 => ?_) (fun c12 => ?_)
  · have ht12 := ite_f c12 ht12
    refine r_iconst (pc := 19) (z := 0) (by decide +kernel) ⟨by decide, by decide⟩ ?_
    obtain rfl := Option.some.inj ht12
    exact E12_0
  · have ht12 := ite_t c12 ht12
    refine r_iconst (pc := 15) (z := 1) (by decide +kernel) ⟨by decide, by decide⟩ ?_
    refine r_goto (pc := 16) (off := 4) (tgt := 20) (by decide +kernel) (by decide) ?_
    obtain rfl := Option.some.inj ht12
    exact E12_0
