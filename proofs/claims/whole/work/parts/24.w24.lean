/-! TreeTonguesModel.divide(Z)I -/
noncomputable def L_M_divide_15 (k : Int → Mem → Option (Int × Mem)) (v0 : Int) (v1 : Int) (v2 : Int) (v3 : Int) : Nat → Int → Mem → Option (Int × Mem)
  | 0 => fun _ _ => none
  | n + 1 => fun v4 M => (if v2 ≤ v4 then (some (0, M)) else ((if v1 = 0 then ((gf M v0 9 54 31).bind fun g60 => (rd M 10 g60 v4).bind fun e65 => (ck M v0 9 54).bind fun _ => (D_M_areLike v0 v3 e65 M).bind fun x66 => if x66.1 = 0 then (some (0, x66.2)) else (some (2, x66.2))) else ((gf M v0 9 54 27).bind fun g27 => (rd M 10 g27 v3).bind fun e31 => (ck M v0 9 54).bind fun _ => (D_M_isFinal v0 e31 M).bind fun x32 => (gf x32.2 v0 9 54 27).bind fun g37 => (gf x32.2 v0 9 54 31).bind fun g41 => (rd x32.2 10 g41 v4).bind fun e46 => (rd x32.2 10 g37 e46).bind fun e47 => (ck x32.2 v0 9 54).bind fun _ => (D_M_isFinal v0 e47 x32.2).bind fun x48 => if x32.1 = x48.1 then (some (1, x48.2)) else (some (0, x48.2)))).bind fun (t22 : Int × Mem) => if t22.1 = 0 then (some (1, t22.2)) else if t22.1 = 1 then (some (0, t22.2)) else (some (0, t22.2)))).bind fun (t18 : Int × Mem) => if t18.1 = 0 then (k v4 t18.2) else (L_M_divide_15 k v0 v1 v2 v3 n (wr (v4 + 1)) t18.2)
noncomputable def L_M_divide_4 (k : Int → Mem → Option (Int × Mem)) (v0 : Int) (v1 : Int) : Nat → Int → Int → Mem → Option (Int × Mem)
  | 0 => fun _ _ _ => none
  | n + 1 => fun v2 v3 M => (gf M v0 9 54 26).bind fun g6 => if g6 ≤ v3 then (k v2 M) else (L_M_divide_15 (fun w4_15 m15 => (if w4_15 = v2 then ((gf m15 v0 9 54 31).bind fun g85 => (wt m15 10 g85 v2 v3).bind fun m90 => if (wr (v2 + 1)) ≤ 6 then (some (0, wr (v2 + 1), m90)) else (some (1, wr (v2 + 1), m90))) else (some (0, v2, m15))).bind fun (t81 : Int × Int × Mem) => if t81.1 = 0 then ((gf t81.2.2 v0 9 54 30).bind fun g103 => (wt t81.2.2 10 g103 v3 w4_15).bind fun m109 => L_M_divide_4 k v0 v1 n t81.2.1 (wr (v3 + 1)) m109) else (some (t81.2.1, t81.2.2))) v0 v1 v2 v3 FU 0 M)
noncomputable def L_M_divide_118 (k : Mem → Option (Int × Mem)) (v0 : Int) (v2 : Int) : Nat → Int → Mem → Option (Int × Mem)
  | 0 => fun _ _ => none
  | n + 1 => fun v3 M => (gf M v0 9 54 26).bind fun g120 => if g120 ≤ v3 then (k  M) else ((gf M v0 9 54 29).bind fun g127 => (gf M v0 9 54 30).bind fun g132 => (rd M 10 g132 v3).bind fun e136 => (wt M 10 g127 v3 e136).bind fun m137 => L_M_divide_118 k v0 v2 n (wr (v3 + 1)) m137)
noncomputable def D_M_divide (a0 a1 : Int) (M : Mem) : Option (Int × Mem) := L_M_divide_4 (fun w2_4 m4 => L_M_divide_118 (fun  m118 => some (w2_4, m118)) a0 w2_4 FU 0 m4) a0 a1 FU 0 0 M
theorem sL_M_divide_15 {d mc ms : Nat} (hd : 3 ≤ d) {r : Int × Mem} {k : Int → Mem → Option (Int × Mem)} {v0 : Int} {v1 : Int} {v2 : Int} {v3 : Int} (hk : ∀ (v4 : Int) (M : Mem), k v4 M = some r → Rn Y_M_divide d mc ms 0 0 (some (0, r.1), r.2) 78 [(0, (2, v0)), (1, (0, v1)), (2, (0, v2)), (3, (0, v3)), (4, (0, v4))] [] M) : ∀ (n : Nat) (v4 : Int) (M : Mem), L_M_divide_15 k v0 v1 v2 v3 n v4 M = some r → Rn Y_M_divide d mc ms 0 0 (some (0, r.1), r.2) 15 [(0, (2, v0)), (1, (0, v1)), (2, (0, v2)), (3, (0, v3)), (4, (0, v4))] [] M := by
  intro n
  induction n with
  | zero => intro _ _ h; cases h
  | succ n ih =>
    intro v4 M h
    rw [L_M_divide_15] at h
    refine r_iload (pc := 15) 4 (by decide +kernel) rfl ?_
    refine r_iload_n (pc := 17) 2 (n := 2) (by decide +kernel) rfl rfl ?_
    obtain ⟨t18, ht18, h⟩ := bnd h
    have E18_0 : t18.1 = 0 → Rn Y_M_divide d mc ms 0 0 (some (0, r.1), r.2) 78 [(0, (2, v0)), (1, (0, v1)), (2, (0, v2)), (3, (0, v3)), (4, (0, v4))] [] t18.2 := by
      intro y0
      have h := ite_t y0 h
      exact hk v4 t18.2 h
    have E18_1 : ¬ t18.1 = 0 → Rn Y_M_divide d mc ms 0 0 (some (0, r.1), r.2) 72 [(0, (2, v0)), (1, (0, v1)), (2, (0, v2)), (3, (0, v3)), (4, (0, v4))] [] t18.2 := by
      intro n0
      have h := ite_f n0 h
      refine r_iinc (pc := 72) 4 (n := 1) (lv' := [(4, (0, wr (v4 + 1))), (0, (2, v0)), (1, (0, v1)), (2, (0, v2)), (3, (0, v3))]) (by decide +kernel) rfl (Nat.le_of_ble_eq_true rfl) rfl ?_
      refine r_goto (pc := 75) (off := (-60)) (tgt := 15) (by decide +kernel) (by decide) ?_
      refine r_lv [1, 2, 3, 4, 0] rfl ?_
      exact ih (wr (v4 + 1)) t18.2 h
    refine r_icmp_ge (pc := 18) (off := 60) (tgt := 78) (by decide +kernel) (by decide) (fun c18 => ?_) (fun c18 => ?_)
    · have ht18 := ite_t c18 ht18
      obtain rfl := Option.some.inj ht18
      exact E18_0 rfl
    · have ht18 := ite_f c18 ht18
      refine r_iload_n (pc := 21) 1 (n := 1) (by decide +kernel) rfl rfl ?_
      obtain ⟨t22, ht22, ht18⟩ := bnd ht18
      have E22_0 : t22.1 = 0 → Rn Y_M_divide d mc ms 0 0 (some (0, r.1), r.2) 72 [(0, (2, v0)), (1, (0, v1)), (2, (0, v2)), (3, (0, v3)), (4, (0, v4))] [] t22.2 := by
        intro y0
        have ht18 := ite_t y0 ht18
        obtain rfl := Option.some.inj ht18
        exact E18_1 (show ¬ (1 : Int) = 0 by decide)
      have E22_1 : ¬ t22.1 = 0 → t22.1 = 1 → Rn Y_M_divide d mc ms 0 0 (some (0, r.1), r.2) 54 [(0, (2, v0)), (1, (0, v1)), (2, (0, v2)), (3, (0, v3)), (4, (0, v4))] [] t22.2 := by
        intro n0 y1
        have ht18 := ite_f n0 ht18
        have ht18 := ite_t y1 ht18
        refine r_goto (pc := 54) (off := 24) (tgt := 78) (by decide +kernel) (by decide) ?_
        obtain rfl := Option.some.inj ht18
        exact E18_0 rfl
      have E22_2 : ¬ t22.1 = 0 → ¬ t22.1 = 1 → Rn Y_M_divide d mc ms 0 0 (some (0, r.1), r.2) 78 [(0, (2, v0)), (1, (0, v1)), (2, (0, v2)), (3, (0, v3)), (4, (0, v4))] [] t22.2 := by
        intro n0 n1
        have ht18 := ite_f n0 ht18
        have ht18 := ite_f n1 ht18
        obtain rfl := Option.some.inj ht18
        exact E18_0 rfl
      refine r_if_eq (pc := 22) (off := 35) (tgt := 57) (by decide +kernel) (by decide) (fun c22 => ?_) (fun c22 => ?_)
      · have ht22 := ite_t c22 ht22
        refine r_aload_n (pc := 57) 0 (n := 0) (by decide +kernel) rfl rfl ?_
        refine r_iload_n (pc := 58) 3 (n := 3) (by decide +kernel) rfl rfl ?_
        refine r_aload_n (pc := 59) 0 (n := 0) (by decide +kernel) rfl rfl ?_
        obtain ⟨g60, q60, ht22⟩ := bnd ht22
        refine r_get (pc := 60) (by decide +kernel) fl_M_74.r (by decide) rfl q60 ?_
        refine r_iload (pc := 63) 4 (by decide +kernel) rfl ?_
        obtain ⟨e65, q65, ht22⟩ := bnd ht22
        refine r_iald (pc := 65) (by decide +kernel) q65 ?_
        obtain ⟨_, q66c, ht22⟩ := bnd ht22
        obtain ⟨x66, q66, ht22⟩ := bnd ht22
        refine r_callV (pc := 66) (i := 215) (d2 := d - 1) (As := [(0, v3), (0, e65)]) (st := []) (st1 := [(0, e65), (0, v3), (2, v0)]) (by decide +kernel) yk_M_areLike (by decide) rfl ⟨ml_M_215, vk_M_areLike⟩ np_M_areLike rfl (by omega) q66c (c_M_areLike (d := d - 1) (by omega) q66) (Nat.le_of_ble_eq_true rfl) (Nat.le_of_ble_eq_true rfl) (Nat.le_of_ble_eq_true rfl) rfl ?_
        show Rn _ d _ _ 0 0 _ 69 [(0, (2, v0)), (1, (0, v1)), (2, (0, v2)), (3, (0, v3)), (4, (0, v4))] [(0, x66.1)] x66.2
        refine r_if_ne (pc := 69) (off := 9) (tgt := 78) (by decide +kernel) (by decide) (fun c69 => ?_) (fun c69 => ?_)
        · have ht22 := ite_f c69 ht22
          obtain rfl := Option.some.inj ht22
          exact E22_2 (show ¬ (2 : Int) = 0 by decide) (show ¬ (2 : Int) = 1 by decide)
        · have ht22 := ite_t c69 ht22
          obtain rfl := Option.some.inj ht22
          exact E22_0 rfl
      · have ht22 := ite_f c22 ht22
        refine r_aload_n (pc := 25) 0 (n := 0) (by decide +kernel) rfl rfl ?_
        refine r_aload_n (pc := 26) 0 (n := 0) (by decide +kernel) rfl rfl ?_
        obtain ⟨g27, q27, ht22⟩ := bnd ht22
        refine r_get (pc := 27) (by decide +kernel) fl_M_62.r (by decide) rfl q27 ?_
        refine r_iload_n (pc := 30) 3 (n := 3) (by decide +kernel) rfl rfl ?_
        obtain ⟨e31, q31, ht22⟩ := bnd ht22
        refine r_iald (pc := 31) (by decide +kernel) q31 ?_
        obtain ⟨_, q32c, ht22⟩ := bnd ht22
        obtain ⟨x32, q32, ht22⟩ := bnd ht22
        refine r_callV (pc := 32) (i := 212) (d2 := d - 1) (As := [(0, e31)]) (st := []) (st1 := [(0, e31), (2, v0)]) (by decide +kernel) yk_M_isFinal (by decide) rfl ⟨ml_M_212, vk_M_isFinal⟩ np_M_isFinal rfl (by omega) q32c (c_M_isFinal (d := d - 1) (by omega) q32) (Nat.le_of_ble_eq_true rfl) (Nat.le_of_ble_eq_true rfl) (Nat.le_of_ble_eq_true rfl) rfl ?_
        show Rn _ d _ _ 0 0 _ 35 [(0, (2, v0)), (1, (0, v1)), (2, (0, v2)), (3, (0, v3)), (4, (0, v4))] [(0, x32.1)] x32.2
        refine r_aload_n (pc := 35) 0 (n := 0) (by decide +kernel) rfl rfl ?_
        refine r_aload_n (pc := 36) 0 (n := 0) (by decide +kernel) rfl rfl ?_
        obtain ⟨g37, q37, ht22⟩ := bnd ht22
        refine r_get (pc := 37) (by decide +kernel) fl_M_62.r (by decide) rfl q37 ?_
        refine r_aload_n (pc := 40) 0 (n := 0) (by decide +kernel) rfl rfl ?_
        obtain ⟨g41, q41, ht22⟩ := bnd ht22
        refine r_get (pc := 41) (by decide +kernel) fl_M_74.r (by decide) rfl q41 ?_
        refine r_iload (pc := 44) 4 (by decide +kernel) rfl ?_
        obtain ⟨e46, q46, ht22⟩ := bnd ht22
        refine r_iald (pc := 46) (by decide +kernel) q46 ?_
        obtain ⟨e47, q47, ht22⟩ := bnd ht22
        refine r_iald (pc := 47) (by decide +kernel) q47 ?_
        obtain ⟨_, q48c, ht22⟩ := bnd ht22
        obtain ⟨x48, q48, ht22⟩ := bnd ht22
        refine r_callV (pc := 48) (i := 212) (d2 := d - 1) (As := [(0, e47)]) (st := [(0, x32.1)]) (st1 := [(0, e47), (2, v0), (0, x32.1)]) (by decide +kernel) yk_M_isFinal (by decide) rfl ⟨ml_M_212, vk_M_isFinal⟩ np_M_isFinal rfl (by omega) q48c (c_M_isFinal (d := d - 1) (by omega) q48) (Nat.le_of_ble_eq_true rfl) (Nat.le_of_ble_eq_true rfl) (Nat.le_of_ble_eq_true rfl) rfl ?_
        show Rn _ d _ _ 0 0 _ 51 [(0, (2, v0)), (1, (0, v1)), (2, (0, v2)), (3, (0, v3)), (4, (0, v4))] [(0, x48.1), (0, x32.1)] x48.2
        refine r_icmp_ne (pc := 51) (off := 21) (tgt := 72) (by decide +kernel) (by decide) (fun c51 => ?_) (fun c51 => ?_)
        · have ht22 := ite_f c51 ht22
          obtain rfl := Option.some.inj ht22
          exact E22_0 rfl
        · have ht22 := ite_t c51 ht22
          obtain rfl := Option.some.inj ht22
          exact E22_1 (show ¬ (1 : Int) = 0 by decide) rfl
theorem sL_M_divide_4 {d mc ms : Nat} (hd : 3 ≤ d) {r : Int × Mem} {k : Int → Mem → Option (Int × Mem)} {v0 : Int} {v1 : Int} (hk : ∀ (v2 : Int) (M : Mem), k v2 M = some r → Rn Y_M_divide d mc ms 0 0 (some (0, r.1), r.2) 116 [(0, (2, v0)), (2, (0, v2))] [] M) : ∀ (n : Nat) (v2 : Int) (v3 : Int) (M : Mem), L_M_divide_4 k v0 v1 n v2 v3 M = some r → Rn Y_M_divide d mc ms 0 0 (some (0, r.1), r.2) 4 [(0, (2, v0)), (1, (0, v1)), (2, (0, v2)), (3, (0, v3))] [] M := by
  intro n
  induction n with
  | zero => intro _ _ _ h; cases h
  | succ n ih =>
    intro v2 v3 M h
    rw [L_M_divide_4] at h
    refine r_iload_n (pc := 4) 3 (n := 3) (by decide +kernel) rfl rfl ?_
    refine r_aload_n (pc := 5) 0 (n := 0) (by decide +kernel) rfl rfl ?_
    obtain ⟨g6, q6, h⟩ := bnd h
    refine r_get (pc := 6) (by decide +kernel) fl_M_201.r (by decide) rfl q6 ?_
    refine r_icmp_ge (pc := 9) (off := 107) (tgt := 116) (by decide +kernel) (by decide) (fun c9 => ?_) (fun c9 => ?_)
    · have h := ite_t c9 h
      refine r_lv [0, 2] rfl ?_
      exact hk v2 M h
    · have h := ite_f c9 h
      refine r_iconst (pc := 12) (z := 0) (by decide +kernel) ⟨by decide, by decide⟩ ?_
      refine r_istore (pc := 13) (lv' := [(4, (0, 0)), (0, (2, v0)), (1, (0, v1)), (2, (0, v2)), (3, (0, v3))]) (by decide +kernel) (Nat.le_of_ble_eq_true rfl) rfl ?_
      refine r_lv [1, 2, 3, 4, 0] rfl ?_
      refine sL_M_divide_15 (by omega) ?_ _ _  _ h
      intro w4_15 m15 h
      refine r_iload (pc := 78) 4 (by decide +kernel) rfl ?_
      refine r_iload_n (pc := 80) 2 (n := 2) (by decide +kernel) rfl rfl ?_
      obtain ⟨t81, ht81, h⟩ := bnd h
      have E81_0 : t81.1 = 0 → Rn Y_M_divide d mc ms 0 0 (some (0, r.1), r.2) 102 [(0, (2, v0)), (1, (0, v1)), (2, (0, t81.2.1)), (3, (0, v3)), (4, (0, w4_15))] [] t81.2.2 := by
        intro y0
        have h := ite_t y0 h
        refine r_aload_n (pc := 102) 0 (n := 0) (by decide +kernel) rfl rfl ?_
        obtain ⟨g103, q103, h⟩ := bnd h
        refine r_get (pc := 103) (by decide +kernel) fl_M_71.r (by decide) rfl q103 ?_
        refine r_iload_n (pc := 106) 3 (n := 3) (by decide +kernel) rfl rfl ?_
        refine r_iload (pc := 107) 4 (by decide +kernel) rfl ?_
        obtain ⟨m109, q109, h⟩ := bnd h
        refine r_iast (pc := 109) (by decide +kernel) q109 ?_
        refine r_iinc (pc := 110) 3 (n := 1) (lv' := [(3, (0, wr (v3 + 1))), (0, (2, v0)), (1, (0, v1)), (2, (0, t81.2.1)), (4, (0, w4_15))]) (by decide +kernel) rfl (Nat.le_of_ble_eq_true rfl) rfl ?_
        refine r_goto (pc := 113) (off := (-109)) (tgt := 4) (by decide +kernel) (by decide) ?_
        refine r_lv [1, 2, 3, 0] rfl ?_
        exact ih t81.2.1 (wr (v3 + 1)) m109 h
      have E81_1 : ¬ t81.1 = 0 → Rn Y_M_divide d mc ms 0 0 (some (0, r.1), r.2) 100 [(2, (0, t81.2.1))] [] t81.2.2 := by
        intro n0
        have h := ite_f n0 h
        refine r_iload_n (pc := 100) 0 (n := 2) (by decide +kernel) rfl rfl ?_
        obtain rfl := Option.some.inj h
        exact r_ret (pc := 101) (r := some (0, t81.2.1)) (by decide +kernel) rfl trivial (Nat.le_of_ble_eq_true rfl) (Nat.le_of_ble_eq_true rfl)
      refine r_icmp_ne (pc := 81) (off := 21) (tgt := 102) (by decide +kernel) (by decide) (fun c81 => ?_) (fun c81 => ?_)
      · have ht81 := ite_f c81 ht81
        obtain rfl := Option.some.inj ht81
        exact E81_0 rfl
      · have ht81 := ite_t c81 ht81
        refine r_aload_n (pc := 84) 0 (n := 0) (by decide +kernel) rfl rfl ?_
        obtain ⟨g85, q85, ht81⟩ := bnd ht81
        refine r_get (pc := 85) (by decide +kernel) fl_M_74.r (by decide) rfl q85 ?_
        refine r_iload_n (pc := 88) 2 (n := 2) (by decide +kernel) rfl rfl ?_
        refine r_iload_n (pc := 89) 3 (n := 3) (by decide +kernel) rfl rfl ?_
        obtain ⟨m90, q90, ht81⟩ := bnd ht81
        refine r_iast (pc := 90) (by decide +kernel) q90 ?_
        refine r_iinc (pc := 91) 2 (n := 1) (lv' := [(2, (0, wr (v2 + 1))), (0, (2, v0)), (1, (0, v1)), (3, (0, v3)), (4, (0, w4_15))]) (by decide +kernel) rfl (Nat.le_of_ble_eq_true rfl) rfl ?_
        refine r_iload_n (pc := 94) 0 (n := 2) (by decide +kernel) rfl rfl ?_
        refine r_bipush (pc := 95) (z := 6) (by decide +kernel) ⟨by decide, by decide⟩ ?_
        refine r_icmp_le (pc := 97) (off := 5) (tgt := 102) (by decide +kernel) (by decide) (fun c97 => ?_) (fun c97 => ?_)
        · have ht81 := ite_t c97 ht81
          obtain rfl := Option.some.inj ht81
          refine r_lv [1, 2, 0, 3, 4] rfl ?_
          exact E81_0 rfl
        · have ht81 := ite_f c97 ht81
          obtain rfl := Option.some.inj ht81
          refine r_lv [0] rfl ?_
          exact E81_1 (show ¬ (1 : Int) = 0 by decide)
theorem sL_M_divide_118 {d mc ms : Nat} (hd : 3 ≤ d) {r : Int × Mem} {k : Mem → Option (Int × Mem)} {v0 : Int} {v2 : Int} (hk : ∀ (M : Mem), k M = some r → Rn Y_M_divide d mc ms 0 0 (some (0, r.1), r.2) 144 [(2, (0, v2))] [] M) : ∀ (n : Nat) (v3 : Int) (M : Mem), L_M_divide_118 k v0 v2 n v3 M = some r → Rn Y_M_divide d mc ms 0 0 (some (0, r.1), r.2) 118 [(0, (2, v0)), (2, (0, v2)), (3, (0, v3))] [] M := by
  intro n
  induction n with
  | zero => intro _ _ h; cases h
  | succ n ih =>
    intro v3 M h
    rw [L_M_divide_118] at h
    refine r_iload_n (pc := 118) 2 (n := 3) (by decide +kernel) rfl rfl ?_
    refine r_aload_n (pc := 119) 0 (n := 0) (by decide +kernel) rfl rfl ?_
    obtain ⟨g120, q120, h⟩ := bnd h
    refine r_get (pc := 120) (by decide +kernel) fl_M_201.r (by decide) rfl q120 ?_
    refine r_icmp_ge (pc := 123) (off := 21) (tgt := 144) (by decide +kernel) (by decide) (fun c123 => ?_) (fun c123 => ?_)
    · have h := ite_t c123 h
      refine r_lv [1] rfl ?_
      exact hk  M h
    · have h := ite_f c123 h
      refine r_aload_n (pc := 126) 0 (n := 0) (by decide +kernel) rfl rfl ?_
      obtain ⟨g127, q127, h⟩ := bnd h
      refine r_get (pc := 127) (by decide +kernel) fl_M_68.r (by decide) rfl q127 ?_
      refine r_iload_n (pc := 130) 2 (n := 3) (by decide +kernel) rfl rfl ?_
      refine r_aload_n (pc := 131) 0 (n := 0) (by decide +kernel) rfl rfl ?_
      obtain ⟨g132, q132, h⟩ := bnd h
      refine r_get (pc := 132) (by decide +kernel) fl_M_71.r (by decide) rfl q132 ?_
      refine r_iload_n (pc := 135) 2 (n := 3) (by decide +kernel) rfl rfl ?_
      obtain ⟨e136, q136, h⟩ := bnd h
      refine r_iald (pc := 136) (by decide +kernel) q136 ?_
      obtain ⟨m137, q137, h⟩ := bnd h
      refine r_iast (pc := 137) (by decide +kernel) q137 ?_
      refine r_iinc (pc := 138) 2 (n := 1) (lv' := [(3, (0, wr (v3 + 1))), (0, (2, v0)), (2, (0, v2))]) (by decide +kernel) rfl (Nat.le_of_ble_eq_true rfl) rfl ?_
      refine r_goto (pc := 141) (off := (-23)) (tgt := 118) (by decide +kernel) (by decide) ?_
      refine r_lv [1, 2, 0] rfl ?_
      exact ih (wr (v3 + 1)) m137 h
theorem c_M_divide {d : Nat} (hd : 3 ≤ d) {a0 a1 : Int} {M : Mem} {x : Int × Mem} (h : D_M_divide a0 a1 M = some x) : Ct d Y_M_divide [(2, a0), (0, a1)] M (some (0, x.1), x.2) 0 0 := by
  refine ct_of yk_M_divide (Nat.le_of_ble_eq_true rfl) ?_
  rw [D_M_divide] at h
  show Rn Y_M_divide d 0 0 0 0 (some (0, x.1), x.2) 0 [(0, (2, a0)), (1, (0, a1))] [] M
  refine r_iconst (pc := 0) (z := 0) (by decide +kernel) ⟨by decide, by decide⟩ ?_
  refine r_istore_n (pc := 1) (n := 2) (lv' := [(2, (0, 0)), (0, (2, a0)), (1, (0, a1))]) (by decide +kernel) rfl (Nat.le_of_ble_eq_true rfl) rfl ?_
  refine r_iconst (pc := 2) (z := 0) (by decide +kernel) ⟨by decide, by decide⟩ ?_
  refine r_istore_n (pc := 3) (n := 3) (lv' := [(3, (0, 0)), (2, (0, 0)), (0, (2, a0)), (1, (0, a1))]) (by decide +kernel) rfl (Nat.le_of_ble_eq_true rfl) rfl ?_
  refine r_lv [2, 3, 1, 0] rfl ?_
  refine sL_M_divide_4 (by omega) ?_ _ _ _  _ h
  intro w2_4 m4 h
  refine r_iconst (pc := 116) (z := 0) (by decide +kernel) ⟨by decide, by decide⟩ ?_
  refine r_istore_n (pc := 117) (n := 3) (lv' := [(3, (0, 0)), (0, (2, a0)), (2, (0, w2_4))]) (by decide +kernel) rfl (Nat.le_of_ble_eq_true rfl) rfl ?_
  refine r_lv [1, 2, 0] rfl ?_
  refine sL_M_divide_118 (by omega) ?_ _ _  _ h
  intro m118 h
  refine r_iload_n (pc := 144) 0 (n := 2) (by decide +kernel) rfl rfl ?_
  obtain rfl := Option.some.inj h
  exact r_ret (pc := 145) (r := some (0, w2_4)) (by decide +kernel) rfl trivial (Nat.le_of_ble_eq_true rfl) (Nat.le_of_ble_eq_true rfl)

/-! TreeTonguesModel.offer(IIII)V -/
noncomputable def D_M_offer (a0 a1 a2 a3 a4 : Int) (M : Mem) : Option (Mem) := (gf M a0 9 54 1).bind fun g3 => (rd M 10 g3 a2).bind fun e7 => (if e7 ≤ 0 then (some 0) else ((gf M a0 9 54 31).bind fun g12 => (gf M a0 9 54 39).bind fun g16 => (rd M 10 g16 a3).bind fun e20 => (rd M 10 g12 e20).bind fun e21 => some e21)).bind fun (t8 : Int) => (gf M a0 9 54 1).bind fun g27 => (rd M 10 g27 a2).bind fun e31 => (if e31 ≤ 1 then (some 0) else ((gf M a0 9 54 31).bind fun g37 => (gf M a0 9 54 39).bind fun g41 => (rd M 10 g41 a4).bind fun e46 => (rd M 10 g37 e46).bind fun e47 => some e47)).bind fun (t33 : Int) => (ck M a0 9 54).bind fun _ => (D_M_partOf a0 a2 t8 t33 M).bind fun x52 => (gf x52.2 a0 9 54 1).bind fun g59 => (rd x52.2 10 g59 a2).bind fun e63 => (if e63 ≤ 0 then (some 0) else ((gf x52.2 a0 9 54 16).bind fun g68 => (rd x52.2 10 g68 (wr ((wr (6 * a1)) + a3))).bind fun e77 => some e77)).bind fun (t64 : Int) => (gf x52.2 a0 9 54 1).bind fun g84 => (rd x52.2 10 g84 a2).bind fun e88 => (if e88 ≤ 1 then (some 0) else ((gf x52.2 a0 9 54 16).bind fun g94 => (rd x52.2 10 g94 (wr ((wr (6 * a1)) + a4))).bind fun e104 => some e104)).bind fun (t90 : Int) => lt (wr ((wr (1 + t64)) + t90)) fun u6_110 => (gf x52.2 a0 9 54 34).bind fun g115 => ((if u6_110 < g115 then (some 0) else ((gf x52.2 a0 9 54 34).bind fun g124 => (if u6_110 = g124 then ((gf x52.2 a0 9 54 35).bind fun g132 => if a2 < g132 then (some 1) else ((gf x52.2 a0 9 54 35).bind fun g140 => if a2 = g140 then ((gf x52.2 a0 9 54 36).bind fun g148 => if a3 < g148 then (some 1) else ((gf x52.2 a0 9 54 36).bind fun g156 => if a3 = g156 then ((gf x52.2 a0 9 54 37).bind fun g165 => if g165 ≤ a4 then (some 0) else (some 1)) else (some 0))) else (some 0))) else (some 0)).bind fun (t127 : Int) => if t127 = 0 then (some 1) else (some 0))).bind fun (t118i : Int) => if t118i = 0 then (some 1) else (some 0)).bind fun (t118 : Int) => (gf x52.2 a0 9 54 33).bind fun g179 => (rd x52.2 10 g179 x52.1).bind fun e184 => if e184 = (-1) then ((gf x52.2 a0 9 54 38).bind fun g190 => (if g190 = (-1) then (some 0) else (if t118 = 0 then (some 1) else (some 0))).bind fun (t194 : Int) => if t194 = 0 then ((pf x52.2 a0 9 54 38 x52.1).bind fun m205 => (pf m205 a0 9 54 34 u6_110).bind fun m211 => (pf m211 a0 9 54 35 a2).bind fun m216 => (pf m216 a0 9 54 36 a3).bind fun m221 => (pf m221 a0 9 54 37 a4).bind fun m227 => some m227) else (some x52.2)) else (some x52.2)
theorem c_M_offer {d : Nat} (hd : 2 ≤ d) {a0 a1 a2 a3 a4 : Int} {M : Mem} {x : Mem} (h : D_M_offer a0 a1 a2 a3 a4 M = some x) : Ct d Y_M_offer [(2, a0), (0, a1), (0, a2), (0, a3), (0, a4)] M (none, x) 0 0 := by
  refine ct_of yk_M_offer (Nat.le_of_ble_eq_true rfl) ?_
  rw [D_M_offer] at h
  show Rn Y_M_offer d 0 0 0 0 (none, x) 0 [(0, (2, a0)), (1, (0, a1)), (2, (0, a2)), (3, (0, a3)), (4, (0, a4))] [] M
  refine r_aload_n (pc := 0) 0 (n := 0) (by decide +kernel) rfl rfl ?_
  refine r_iload_n (pc := 1) 2 (n := 2) (by decide +kernel) rfl rfl ?_
  refine r_aload_n (pc := 2) 0 (n := 0) (by decide +kernel) rfl rfl ?_
  obtain ⟨g3, q3, h⟩ := bnd h
  refine r_get (pc := 3) (by decide +kernel) fl_M_7.r (by decide) rfl q3 ?_
  refine r_iload_n (pc := 6) 2 (n := 2) (by decide +kernel) rfl rfl ?_
  obtain ⟨e7, q7, h⟩ := bnd h
  refine r_iald (pc := 7) (by decide +kernel) q7 ?_
  obtain ⟨t8, ht8, h⟩ := bnd h
  have E8_0 : Rn Y_M_offer d 0 0 0 0 (none, x) 26 [(0, (2, a0)), (1, (0, a1)), (2, (0, a2)), (3, (0, a3)), (4, (0, a4))] [(0, t8), (0, a2), (2, a0)] M := by
    refine r_aload_n (pc := 26) 0 (n := 0) (by decide +kernel) rfl rfl ?_
    obtain ⟨g27, q27, h⟩ := bnd h
    refine r_get (pc := 27) (by decide +kernel) fl_M_7.r (by decide) rfl q27 ?_
    refine r_iload_n (pc := 30) 2 (n := 2) (by decide +kernel) rfl rfl ?_
    obtain ⟨e31, q31, h⟩ := bnd h
    refine r_iald (pc := 31) (by decide +kernel) q31 ?_
    refine r_iconst (pc := 32) (z := 1) (by decide +kernel) ⟨by decide, by decide⟩ ?_
    obtain ⟨t33, ht33, h⟩ := bnd h
    have E33_0 : Rn Y_M_offer d 0 0 0 0 (none, x) 52 [(0, (2, a0)), (1, (0, a1)), (2, (0, a2)), (3, (0, a3)), (4, (0, a4))] [(0, t33), (0, t8), (0, a2), (2, a0)] M := by
      obtain ⟨_, q52c, h⟩ := bnd h
      obtain ⟨x52, q52, h⟩ := bnd h
      refine r_callV (pc := 52) (i := 209) (d2 := d - 1) (As := [(0, a2), (0, t8), (0, t33)]) (st := []) (st1 := [(0, t33), (0, t8), (0, a2), (2, a0)]) (by decide +kernel) yk_M_partOf (by decide) rfl ⟨ml_M_209, vk_M_partOf⟩ np_M_partOf rfl (by omega) q52c (c_M_partOf (d := d - 1) (by omega) q52) (Nat.le_of_ble_eq_true rfl) (Nat.le_of_ble_eq_true rfl) (Nat.le_of_ble_eq_true rfl) rfl ?_
      show Rn _ d _ _ 0 0 _ 55 [(0, (2, a0)), (1, (0, a1)), (2, (0, a2)), (3, (0, a3)), (4, (0, a4))] [(0, x52.1)] x52.2
      refine r_istore (pc := 55) (lv' := [(5, (0, x52.1)), (0, (2, a0)), (1, (0, a1)), (2, (0, a2)), (3, (0, a3)), (4, (0, a4))]) (by decide +kernel) (Nat.le_of_ble_eq_true rfl) rfl ?_
      refine r_iconst (pc := 57) (z := 1) (by decide +kernel) ⟨by decide, by decide⟩ ?_
      refine r_aload_n (pc := 58) 1 (n := 0) (by decide +kernel) rfl rfl ?_
      obtain ⟨g59, q59, h⟩ := bnd h
      refine r_get (pc := 59) (by decide +kernel) fl_M_7.r (by decide) rfl q59 ?_
      refine r_iload_n (pc := 62) 3 (n := 2) (by decide +kernel) rfl rfl ?_
      obtain ⟨e63, q63, h⟩ := bnd h
      refine r_iald (pc := 63) (by decide +kernel) q63 ?_
      obtain ⟨t64, ht64, h⟩ := bnd h
      have E64_0 : Rn Y_M_offer d 0 0 0 0 (none, x) 82 [(0, (2, a0)), (1, (0, a1)), (2, (0, a2)), (3, (0, a3)), (4, (0, a4)), (5, (0, x52.1))] [(0, t64), (0, 1)] x52.2 := by
        refine r_iadd (pc := 82) (by decide +kernel) ?_
        refine r_aload_n (pc := 83) 0 (n := 0) (by decide +kernel) rfl rfl ?_
        obtain ⟨g84, q84, h⟩ := bnd h
        refine r_get (pc := 84) (by decide +kernel) fl_M_7.r (by decide) rfl q84 ?_
        refine r_iload_n (pc := 87) 2 (n := 2) (by decide +kernel) rfl rfl ?_
        obtain ⟨e88, q88, h⟩ := bnd h
        refine r_iald (pc := 88) (by decide +kernel) q88 ?_
        refine r_iconst (pc := 89) (z := 1) (by decide +kernel) ⟨by decide, by decide⟩ ?_
        obtain ⟨t90, ht90, h⟩ := bnd h
        have E90_0 : Rn Y_M_offer d 0 0 0 0 (none, x) 109 [(0, (2, a0)), (2, (0, a2)), (3, (0, a3)), (4, (0, a4)), (5, (0, x52.1))] [(0, t90), (0, wr (1 + t64))] x52.2 := by
          refine r_iadd (pc := 109) (by decide +kernel) ?_
          obtain ⟨u6_110, q110, h⟩ := lt_o h
          refine r_eq q110 ?_
          refine r_istore (pc := 110) (lv' := [(6, (0, u6_110)), (0, (2, a0)), (2, (0, a2)), (3, (0, a3)), (4, (0, a4)), (5, (0, x52.1))]) (by decide +kernel) (Nat.le_of_ble_eq_true rfl) rfl ?_
          refine r_iload (pc := 112) 0 (by decide +kernel) rfl ?_
          refine r_aload_n (pc := 114) 1 (n := 0) (by decide +kernel) rfl rfl ?_
          obtain ⟨g115, q115, h⟩ := bnd h
          refine r_get (pc := 115) (by decide +kernel) fl_M_219.r (by decide) rfl q115 ?_
          obtain ⟨t118, ht118, h⟩ := bnd h
          have E118_0 : Rn Y_M_offer d 0 0 0 0 (none, x) 176 [(0, (2, a0)), (2, (0, a2)), (3, (0, a3)), (4, (0, a4)), (5, (0, x52.1)), (6, (0, u6_110))] [(0, t118)] x52.2 := by
            refine r_istore (pc := 176) (lv' := [(7, (0, t118)), (0, (2, a0)), (2, (0, a2)), (3, (0, a3)), (4, (0, a4)), (5, (0, x52.1)), (6, (0, u6_110))]) (by decide +kernel) (Nat.le_of_ble_eq_true rfl) rfl ?_
            refine r_aload_n (pc := 178) 1 (n := 0) (by decide +kernel) rfl rfl ?_
            obtain ⟨g179, q179, h⟩ := bnd h
            refine r_get (pc := 179) (by decide +kernel) fl_M_81.r (by decide) rfl q179 ?_
            refine r_iload (pc := 182) 5 (by decide +kernel) rfl ?_
            obtain ⟨e184, q184, h⟩ := bnd h
            refine r_iald (pc := 184) (by decide +kernel) q184 ?_
            refine r_iconst (pc := 185) (z := (-1)) (by decide +kernel) ⟨by decide, by decide⟩ ?_
            refine r_icmp_ne (pc := 186) (off := 44) (tgt := 230) (by decide +kernel) (by decide) (fun c186 => ?_) (fun c186 => ?_)
            · have h := ite_f c186 h
              obtain rfl := Option.some.inj h
              exact r_ret (pc := 230) (r := none) (by decide +kernel) rfl trivial (Nat.le_of_ble_eq_true rfl) (Nat.le_of_ble_eq_true rfl)
            · have h := ite_t c186 h
              refine r_aload_n (pc := 189) 1 (n := 0) (by decide +kernel) rfl rfl ?_
              obtain ⟨g190, q190, h⟩ := bnd h
              refine r_get (pc := 190) (by decide +kernel) fl_M_231.r (by decide) rfl q190 ?_
              refine r_iconst (pc := 193) (z := (-1)) (by decide +kernel) ⟨by decide, by decide⟩ ?_
              obtain ⟨t194, ht194, h⟩ := bnd h
              have E194_0 : t194 = 0 → Rn Y_M_offer d 0 0 0 0 (none, x) 202 [(0, (2, a0)), (2, (0, a2)), (3, (0, a3)), (4, (0, a4)), (5, (0, x52.1)), (6, (0, u6_110))] [] x52.2 := by
                intro y0
                have h := ite_t y0 h
                refine r_aload_n (pc := 202) 0 (n := 0) (by decide +kernel) rfl rfl ?_
                refine r_iload (pc := 203) 4 (by decide +kernel) rfl ?_
                obtain ⟨m205, q205, h⟩ := bnd h
                refine r_put (pc := 205) (by decide +kernel) fl_M_231 (by decide) (Or.inr nf_9_38) rfl (fun h3 => by cases h3) q205 ?_
                refine r_aload_n (pc := 208) 0 (n := 0) (by decide +kernel) rfl rfl ?_
                refine r_iload (pc := 209) 5 (by decide +kernel) rfl ?_
                obtain ⟨m211, q211, h⟩ := bnd h
                refine r_put (pc := 211) (by decide +kernel) fl_M_219 (by decide) (Or.inr nf_9_34) rfl (fun h3 => by cases h3) q211 ?_
                refine r_aload_n (pc := 214) 0 (n := 0) (by decide +kernel) rfl rfl ?_
                refine r_iload_n (pc := 215) 1 (n := 2) (by decide +kernel) rfl rfl ?_
                obtain ⟨m216, q216, h⟩ := bnd h
                refine r_put (pc := 216) (by decide +kernel) fl_M_222 (by decide) (Or.inr nf_9_35) rfl (fun h3 => by cases h3) q216 ?_
                refine r_aload_n (pc := 219) 0 (n := 0) (by decide +kernel) rfl rfl ?_
                refine r_iload_n (pc := 220) 2 (n := 3) (by decide +kernel) rfl rfl ?_
                obtain ⟨m221, q221, h⟩ := bnd h
                refine r_put (pc := 221) (by decide +kernel) fl_M_225 (by decide) (Or.inr nf_9_36) rfl (fun h3 => by cases h3) q221 ?_
                refine r_aload_n (pc := 224) 0 (n := 0) (by decide +kernel) rfl rfl ?_
                refine r_iload (pc := 225) 3 (by decide +kernel) rfl ?_
                obtain ⟨m227, q227, h⟩ := bnd h
                refine r_put (pc := 227) (by decide +kernel) fl_M_228 (by decide) (Or.inr nf_9_37) rfl (fun h3 => by cases h3) q227 ?_
                obtain rfl := Option.some.inj h
                exact r_ret (pc := 230) (r := none) (by decide +kernel) rfl trivial (Nat.le_of_ble_eq_true rfl) (Nat.le_of_ble_eq_true rfl)
              have E194_1 : ¬ t194 = 0 → Rn Y_M_offer d 0 0 0 0 (none, x) 230 [] [] x52.2 := by
                intro n0
                have h := ite_f n0 h
                obtain rfl := Option.some.inj h
                exact r_ret (pc := 230) (r := none) (by decide +kernel) rfl trivial (Nat.le_of_ble_eq_true rfl) (Nat.le_of_ble_eq_true rfl)
              refine r_icmp_eq (pc := 194) (off := 8) (tgt := 202) (by decide +kernel) (by decide) (fun c194 => ?_) (fun c194 => ?_)
              · have ht194 := ite_t c194 ht194
                obtain rfl := Option.some.inj ht194
                refine r_lv [1, 2, 3, 4, 5, 6] rfl ?_
                exact E194_0 rfl
              · have ht194 := ite_f c194 ht194
                refine r_iload (pc := 197) 0 (by decide +kernel) rfl ?_
                refine r_if_eq (pc := 199) (off := 31) (tgt := 230) (by decide +kernel) (by decide) (fun c199 => ?_) (fun c199 => ?_)
                · have ht194 := ite_t c199 ht194
                  obtain rfl := Option.some.inj ht194
                  refine r_lv [] rfl ?_
                  exact E194_1 (show ¬ (1 : Int) = 0 by decide)
                · have ht194 := ite_f c199 ht194
                  obtain rfl := Option.some.inj ht194
                  refine r_lv [1, 2, 3, 4, 5, 6] rfl ?_
                  exact E194_0 rfl
          obtain ⟨t118i, ht118i, ht118⟩ := bnd ht118
          have E118i_0 : t118i = 0 → Rn Y_M_offer d 0 0 0 0 (none, x) 171 [(0, (2, a0)), (2, (0, a2)), (3, (0, a3)), (4, (0, a4)), (5, (0, x52.1)), (6, (0, u6_110))] [] x52.2 := by
            intro y0
            have ht118 := ite_t y0 ht118
            refine r_iconst (pc := 171) (z := 1) (by decide +kernel) ⟨by decide, by decide⟩ ?_
            refine r_goto (pc := 172) (off := 4) (tgt := 176) (by decide +kernel) (by decide) ?_
            obtain rfl := Option.some.inj ht118
            exact E118_0
          have E118i_1 : ¬ t118i = 0 → Rn Y_M_offer d 0 0 0 0 (none, x) 175 [(0, (2, a0)), (2, (0, a2)), (3, (0, a3)), (4, (0, a4)), (5, (0, x52.1)), (6, (0, u6_110))] [] x52.2 := by
            intro n0
            have ht118 := ite_f n0 ht118
            refine r_iconst (pc := 175) (z := 0) (by decide +kernel) ⟨by decide, by decide⟩ ?_
            obtain rfl := Option.some.inj ht118
            exact E118_0
          refine r_icmp_lt (pc := 118) (off := 53) (tgt := 171) (by decide +kernel) (by decide) (fun c118 => ?_) (fun c118 => ?_)
          · have ht118i := ite_t c118 ht118i
            obtain rfl := Option.some.inj ht118i
            refine r_lv [1, 2, 3, 4, 5, 0] rfl ?_
            exact E118i_0 rfl
          · have ht118i := ite_f c118 ht118i
            refine r_iload (pc := 121) 0 (by decide +kernel) rfl ?_
            refine r_aload_n (pc := 123) 1 (n := 0) (by decide +kernel) rfl rfl ?_
            obtain ⟨g124, q124, ht118i⟩ := bnd ht118i
            refine r_get (pc := 124) (by decide +kernel) fl_M_219.r (by decide) rfl q124 ?_
            obtain ⟨t127, ht127, ht118i⟩ := bnd ht118i
            have E127_0 : t127 = 0 → Rn Y_M_offer d 0 0 0 0 (none, x) 175 [(0, (2, a0)), (2, (0, a2)), (3, (0, a3)), (4, (0, a4)), (5, (0, x52.1)), (6, (0, u6_110))] [] x52.2 := by
              intro y0
              have ht118i := ite_t y0 ht118i
              obtain rfl := Option.some.inj ht118i
              exact E118i_1 (show ¬ (1 : Int) = 0 by decide)
            have E127_1 : ¬ t127 = 0 → Rn Y_M_offer d 0 0 0 0 (none, x) 171 [(0, (2, a0)), (2, (0, a2)), (3, (0, a3)), (4, (0, a4)), (5, (0, x52.1)), (6, (0, u6_110))] [] x52.2 := by
              intro n0
              have ht118i := ite_f n0 ht118i
              obtain rfl := Option.some.inj ht118i
              exact E118i_0 rfl
            refine r_icmp_ne (pc := 127) (off := 48) (tgt := 175) (by decide +kernel) (by decide) (fun c127 => ?_) (fun c127 => ?_)
            · have ht127 := ite_f c127 ht127
              obtain rfl := Option.some.inj ht127
              refine r_lv [1, 2, 3, 4, 5, 0] rfl ?_
              exact E127_0 rfl
            · have ht127 := ite_t c127 ht127
              refine r_iload_n (pc := 130) 2 (n := 2) (by decide +kernel) rfl rfl ?_
              refine r_aload_n (pc := 131) 1 (n := 0) (by decide +kernel) rfl rfl ?_
              obtain ⟨g132, q132, ht127⟩ := bnd ht127
              refine r_get (pc := 132) (by decide +kernel) fl_M_222.r (by decide) rfl q132 ?_
              refine r_icmp_lt (pc := 135) (off := 36) (tgt := 171) (by decide +kernel) (by decide) (fun c135 => ?_) (fun c135 => ?_)
              · have ht127 := ite_t c135 ht127
                obtain rfl := Option.some.inj ht127
                refine r_lv [1, 2, 3, 4, 5, 0] rfl ?_
                exact E127_1 (show ¬ (1 : Int) = 0 by decide)
              · have ht127 := ite_f c135 ht127
                refine r_iload_n (pc := 138) 2 (n := 2) (by decide +kernel) rfl rfl ?_
                refine r_aload_n (pc := 139) 1 (n := 0) (by decide +kernel) rfl rfl ?_
                obtain ⟨g140, q140, ht127⟩ := bnd ht127
                refine r_get (pc := 140) (by decide +kernel) fl_M_222.r (by decide) rfl q140 ?_
                refine r_icmp_ne (pc := 143) (off := 32) (tgt := 175) (by decide +kernel) (by decide) (fun c143 => ?_) (fun c143 => ?_)
                · have ht127 := ite_f c143 ht127
                  obtain rfl := Option.some.inj ht127
                  refine r_lv [1, 2, 3, 4, 5, 0] rfl ?_
                  exact E127_0 rfl
                · have ht127 := ite_t c143 ht127
                  refine r_iload_n (pc := 146) 3 (n := 3) (by decide +kernel) rfl rfl ?_
                  refine r_aload_n (pc := 147) 1 (n := 0) (by decide +kernel) rfl rfl ?_
                  obtain ⟨g148, q148, ht127⟩ := bnd ht127
                  refine r_get (pc := 148) (by decide +kernel) fl_M_225.r (by decide) rfl q148 ?_
                  refine r_icmp_lt (pc := 151) (off := 20) (tgt := 171) (by decide +kernel) (by decide) (fun c151 => ?_) (fun c151 => ?_)
                  · have ht127 := ite_t c151 ht127
                    obtain rfl := Option.some.inj ht127
                    refine r_lv [1, 2, 3, 4, 5, 0] rfl ?_
                    exact E127_1 (show ¬ (1 : Int) = 0 by decide)
                  · have ht127 := ite_f c151 ht127
                    refine r_iload_n (pc := 154) 3 (n := 3) (by decide +kernel) rfl rfl ?_
                    refine r_aload_n (pc := 155) 1 (n := 0) (by decide +kernel) rfl rfl ?_
                    obtain ⟨g156, q156, ht127⟩ := bnd ht127
                    refine r_get (pc := 156) (by decide +kernel) fl_M_225.r (by decide) rfl q156 ?_
                    refine r_icmp_ne (pc := 159) (off := 16) (tgt := 175) (by decide +kernel) (by decide) (fun c159 => ?_) (fun c159 => ?_)
                    · have ht127 := ite_f c159 ht127
                      obtain rfl := Option.some.inj ht127
                      refine r_lv [1, 2, 3, 4, 5, 0] rfl ?_
                      exact E127_0 rfl
                    · have ht127 := ite_t c159 ht127
                      refine r_iload (pc := 162) 4 (by decide +kernel) rfl ?_
                      refine r_aload_n (pc := 164) 1 (n := 0) (by decide +kernel) rfl rfl ?_
                      obtain ⟨g165, q165, ht127⟩ := bnd ht127
                      refine r_get (pc := 165) (by decide +kernel) fl_M_228.r (by decide) rfl q165 ?_
                      refine r_icmp_ge (pc := 168) (off := 7) (tgt := 175) (by decide +kernel) (by decide) (fun c168 => ?_) (fun c168 => ?_)
                      · have ht127 := ite_t c168 ht127
                        obtain rfl := Option.some.inj ht127
                        refine r_lv [1, 2, 3, 4, 5, 0] rfl ?_
                        exact E127_0 rfl
                      · have ht127 := ite_f c168 ht127
                        obtain rfl := Option.some.inj ht127
                        refine r_lv [1, 2, 3, 4, 5, 0] rfl ?_
                        exact E127_1 (show ¬ (1 : Int) = 0 by decide)
        refine r_icmp_le (pc := 90) (off := 18) (tgt := 108) (by decide +kernel) (by decide) (fun c90 => ?_) (fun c90 => ?_)
        · have ht90 := ite_t c90 ht90
          refine r_iconst (pc := 108) (z := 0) (by decide +kernel) ⟨by decide, by decide⟩ ?_
          obtain rfl := Option.some.inj ht90
          refine r_lv [0, 2, 3, 4, 5] rfl ?_
          exact E90_0
        · have ht90 := ite_f c90 ht90
          refine r_aload_n (pc := 93) 0 (n := 0) (by decide +kernel) rfl rfl ?_
          obtain ⟨g94, q94, ht90⟩ := bnd ht90
          refine r_get (pc := 94) (by decide +kernel) fl_M_50.r (by decide) rfl q94 ?_
          refine r_bipush (pc := 97) (z := 6) (by decide +kernel) ⟨by decide, by decide⟩ ?_
          refine r_iload_n (pc := 99) 1 (n := 1) (by decide +kernel) rfl rfl ?_
          refine r_imul (pc := 100) (by decide +kernel) ?_
          refine r_iload (pc := 101) 4 (by decide +kernel) rfl ?_
          refine r_iadd (pc := 103) (by decide +kernel) ?_
          obtain ⟨e104, q104, ht90⟩ := bnd ht90
          refine r_iald (pc := 104) (by decide +kernel) q104 ?_
          refine r_goto (pc := 105) (off := 4) (tgt := 109) (by decide +kernel) (by decide) ?_
          obtain rfl := Option.some.inj ht90
          refine r_lv [0, 2, 3, 4, 5] rfl ?_
          exact E90_0
      refine r_if_le (pc := 64) (off := 17) (tgt := 81) (by decide +kernel) (by decide) (fun c64 => ?_) (fun c64 => ?_)
      · have ht64 := ite_t c64 ht64
        refine r_iconst (pc := 81) (z := 0) (by decide +kernel) ⟨by decide, by decide⟩ ?_
        obtain rfl := Option.some.inj ht64
        refine r_lv [1, 2, 3, 4, 5, 0] rfl ?_
        exact E64_0
      · have ht64 := ite_f c64 ht64
        refine r_aload_n (pc := 67) 1 (n := 0) (by decide +kernel) rfl rfl ?_
        obtain ⟨g68, q68, ht64⟩ := bnd ht64
        refine r_get (pc := 68) (by decide +kernel) fl_M_50.r (by decide) rfl q68 ?_
        refine r_bipush (pc := 71) (z := 6) (by decide +kernel) ⟨by decide, by decide⟩ ?_
        refine r_iload_n (pc := 73) 2 (n := 1) (by decide +kernel) rfl rfl ?_
        refine r_imul (pc := 74) (by decide +kernel) ?_
        refine r_iload_n (pc := 75) 4 (n := 3) (by decide +kernel) rfl rfl ?_
        refine r_iadd (pc := 76) (by decide +kernel) ?_
        obtain ⟨e77, q77, ht64⟩ := bnd ht64
        refine r_iald (pc := 77) (by decide +kernel) q77 ?_
        refine r_goto (pc := 78) (off := 4) (tgt := 82) (by decide +kernel) (by decide) ?_
        obtain rfl := Option.some.inj ht64
        refine r_lv [1, 2, 3, 4, 5, 0] rfl ?_
        exact E64_0
    refine r_icmp_le (pc := 33) (off := 18) (tgt := 51) (by decide +kernel) (by decide) (fun c33 => ?_) (fun c33 => ?_)
    · have ht33 := ite_t c33 ht33
      refine r_iconst (pc := 51) (z := 0) (by decide +kernel) ⟨by decide, by decide⟩ ?_
      obtain rfl := Option.some.inj ht33
      exact E33_0
    · have ht33 := ite_f c33 ht33
      refine r_aload_n (pc := 36) 0 (n := 0) (by decide +kernel) rfl rfl ?_
      obtain ⟨g37, q37, ht33⟩ := bnd ht33
      refine r_get (pc := 37) (by decide +kernel) fl_M_74.r (by decide) rfl q37 ?_
      refine r_aload_n (pc := 40) 0 (n := 0) (by decide +kernel) rfl rfl ?_
      obtain ⟨g41, q41, ht33⟩ := bnd ht33
      refine r_get (pc := 41) (by decide +kernel) fl_M_84.r (by decide) rfl q41 ?_
      refine r_iload (pc := 44) 4 (by decide +kernel) rfl ?_
      obtain ⟨e46, q46, ht33⟩ := bnd ht33
      refine r_iald (pc := 46) (by decide +kernel) q46 ?_
      obtain ⟨e47, q47, ht33⟩ := bnd ht33
      refine r_iald (pc := 47) (by decide +kernel) q47 ?_
      refine r_goto (pc := 48) (off := 4) (tgt := 52) (by decide +kernel) (by decide) ?_
      obtain rfl := Option.some.inj ht33
      exact E33_0
  refine r_if_le (pc := 8) (off := 17) (tgt := 25) (by decide +kernel) (by decide) (fun c8 => ?_) (fun c8 => ?_)
  · have ht8 := ite_t c8 ht8
    refine r_iconst (pc := 25) (z := 0) (by decide +kernel) ⟨by decide, by decide⟩ ?_
    obtain rfl := Option.some.inj ht8
    exact E8_0
  · have ht8 := ite_f c8 ht8
    refine r_aload_n (pc := 11) 0 (n := 0) (by decide +kernel) rfl rfl ?_
    obtain ⟨g12, q12, ht8⟩ := bnd ht8
    refine r_get (pc := 12) (by decide +kernel) fl_M_74.r (by decide) rfl q12 ?_
    refine r_aload_n (pc := 15) 0 (n := 0) (by decide +kernel) rfl rfl ?_
    obtain ⟨g16, q16, ht8⟩ := bnd ht8
    refine r_get (pc := 16) (by decide +kernel) fl_M_84.r (by decide) rfl q16 ?_
    refine r_iload_n (pc := 19) 3 (n := 3) (by decide +kernel) rfl rfl ?_
    obtain ⟨e20, q20, ht8⟩ := bnd ht8
    refine r_iald (pc := 20) (by decide +kernel) q20 ?_
    obtain ⟨e21, q21, ht8⟩ := bnd ht8
    refine r_iald (pc := 21) (by decide +kernel) q21 ?_
    refine r_goto (pc := 22) (off := 4) (tgt := 26) (by decide +kernel) (by decide) ?_
    obtain rfl := Option.some.inj ht8
    exact E8_0

/-! TreeTonguesModel.seek(II)V -/
noncomputable def L_M_seek_40 (k : Mem → Option (Mem)) (v0 : Int) (v1 : Int) (v2 : Int) (v3 : Int) (v4 : Int) : Nat → Int → Mem → Option (Mem)
  | 0 => fun _ _ => none
  | n + 1 => fun v5 M => (gf M v0 9 54 1).bind fun g43 => (rd M 10 g43 v3).bind fun e47 => (if e47 ≤ 1 then (some 1) else (some v2)).bind fun (t49 : Int) => if t49 ≤ v5 then (k  M) else ((ck M v0 9 54).bind fun _ => (D_M_offer v0 v1 v3 v4 v5 M).bind fun x67 => L_M_seek_40 k v0 v1 v2 v3 v4 n (wr (v5 + 1)) x67)
noncomputable def L_M_seek_18 (k : Mem → Option (Mem)) (v0 : Int) (v1 : Int) (v2 : Int) (v3 : Int) : Nat → Int → Mem → Option (Mem)
  | 0 => fun _ _ => none
  | n + 1 => fun v4 M => (gf M v0 9 54 1).bind fun g21 => (rd M 10 g21 v3).bind fun e25 => (if e25 ≤ 0 then (some 1) else (some v2)).bind fun (t26 : Int) => if t26 ≤ v4 then (k  M) else (L_M_seek_40 (fun  m40 => L_M_seek_18 k v0 v1 v2 v3 n (wr (v4 + 1)) m40) v0 v1 v2 v3 v4 FU 0 M)
noncomputable def L_M_seek_7 (k : Mem → Option (Mem)) (v0 : Int) (v1 : Int) (v2 : Int) : Nat → Int → Mem → Option (Mem)
  | 0 => fun _ _ => none
  | n + 1 => fun v3 M => (gf M v0 9 54 0).bind fun g9 => if g9 ≤ v3 then (k  M) else (L_M_seek_18 (fun  m18 => L_M_seek_7 k v0 v1 v2 n (wr (v3 + 1)) m18) v0 v1 v2 v3 FU 0 M)
noncomputable def D_M_seek (a0 a1 a2 : Int) (M : Mem) : Option (Mem) := (pf M a0 9 54 38 (-1)).bind fun m2 => L_M_seek_7 (fun  m7 => some m7) a0 a1 a2 FU 0 m2
theorem sL_M_seek_40 {d mc ms : Nat} (hd : 3 ≤ d) {r : Mem} {k : Mem → Option (Mem)} {v0 : Int} {v1 : Int} {v2 : Int} {v3 : Int} {v4 : Int} (hk : ∀ (M : Mem), k M = some r → Rn Y_M_seek d mc ms 0 0 (none, r) 76 [(0, (2, v0)), (1, (0, v1)), (2, (0, v2)), (3, (0, v3)), (4, (0, v4))] [] M) : ∀ (n : Nat) (v5 : Int) (M : Mem), L_M_seek_40 k v0 v1 v2 v3 v4 n v5 M = some r → Rn Y_M_seek d mc ms 0 0 (none, r) 40 [(0, (2, v0)), (1, (0, v1)), (2, (0, v2)), (3, (0, v3)), (4, (0, v4)), (5, (0, v5))] [] M := by
  intro n
  induction n with
  | zero => intro _ _ h; cases h
  | succ n ih =>
    intro v5 M h
    rw [L_M_seek_40] at h
    refine r_iload (pc := 40) 5 (by decide +kernel) rfl ?_
    refine r_aload_n (pc := 42) 0 (n := 0) (by decide +kernel) rfl rfl ?_
    obtain ⟨g43, q43, h⟩ := bnd h
    refine r_get (pc := 43) (by decide +kernel) fl_M_7.r (by decide) rfl q43 ?_
    refine r_iload_n (pc := 46) 3 (n := 3) (by decide +kernel) rfl rfl ?_
    obtain ⟨e47, q47, h⟩ := bnd h
    refine r_iald (pc := 47) (by decide +kernel) q47 ?_
    refine r_iconst (pc := 48) (z := 1) (by decide +kernel) ⟨by decide, by decide⟩ ?_
    obtain ⟨t49, ht49, h⟩ := bnd h
    have E49_0 : Rn Y_M_seek d mc ms 0 0 (none, r) 57 [(0, (2, v0)), (1, (0, v1)), (2, (0, v2)), (3, (0, v3)), (4, (0, v4)), (5, (0, v5))] [(0, t49), (0, v5)] M := by
      refine r_icmp_ge (pc := 57) (off := 19) (tgt := 76) (by decide +kernel) (by decide) (fun c57 => ?_) (fun c57 => ?_)
      · have h := ite_t c57 h
        refine r_lv [0, 1, 2, 3, 4] rfl ?_
        exact hk  M h
      · have h := ite_f c57 h
        refine r_aload_n (pc := 60) 0 (n := 0) (by decide +kernel) rfl rfl ?_
        refine r_iload_n (pc := 61) 1 (n := 1) (by decide +kernel) rfl rfl ?_
        refine r_iload_n (pc := 62) 3 (n := 3) (by decide +kernel) rfl rfl ?_
        refine r_iload (pc := 63) 4 (by decide +kernel) rfl ?_
        refine r_iload (pc := 65) 5 (by decide +kernel) rfl ?_
        obtain ⟨_, q67c, h⟩ := bnd h
        obtain ⟨x67, q67, h⟩ := bnd h
        refine r_callV (pc := 67) (i := 234) (d2 := d - 1) (As := [(0, v1), (0, v3), (0, v4), (0, v5)]) (st := []) (st1 := [(0, v5), (0, v4), (0, v3), (0, v1), (2, v0)]) (by decide +kernel) yk_M_offer (by decide) rfl ⟨ml_M_234, vk_M_offer⟩ np_M_offer rfl (by omega) q67c (c_M_offer (d := d - 1) (by omega) q67) (Nat.le_of_ble_eq_true rfl) (Nat.le_of_ble_eq_true rfl) (Nat.le_of_ble_eq_true rfl) rfl ?_
        show Rn _ d _ _ 0 0 _ 70 [(0, (2, v0)), (1, (0, v1)), (2, (0, v2)), (3, (0, v3)), (4, (0, v4)), (5, (0, v5))] [] x67
        refine r_iinc (pc := 70) 5 (n := 1) (lv' := [(5, (0, wr (v5 + 1))), (0, (2, v0)), (1, (0, v1)), (2, (0, v2)), (3, (0, v3)), (4, (0, v4))]) (by decide +kernel) rfl (Nat.le_of_ble_eq_true rfl) rfl ?_
        refine r_goto (pc := 73) (off := (-33)) (tgt := 40) (by decide +kernel) (by decide) ?_
        refine r_lv [1, 2, 3, 4, 5, 0] rfl ?_
        exact ih (wr (v5 + 1)) x67 h
    refine r_icmp_le (pc := 49) (off := 7) (tgt := 56) (by decide +kernel) (by decide) (fun c49 => ?_) (fun c49 => ?_)
    · have ht49 := ite_t c49 ht49
      refine r_iconst (pc := 56) (z := 1) (by decide +kernel) ⟨by decide, by decide⟩ ?_
      obtain rfl := Option.some.inj ht49
      exact E49_0
    · have ht49 := ite_f c49 ht49
      refine r_iload_n (pc := 52) 2 (n := 2) (by decide +kernel) rfl rfl ?_
      refine r_goto (pc := 53) (off := 4) (tgt := 57) (by decide +kernel) (by decide) ?_
      obtain rfl := Option.some.inj ht49
      exact E49_0
theorem sL_M_seek_18 {d mc ms : Nat} (hd : 3 ≤ d) {r : Mem} {k : Mem → Option (Mem)} {v0 : Int} {v1 : Int} {v2 : Int} {v3 : Int} (hk : ∀ (M : Mem), k M = some r → Rn Y_M_seek d mc ms 0 0 (none, r) 82 [(0, (2, v0)), (1, (0, v1)), (2, (0, v2)), (3, (0, v3))] [] M) : ∀ (n : Nat) (v4 : Int) (M : Mem), L_M_seek_18 k v0 v1 v2 v3 n v4 M = some r → Rn Y_M_seek d mc ms 0 0 (none, r) 18 [(0, (2, v0)), (1, (0, v1)), (2, (0, v2)), (3, (0, v3)), (4, (0, v4))] [] M := by
  intro n
  induction n with
  | zero => intro _ _ h; cases h
  | succ n ih =>
    intro v4 M h
    rw [L_M_seek_18] at h
    refine r_iload (pc := 18) 4 (by decide +kernel) rfl ?_
    refine r_aload_n (pc := 20) 0 (n := 0) (by decide +kernel) rfl rfl ?_
    obtain ⟨g21, q21, h⟩ := bnd h
    refine r_get (pc := 21) (by decide +kernel) fl_M_7.r (by decide) rfl q21 ?_
    refine r_iload_n (pc := 24) 3 (n := 3) (by decide +kernel) rfl rfl ?_
    obtain ⟨e25, q25, h⟩ := bnd h
    refine r_iald (pc := 25) (by decide +kernel) q25 ?_
    obtain ⟨t26, ht26, h⟩ := bnd h
    have E26_0 : Rn Y_M_seek d mc ms 0 0 (none, r) 34 [(0, (2, v0)), (1, (0, v1)), (2, (0, v2)), (3, (0, v3)), (4, (0, v4))] [(0, t26), (0, v4)] M := by
      refine r_icmp_ge (pc := 34) (off := 48) (tgt := 82) (by decide +kernel) (by decide) (fun c34 => ?_) (fun c34 => ?_)
      · have h := ite_t c34 h
        refine r_lv [0, 1, 2, 3] rfl ?_
        exact hk  M h
      · have h := ite_f c34 h
        refine r_iconst (pc := 37) (z := 0) (by decide +kernel) ⟨by decide, by decide⟩ ?_
        refine r_istore (pc := 38) (lv' := [(5, (0, 0)), (0, (2, v0)), (1, (0, v1)), (2, (0, v2)), (3, (0, v3)), (4, (0, v4))]) (by decide +kernel) (Nat.le_of_ble_eq_true rfl) rfl ?_
        refine r_lv [1, 2, 3, 4, 5, 0] rfl ?_
        refine sL_M_seek_40 (by omega) ?_ _ _  _ h
        intro m40 h
        refine r_iinc (pc := 76) 4 (n := 1) (lv' := [(4, (0, wr (v4 + 1))), (0, (2, v0)), (1, (0, v1)), (2, (0, v2)), (3, (0, v3))]) (by decide +kernel) rfl (Nat.le_of_ble_eq_true rfl) rfl ?_
        refine r_goto (pc := 79) (off := (-61)) (tgt := 18) (by decide +kernel) (by decide) ?_
        refine r_lv [1, 2, 3, 4, 0] rfl ?_
        exact ih (wr (v4 + 1)) m40 h
    refine r_if_le (pc := 26) (off := 7) (tgt := 33) (by decide +kernel) (by decide) (fun c26 => ?_) (fun c26 => ?_)
    · have ht26 := ite_t c26 ht26
      refine r_iconst (pc := 33) (z := 1) (by decide +kernel) ⟨by decide, by decide⟩ ?_
      obtain rfl := Option.some.inj ht26
      exact E26_0
    · have ht26 := ite_f c26 ht26
      refine r_iload_n (pc := 29) 2 (n := 2) (by decide +kernel) rfl rfl ?_
      refine r_goto (pc := 30) (off := 4) (tgt := 34) (by decide +kernel) (by decide) ?_
      obtain rfl := Option.some.inj ht26
      exact E26_0
theorem sL_M_seek_7 {d mc ms : Nat} (hd : 3 ≤ d) {r : Mem} {k : Mem → Option (Mem)} {v0 : Int} {v1 : Int} {v2 : Int} (hk : ∀ (M : Mem), k M = some r → Rn Y_M_seek d mc ms 0 0 (none, r) 88 [] [] M) : ∀ (n : Nat) (v3 : Int) (M : Mem), L_M_seek_7 k v0 v1 v2 n v3 M = some r → Rn Y_M_seek d mc ms 0 0 (none, r) 7 [(0, (2, v0)), (1, (0, v1)), (2, (0, v2)), (3, (0, v3))] [] M := by
  intro n
  induction n with
  | zero => intro _ _ h; cases h
  | succ n ih =>
    intro v3 M h
    rw [L_M_seek_7] at h
    refine r_iload_n (pc := 7) 3 (n := 3) (by decide +kernel) rfl rfl ?_
    refine r_aload_n (pc := 8) 0 (n := 0) (by decide +kernel) rfl rfl ?_
    obtain ⟨g9, q9, h⟩ := bnd h
    refine r_get (pc := 9) (by decide +kernel) fl_M_124.r (by decide) rfl q9 ?_
    refine r_icmp_ge (pc := 12) (off := 76) (tgt := 88) (by decide +kernel) (by decide) (fun c12 => ?_) (fun c12 => ?_)
    · have h := ite_t c12 h
      refine r_lv [] rfl ?_
      exact hk  M h
    · have h := ite_f c12 h
      refine r_iconst (pc := 15) (z := 0) (by decide +kernel) ⟨by decide, by decide⟩ ?_
      refine r_istore (pc := 16) (lv' := [(4, (0, 0)), (0, (2, v0)), (1, (0, v1)), (2, (0, v2)), (3, (0, v3))]) (by decide +kernel) (Nat.le_of_ble_eq_true rfl) rfl ?_
      refine r_lv [1, 2, 3, 4, 0] rfl ?_
      refine sL_M_seek_18 (by omega) ?_ _ _  _ h
      intro m18 h
      refine r_iinc (pc := 82) 3 (n := 1) (lv' := [(3, (0, wr (v3 + 1))), (0, (2, v0)), (1, (0, v1)), (2, (0, v2))]) (by decide +kernel) rfl (Nat.le_of_ble_eq_true rfl) rfl ?_
      refine r_goto (pc := 85) (off := (-78)) (tgt := 7) (by decide +kernel) (by decide) ?_
      refine r_lv [1, 2, 3, 0] rfl ?_
      exact ih (wr (v3 + 1)) m18 h
theorem c_M_seek {d : Nat} (hd : 3 ≤ d) {a0 a1 a2 : Int} {M : Mem} {x : Mem} (h : D_M_seek a0 a1 a2 M = some x) : Ct d Y_M_seek [(2, a0), (0, a1), (0, a2)] M (none, x) 0 0 := by
  refine ct_of yk_M_seek (Nat.le_of_ble_eq_true rfl) ?_
  rw [D_M_seek] at h
  show Rn Y_M_seek d 0 0 0 0 (none, x) 0 [(0, (2, a0)), (1, (0, a1)), (2, (0, a2))] [] M
  refine r_aload_n (pc := 0) 0 (n := 0) (by decide +kernel) rfl rfl ?_
  refine r_iconst (pc := 1) (z := (-1)) (by decide +kernel) ⟨by decide, by decide⟩ ?_
  obtain ⟨m2, q2, h⟩ := bnd h
  refine r_put (pc := 2) (by decide +kernel) fl_M_231 (by decide) (Or.inr nf_9_38) rfl (fun h3 => by cases h3) q2 ?_
  refine r_iconst (pc := 5) (z := 0) (by decide +kernel) ⟨by decide, by decide⟩ ?_
  refine r_istore_n (pc := 6) (n := 3) (lv' := [(3, (0, 0)), (0, (2, a0)), (1, (0, a1)), (2, (0, a2))]) (by decide +kernel) rfl (Nat.le_of_ble_eq_true rfl) rfl ?_
  refine r_lv [1, 2, 3, 0] rfl ?_
  refine sL_M_seek_7 (by omega) ?_ _ _  _ h
  intro m7 h
  obtain rfl := Option.some.inj h
  exact r_ret (pc := 88) (r := none) (by decide +kernel) rfl trivial (Nat.le_of_ble_eq_true rfl) (Nat.le_of_ble_eq_true rfl)

/-! TreeTonguesModel.layMachine(II)V -/
noncomputable def L_M_layMachine_2 (k : Mem → Option (Mem)) (v0 : Int) (v1 : Int) (v2 : Int) : Nat → Int → Mem → Option (Mem)
  | 0 => fun _ _ => none
  | n + 1 => fun v3 M => if v2 ≤ v3 then (k  M) else ((gf M v0 9 54 40).bind fun g8 => (gf M v0 9 54 27).bind fun g14 => (gf M v0 9 54 31).bind fun g18 => (gf M v0 9 54 39).bind fun g22 => (rd M 10 g22 v3).bind fun e26 => (rd M 10 g18 e26).bind fun e27 => (rd M 10 g14 e27).bind fun e28 => (ck M v0 9 54).bind fun _ => (D_M_isFinal v0 e28 M).bind fun x29 => (bz x29.1).bind fun _ => (wt x29.2 12 g8 v3 x29.1).bind fun m32 => L_M_layMachine_2 k v0 v1 v2 n (wr (v3 + 1)) m32)
noncomputable def L_M_layMachine_74 (k : Mem → Option (Mem)) (v0 : Int) (v1 : Int) (v2 : Int) (v3 : Int) (v4 : Int) : Nat → Int → Mem → Option (Mem)
  | 0 => fun _ _ => none
  | n + 1 => fun v5 M => (gf M v0 9 54 1).bind fun g77 => (rd M 10 g77 v3).bind fun e81 => (if e81 ≤ 1 then (some 1) else (some v2)).bind fun (t83 : Int) => if t83 ≤ v5 then (k  M) else ((gf M v0 9 54 1).bind fun g95 => (rd M 10 g95 v3).bind fun e99 => (if e99 ≤ 0 then (some 0) else ((gf M v0 9 54 31).bind fun g104 => (gf M v0 9 54 39).bind fun g108 => (rd M 10 g108 v4).bind fun e113 => (rd M 10 g104 e113).bind fun e114 => some e114)).bind fun (t100 : Int) => (gf M v0 9 54 1).bind fun g122 => (rd M 10 g122 v3).bind fun e126 => (if e126 ≤ 1 then (some 0) else ((gf M v0 9 54 31).bind fun g132 => (gf M v0 9 54 39).bind fun g136 => (rd M 10 g136 v5).bind fun e141 => (rd M 10 g132 e141).bind fun e142 => some e142)).bind fun (t128 : Int) => (gf M v0 9 54 41).bind fun g150 => (if v2 = 0 then (some (0, M)) else ((gf M v0 9 54 33).bind fun g175 => (ck M v0 9 54).bind fun _ => (D_M_partOf v0 v3 t100 t128 M).bind fun x184 => (rd x184.2 10 g175 x184.1).bind fun e187 => some (e187, x184.2))).bind fun (t167 : Int × Mem) => (wt t167.2 10 g150 (wr ((wr ((wr (36 * v3)) + (wr (6 * v4)))) + v5)) t167.1).bind fun m188 => L_M_layMachine_74 k v0 v1 v2 v3 v4 n (wr (v5 + 1)) m188)
noncomputable def L_M_layMachine_52 (k : Mem → Option (Mem)) (v0 : Int) (v1 : Int) (v2 : Int) (v3 : Int) : Nat → Int → Mem → Option (Mem)
  | 0 => fun _ _ => none
  | n + 1 => fun v4 M => (gf M v0 9 54 1).bind fun g55 => (rd M 10 g55 v3).bind fun e59 => (if e59 ≤ 0 then (some 1) else (some v2)).bind fun (t60 : Int) => if t60 ≤ v4 then (k  M) else (L_M_layMachine_74 (fun  m74 => L_M_layMachine_52 k v0 v1 v2 v3 n (wr (v4 + 1)) m74) v0 v1 v2 v3 v4 FU 0 M)
noncomputable def L_M_layMachine_41 (k : Mem → Option (Mem)) (v0 : Int) (v1 : Int) (v2 : Int) : Nat → Int → Mem → Option (Mem)
  | 0 => fun _ _ => none
  | n + 1 => fun v3 M => (gf M v0 9 54 0).bind fun g43 => if g43 ≤ v3 then (k  M) else (L_M_layMachine_52 (fun  m52 => L_M_layMachine_41 k v0 v1 v2 n (wr (v3 + 1)) m52) v0 v1 v2 v3 FU 0 M)
noncomputable def L_M_layMachine_216 (k : Mem → Option (Mem)) (v0 : Int) (v1 : Int) (v2 : Int) : Nat → Int → Mem → Option (Mem)
  | 0 => fun _ _ => none
  | n + 1 => fun v3 M => if v2 ≤ v3 then (k  M) else ((gf M v0 9 54 15).bind fun g222 => (gf M v0 9 54 40).bind fun g232 => (rd M 12 g232 v3).bind fun e236 => (bz e236).bind fun _ => (wt M 12 g222 (wr ((wr (6 * v1)) + v3)) e236).bind fun m237 => L_M_layMachine_216 k v0 v1 v2 n (wr (v3 + 1)) m237)
noncomputable def L_M_layMachine_246 (k : Mem → Option (Mem)) (v0 : Int) (v1 : Int) : Nat → Int → Mem → Option (Mem)
  | 0 => fun _ _ => none
  | n + 1 => fun v3 M => if 216 ≤ v3 then (k  M) else ((gf M v0 9 54 14).bind fun g254 => (gf M v0 9 54 41).bind fun g265 => (rd M 10 g265 v3).bind fun e269 => (wt M 10 g254 (wr ((wr (216 * v1)) + v3)) e269).bind fun m270 => L_M_layMachine_246 k v0 v1 n (wr (v3 + 1)) m270)
noncomputable def D_M_layMachine (a0 a1 a2 : Int) (M : Mem) : Option (Mem) := L_M_layMachine_2 (fun  m2 => L_M_layMachine_41 (fun  m41 => (gf m41 a0 9 54 13).bind fun g208 => (wt m41 10 g208 a1 a2).bind fun m213 => L_M_layMachine_216 (fun  m216 => L_M_layMachine_246 (fun  m246 => some m246) a0 a1 FU 0 m216) a0 a1 a2 FU 0 m213) a0 a1 a2 FU 0 m2) a0 a1 a2 FU 0 M
theorem sL_M_layMachine_2 {d mc ms : Nat} (hd : 3 ≤ d) {r : Mem} {k : Mem → Option (Mem)} {v0 : Int} {v1 : Int} {v2 : Int} (hk : ∀ (M : Mem), k M = some r → Rn Y_M_layMachine d mc ms 0 0 (none, r) 39 [(0, (2, v0)), (1, (0, v1)), (2, (0, v2))] [] M) : ∀ (n : Nat) (v3 : Int) (M : Mem), L_M_layMachine_2 k v0 v1 v2 n v3 M = some r → Rn Y_M_layMachine d mc ms 0 0 (none, r) 2 [(0, (2, v0)), (1, (0, v1)), (2, (0, v2)), (3, (0, v3))] [] M := by
  intro n
  induction n with
  | zero => intro _ _ h; cases h
  | succ n ih =>
    intro v3 M h
    rw [L_M_layMachine_2] at h
    refine r_iload_n (pc := 2) 3 (n := 3) (by decide +kernel) rfl rfl ?_
    refine r_iload_n (pc := 3) 2 (n := 2) (by decide +kernel) rfl rfl ?_
    refine r_icmp_ge (pc := 4) (off := 35) (tgt := 39) (by decide +kernel) (by decide) (fun c4 => ?_) (fun c4 => ?_)
    · have h := ite_t c4 h
      refine r_lv [0, 1, 2] rfl ?_
      exact hk  M h
    · have h := ite_f c4 h
      refine r_aload_n (pc := 7) 0 (n := 0) (by decide +kernel) rfl rfl ?_
      obtain ⟨g8, q8, h⟩ := bnd h
      refine r_get (pc := 8) (by decide +kernel) fl_M_87.r (by decide) rfl q8 ?_
      refine r_iload_n (pc := 11) 3 (n := 3) (by decide +kernel) rfl rfl ?_
      refine r_aload_n (pc := 12) 0 (n := 0) (by decide +kernel) rfl rfl ?_
      refine r_aload_n (pc := 13) 0 (n := 0) (by decide +kernel) rfl rfl ?_
      obtain ⟨g14, q14, h⟩ := bnd h
      refine r_get (pc := 14) (by decide +kernel) fl_M_62.r (by decide) rfl q14 ?_
      refine r_aload_n (pc := 17) 0 (n := 0) (by decide +kernel) rfl rfl ?_
      obtain ⟨g18, q18, h⟩ := bnd h
      refine r_get (pc := 18) (by decide +kernel) fl_M_74.r (by decide) rfl q18 ?_
      refine r_aload_n (pc := 21) 0 (n := 0) (by decide +kernel) rfl rfl ?_
      obtain ⟨g22, q22, h⟩ := bnd h
      refine r_get (pc := 22) (by decide +kernel) fl_M_84.r (by decide) rfl q22 ?_
      refine r_iload_n (pc := 25) 3 (n := 3) (by decide +kernel) rfl rfl ?_
      obtain ⟨e26, q26, h⟩ := bnd h
      refine r_iald (pc := 26) (by decide +kernel) q26 ?_
      obtain ⟨e27, q27, h⟩ := bnd h
      refine r_iald (pc := 27) (by decide +kernel) q27 ?_
      obtain ⟨e28, q28, h⟩ := bnd h
      refine r_iald (pc := 28) (by decide +kernel) q28 ?_
      obtain ⟨_, q29c, h⟩ := bnd h
      obtain ⟨x29, q29, h⟩ := bnd h
      refine r_callV (pc := 29) (i := 212) (d2 := d - 1) (As := [(0, e28)]) (st := [(0, v3), (2, g8)]) (st1 := [(0, e28), (2, v0), (0, v3), (2, g8)]) (by decide +kernel) yk_M_isFinal (by decide) rfl ⟨ml_M_212, vk_M_isFinal⟩ np_M_isFinal rfl (by omega) q29c (c_M_isFinal (d := d - 1) (by omega) q29) (Nat.le_of_ble_eq_true rfl) (Nat.le_of_ble_eq_true rfl) (Nat.le_of_ble_eq_true rfl) rfl ?_
      show Rn _ d _ _ 0 0 _ 32 [(0, (2, v0)), (1, (0, v1)), (2, (0, v2)), (3, (0, v3))] [(0, x29.1), (0, v3), (2, g8)] x29.2
      obtain ⟨_, q32z, h⟩ := bnd h
      obtain ⟨m32, q32, h⟩ := bnd h
      refine r_zast (pc := 32) (by decide +kernel) (bz_s q32z) q32 ?_
      refine r_iinc (pc := 33) 3 (n := 1) (lv' := [(3, (0, wr (v3 + 1))), (0, (2, v0)), (1, (0, v1)), (2, (0, v2))]) (by decide +kernel) rfl (Nat.le_of_ble_eq_true rfl) rfl ?_
      refine r_goto (pc := 36) (off := (-34)) (tgt := 2) (by decide +kernel) (by decide) ?_
      refine r_lv [1, 2, 3, 0] rfl ?_
      exact ih (wr (v3 + 1)) m32 h
theorem sL_M_layMachine_74 {d mc ms : Nat} (hd : 3 ≤ d) {r : Mem} {k : Mem → Option (Mem)} {v0 : Int} {v1 : Int} {v2 : Int} {v3 : Int} {v4 : Int} (hk : ∀ (M : Mem), k M = some r → Rn Y_M_layMachine d mc ms 0 0 (none, r) 195 [(0, (2, v0)), (1, (0, v1)), (2, (0, v2)), (3, (0, v3)), (4, (0, v4))] [] M) : ∀ (n : Nat) (v5 : Int) (M : Mem), L_M_layMachine_74 k v0 v1 v2 v3 v4 n v5 M = some r → Rn Y_M_layMachine d mc ms 0 0 (none, r) 74 [(0, (2, v0)), (1, (0, v1)), (2, (0, v2)), (3, (0, v3)), (4, (0, v4)), (5, (0, v5))] [] M := by
  intro n
  induction n with
  | zero => intro _ _ h; cases h
  | succ n ih =>
    intro v5 M h
    rw [L_M_layMachine_74] at h
    refine r_iload (pc := 74) 5 (by decide +kernel) rfl ?_
    refine r_aload_n (pc := 76) 0 (n := 0) (by decide +kernel) rfl rfl ?_
    obtain ⟨g77, q77, h⟩ := bnd h
    refine r_get (pc := 77) (by decide +kernel) fl_M_7.r (by decide) rfl q77 ?_
    refine r_iload_n (pc := 80) 3 (n := 3) (by decide +kernel) rfl rfl ?_
    obtain ⟨e81, q81, h⟩ := bnd h
    refine r_iald (pc := 81) (by decide +kernel) q81 ?_
    refine r_iconst (pc := 82) (z := 1) (by decide +kernel) ⟨by decide, by decide⟩ ?_
    obtain ⟨t83, ht83, h⟩ := bnd h
    have E83_0 : Rn Y_M_layMachine d mc ms 0 0 (none, r) 91 [(0, (2, v0)), (1, (0, v1)), (2, (0, v2)), (3, (0, v3)), (4, (0, v4)), (5, (0, v5))] [(0, t83), (0, v5)] M := by
      refine r_icmp_ge (pc := 91) (off := 104) (tgt := 195) (by decide +kernel) (by decide) (fun c91 => ?_) (fun c91 => ?_)
      · have h := ite_t c91 h
        refine r_lv [0, 1, 2, 3, 4] rfl ?_
        exact hk  M h
      · have h := ite_f c91 h
        refine r_aload_n (pc := 94) 0 (n := 0) (by decide +kernel) rfl rfl ?_
        obtain ⟨g95, q95, h⟩ := bnd h
        refine r_get (pc := 95) (by decide +kernel) fl_M_7.r (by decide) rfl q95 ?_
        refine r_iload_n (pc := 98) 3 (n := 3) (by decide +kernel) rfl rfl ?_
        obtain ⟨e99, q99, h⟩ := bnd h
        refine r_iald (pc := 99) (by decide +kernel) q99 ?_
        obtain ⟨t100, ht100, h⟩ := bnd h
        have E100_0 : Rn Y_M_layMachine d mc ms 0 0 (none, r) 119 [(0, (2, v0)), (1, (0, v1)), (2, (0, v2)), (3, (0, v3)), (4, (0, v4)), (5, (0, v5))] [(0, t100)] M := by
          refine r_istore (pc := 119) (lv' := [(6, (0, t100)), (0, (2, v0)), (1, (0, v1)), (2, (0, v2)), (3, (0, v3)), (4, (0, v4)), (5, (0, v5))]) (by decide +kernel) (Nat.le_of_ble_eq_true rfl) rfl ?_
          refine r_aload_n (pc := 121) 1 (n := 0) (by decide +kernel) rfl rfl ?_
          obtain ⟨g122, q122, h⟩ := bnd h
          refine r_get (pc := 122) (by decide +kernel) fl_M_7.r (by decide) rfl q122 ?_
          refine r_iload_n (pc := 125) 4 (n := 3) (by decide +kernel) rfl rfl ?_
          obtain ⟨e126, q126, h⟩ := bnd h
          refine r_iald (pc := 126) (by decide +kernel) q126 ?_
          refine r_iconst (pc := 127) (z := 1) (by decide +kernel) ⟨by decide, by decide⟩ ?_
          obtain ⟨t128, ht128, h⟩ := bnd h
          have E128_0 : Rn Y_M_layMachine d mc ms 0 0 (none, r) 147 [(0, (2, v0)), (1, (0, v1)), (2, (0, v2)), (3, (0, v3)), (4, (0, v4)), (5, (0, v5)), (6, (0, t100))] [(0, t128)] M := by
            refine r_istore (pc := 147) (lv' := [(7, (0, t128)), (0, (2, v0)), (1, (0, v1)), (2, (0, v2)), (3, (0, v3)), (4, (0, v4)), (5, (0, v5)), (6, (0, t100))]) (by decide +kernel) (Nat.le_of_ble_eq_true rfl) rfl ?_
            refine r_aload_n (pc := 149) 1 (n := 0) (by decide +kernel) rfl rfl ?_
            obtain ⟨g150, q150, h⟩ := bnd h
            refine r_get (pc := 150) (by decide +kernel) fl_M_90.r (by decide) rfl q150 ?_
            refine r_bipush (pc := 153) (z := 36) (by decide +kernel) ⟨by decide, by decide⟩ ?_
            refine r_iload_n (pc := 155) 4 (n := 3) (by decide +kernel) rfl rfl ?_
            refine r_imul (pc := 156) (by decide +kernel) ?_
            refine r_bipush (pc := 157) (z := 6) (by decide +kernel) ⟨by decide, by decide⟩ ?_
            refine r_iload (pc := 159) 5 (by decide +kernel) rfl ?_
            refine r_imul (pc := 161) (by decide +kernel) ?_
            refine r_iadd (pc := 162) (by decide +kernel) ?_
            refine r_iload (pc := 163) 6 (by decide +kernel) rfl ?_
            refine r_iadd (pc := 165) (by decide +kernel) ?_
            refine r_iload_n (pc := 166) 3 (n := 2) (by decide +kernel) rfl rfl ?_
            obtain ⟨t167, ht167, h⟩ := bnd h
            have E167_0 : Rn Y_M_layMachine d mc ms 0 0 (none, r) 188 [(0, (2, v0)), (1, (0, v1)), (2, (0, v2)), (3, (0, v3)), (4, (0, v4)), (5, (0, v5))] [(0, t167.1), (0, wr ((wr ((wr (36 * v3)) + (wr (6 * v4)))) + v5)), (2, g150)] t167.2 := by
              obtain ⟨m188, q188, h⟩ := bnd h
              refine r_iast (pc := 188) (by decide +kernel) q188 ?_
              refine r_iinc (pc := 189) 5 (n := 1) (lv' := [(5, (0, wr (v5 + 1))), (0, (2, v0)), (1, (0, v1)), (2, (0, v2)), (3, (0, v3)), (4, (0, v4))]) (by decide +kernel) rfl (Nat.le_of_ble_eq_true rfl) rfl ?_
              refine r_goto (pc := 192) (off := (-118)) (tgt := 74) (by decide +kernel) (by decide) ?_
              refine r_lv [1, 2, 3, 4, 5, 0] rfl ?_
              exact ih (wr (v5 + 1)) m188 h
            refine r_if_ne (pc := 167) (off := 7) (tgt := 174) (by decide +kernel) (by decide) (fun c167 => ?_) (fun c167 => ?_)
            · have ht167 := ite_f c167 ht167
              refine r_aload_n (pc := 174) 1 (n := 0) (by decide +kernel) rfl rfl ?_
              obtain ⟨g175, q175, ht167⟩ := bnd ht167
              refine r_get (pc := 175) (by decide +kernel) fl_M_81.r (by decide) rfl q175 ?_
              refine r_aload_n (pc := 178) 1 (n := 0) (by decide +kernel) rfl rfl ?_
              refine r_iload_n (pc := 179) 4 (n := 3) (by decide +kernel) rfl rfl ?_
              refine r_iload (pc := 180) 7 (by decide +kernel) rfl ?_
              refine r_iload (pc := 182) 0 (by decide +kernel) rfl ?_
              obtain ⟨_, q184c, ht167⟩ := bnd ht167
              obtain ⟨x184, q184, ht167⟩ := bnd ht167
              refine r_callV (pc := 184) (i := 209) (d2 := d - 1) (As := [(0, v3), (0, t100), (0, t128)]) (st := [(2, g175), (0, wr ((wr ((wr (36 * v3)) + (wr (6 * v4)))) + v5)), (2, g150)]) (st1 := [(0, t128), (0, t100), (0, v3), (2, v0), (2, g175), (0, wr ((wr ((wr (36 * v3)) + (wr (6 * v4)))) + v5)), (2, g150)]) (by decide +kernel) yk_M_partOf (by decide) rfl ⟨ml_M_209, vk_M_partOf⟩ np_M_partOf rfl (by omega) q184c (c_M_partOf (d := d - 1) (by omega) q184) (Nat.le_of_ble_eq_true rfl) (Nat.le_of_ble_eq_true rfl) (Nat.le_of_ble_eq_true rfl) rfl ?_
              show Rn _ d _ _ 0 0 _ 187 [(7, (0, t128)), (0, (2, v0)), (1, (0, v1)), (2, (0, v2)), (3, (0, v3)), (4, (0, v4)), (5, (0, v5)), (6, (0, t100))] [(0, x184.1), (2, g175), (0, wr ((wr ((wr (36 * v3)) + (wr (6 * v4)))) + v5)), (2, g150)] x184.2
              obtain ⟨e187, q187, ht167⟩ := bnd ht167
              refine r_iald (pc := 187) (by decide +kernel) q187 ?_
              obtain rfl := Option.some.inj ht167
              refine r_lv [1, 2, 3, 4, 5, 6] rfl ?_
              exact E167_0
            · have ht167 := ite_t c167 ht167
              refine r_iconst (pc := 170) (z := 0) (by decide +kernel) ⟨by decide, by decide⟩ ?_
              refine r_goto (pc := 171) (off := 17) (tgt := 188) (by decide +kernel) (by decide) ?_
              obtain rfl := Option.some.inj ht167
              refine r_lv [1, 2, 3, 4, 5, 6] rfl ?_
              exact E167_0
          refine r_icmp_le (pc := 128) (off := 18) (tgt := 146) (by decide +kernel) (by decide) (fun c128 => ?_) (fun c128 => ?_)
          · have ht128 := ite_t c128 ht128
            refine r_iconst (pc := 146) (z := 0) (by decide +kernel) ⟨by decide, by decide⟩ ?_
            obtain rfl := Option.some.inj ht128
            refine r_lv [1, 2, 3, 4, 5, 6, 0] rfl ?_
            exact E128_0
          · have ht128 := ite_f c128 ht128
            refine r_aload_n (pc := 131) 1 (n := 0) (by decide +kernel) rfl rfl ?_
            obtain ⟨g132, q132, ht128⟩ := bnd ht128
            refine r_get (pc := 132) (by decide +kernel) fl_M_74.r (by decide) rfl q132 ?_
            refine r_aload_n (pc := 135) 1 (n := 0) (by decide +kernel) rfl rfl ?_
            obtain ⟨g136, q136, ht128⟩ := bnd ht128
            refine r_get (pc := 136) (by decide +kernel) fl_M_84.r (by decide) rfl q136 ?_
            refine r_iload (pc := 139) 6 (by decide +kernel) rfl ?_
            obtain ⟨e141, q141, ht128⟩ := bnd ht128
            refine r_iald (pc := 141) (by decide +kernel) q141 ?_
            obtain ⟨e142, q142, ht128⟩ := bnd ht128
            refine r_iald (pc := 142) (by decide +kernel) q142 ?_
            refine r_goto (pc := 143) (off := 4) (tgt := 147) (by decide +kernel) (by decide) ?_
            obtain rfl := Option.some.inj ht128
            refine r_lv [1, 2, 3, 4, 5, 6, 0] rfl ?_
            exact E128_0
        refine r_if_le (pc := 100) (off := 18) (tgt := 118) (by decide +kernel) (by decide) (fun c100 => ?_) (fun c100 => ?_)
        · have ht100 := ite_t c100 ht100
          refine r_iconst (pc := 118) (z := 0) (by decide +kernel) ⟨by decide, by decide⟩ ?_
          obtain rfl := Option.some.inj ht100
          exact E100_0
        · have ht100 := ite_f c100 ht100
          refine r_aload_n (pc := 103) 0 (n := 0) (by decide +kernel) rfl rfl ?_
          obtain ⟨g104, q104, ht100⟩ := bnd ht100
          refine r_get (pc := 104) (by decide +kernel) fl_M_74.r (by decide) rfl q104 ?_
          refine r_aload_n (pc := 107) 0 (n := 0) (by decide +kernel) rfl rfl ?_
          obtain ⟨g108, q108, ht100⟩ := bnd ht100
          refine r_get (pc := 108) (by decide +kernel) fl_M_84.r (by decide) rfl q108 ?_
          refine r_iload (pc := 111) 4 (by decide +kernel) rfl ?_
          obtain ⟨e113, q113, ht100⟩ := bnd ht100
          refine r_iald (pc := 113) (by decide +kernel) q113 ?_
          obtain ⟨e114, q114, ht100⟩ := bnd ht100
          refine r_iald (pc := 114) (by decide +kernel) q114 ?_
          refine r_goto (pc := 115) (off := 4) (tgt := 119) (by decide +kernel) (by decide) ?_
          obtain rfl := Option.some.inj ht100
          exact E100_0
    refine r_icmp_le (pc := 83) (off := 7) (tgt := 90) (by decide +kernel) (by decide) (fun c83 => ?_) (fun c83 => ?_)
    · have ht83 := ite_t c83 ht83
      refine r_iconst (pc := 90) (z := 1) (by decide +kernel) ⟨by decide, by decide⟩ ?_
      obtain rfl := Option.some.inj ht83
      exact E83_0
    · have ht83 := ite_f c83 ht83
      refine r_iload_n (pc := 86) 2 (n := 2) (by decide +kernel) rfl rfl ?_
      refine r_goto (pc := 87) (off := 4) (tgt := 91) (by decide +kernel) (by decide) ?_
      obtain rfl := Option.some.inj ht83
      exact E83_0
theorem sL_M_layMachine_52 {d mc ms : Nat} (hd : 3 ≤ d) {r : Mem} {k : Mem → Option (Mem)} {v0 : Int} {v1 : Int} {v2 : Int} {v3 : Int} (hk : ∀ (M : Mem), k M = some r → Rn Y_M_layMachine d mc ms 0 0 (none, r) 201 [(0, (2, v0)), (1, (0, v1)), (2, (0, v2)), (3, (0, v3))] [] M) : ∀ (n : Nat) (v4 : Int) (M : Mem), L_M_layMachine_52 k v0 v1 v2 v3 n v4 M = some r → Rn Y_M_layMachine d mc ms 0 0 (none, r) 52 [(0, (2, v0)), (1, (0, v1)), (2, (0, v2)), (3, (0, v3)), (4, (0, v4))] [] M := by
  intro n
  induction n with
  | zero => intro _ _ h; cases h
  | succ n ih =>
    intro v4 M h
    rw [L_M_layMachine_52] at h
    refine r_iload (pc := 52) 4 (by decide +kernel) rfl ?_
    refine r_aload_n (pc := 54) 0 (n := 0) (by decide +kernel) rfl rfl ?_
    obtain ⟨g55, q55, h⟩ := bnd h
    refine r_get (pc := 55) (by decide +kernel) fl_M_7.r (by decide) rfl q55 ?_
    refine r_iload_n (pc := 58) 3 (n := 3) (by decide +kernel) rfl rfl ?_
    obtain ⟨e59, q59, h⟩ := bnd h
    refine r_iald (pc := 59) (by decide +kernel) q59 ?_
    obtain ⟨t60, ht60, h⟩ := bnd h
    have E60_0 : Rn Y_M_layMachine d mc ms 0 0 (none, r) 68 [(0, (2, v0)), (1, (0, v1)), (2, (0, v2)), (3, (0, v3)), (4, (0, v4))] [(0, t60), (0, v4)] M := by
      refine r_icmp_ge (pc := 68) (off := 133) (tgt := 201) (by decide +kernel) (by decide) (fun c68 => ?_) (fun c68 => ?_)
      · have h := ite_t c68 h
        refine r_lv [0, 1, 2, 3] rfl ?_
        exact hk  M h
      · have h := ite_f c68 h
        refine r_iconst (pc := 71) (z := 0) (by decide +kernel) ⟨by decide, by decide⟩ ?_
        refine r_istore (pc := 72) (lv' := [(5, (0, 0)), (0, (2, v0)), (1, (0, v1)), (2, (0, v2)), (3, (0, v3)), (4, (0, v4))]) (by decide +kernel) (Nat.le_of_ble_eq_true rfl) rfl ?_
        refine r_lv [1, 2, 3, 4, 5, 0] rfl ?_
        refine sL_M_layMachine_74 (by omega) ?_ _ _  _ h
        intro m74 h
        refine r_iinc (pc := 195) 4 (n := 1) (lv' := [(4, (0, wr (v4 + 1))), (0, (2, v0)), (1, (0, v1)), (2, (0, v2)), (3, (0, v3))]) (by decide +kernel) rfl (Nat.le_of_ble_eq_true rfl) rfl ?_
        refine r_goto (pc := 198) (off := (-146)) (tgt := 52) (by decide +kernel) (by decide) ?_
        refine r_lv [1, 2, 3, 4, 0] rfl ?_
        exact ih (wr (v4 + 1)) m74 h
    refine r_if_le (pc := 60) (off := 7) (tgt := 67) (by decide +kernel) (by decide) (fun c60 => ?_) (fun c60 => ?_)
    · have ht60 := ite_t c60 ht60
      refine r_iconst (pc := 67) (z := 1) (by decide +kernel) ⟨by decide, by decide⟩ ?_
      obtain rfl := Option.some.inj ht60
      exact E60_0
    · have ht60 := ite_f c60 ht60
      refine r_iload_n (pc := 63) 2 (n := 2) (by decide +kernel) rfl rfl ?_
      refine r_goto (pc := 64) (off := 4) (tgt := 68) (by decide +kernel) (by decide) ?_
      obtain rfl := Option.some.inj ht60
      exact E60_0
theorem sL_M_layMachine_41 {d mc ms : Nat} (hd : 3 ≤ d) {r : Mem} {k : Mem → Option (Mem)} {v0 : Int} {v1 : Int} {v2 : Int} (hk : ∀ (M : Mem), k M = some r → Rn Y_M_layMachine d mc ms 0 0 (none, r) 207 [(0, (2, v0)), (1, (0, v1)), (2, (0, v2))] [] M) : ∀ (n : Nat) (v3 : Int) (M : Mem), L_M_layMachine_41 k v0 v1 v2 n v3 M = some r → Rn Y_M_layMachine d mc ms 0 0 (none, r) 41 [(0, (2, v0)), (1, (0, v1)), (2, (0, v2)), (3, (0, v3))] [] M := by
  intro n
  induction n with
  | zero => intro _ _ h; cases h
  | succ n ih =>
    intro v3 M h
    rw [L_M_layMachine_41] at h
    refine r_iload_n (pc := 41) 3 (n := 3) (by decide +kernel) rfl rfl ?_
    refine r_aload_n (pc := 42) 0 (n := 0) (by decide +kernel) rfl rfl ?_
    obtain ⟨g43, q43, h⟩ := bnd h
    refine r_get (pc := 43) (by decide +kernel) fl_M_124.r (by decide) rfl q43 ?_
    refine r_icmp_ge (pc := 46) (off := 161) (tgt := 207) (by decide +kernel) (by decide) (fun c46 => ?_) (fun c46 => ?_)
    · have h := ite_t c46 h
      refine r_lv [0, 1, 2] rfl ?_
      exact hk  M h
    · have h := ite_f c46 h
      refine r_iconst (pc := 49) (z := 0) (by decide +kernel) ⟨by decide, by decide⟩ ?_
      refine r_istore (pc := 50) (lv' := [(4, (0, 0)), (0, (2, v0)), (1, (0, v1)), (2, (0, v2)), (3, (0, v3))]) (by decide +kernel) (Nat.le_of_ble_eq_true rfl) rfl ?_
      refine r_lv [1, 2, 3, 4, 0] rfl ?_
      refine sL_M_layMachine_52 (by omega) ?_ _ _  _ h
      intro m52 h
      refine r_iinc (pc := 201) 3 (n := 1) (lv' := [(3, (0, wr (v3 + 1))), (0, (2, v0)), (1, (0, v1)), (2, (0, v2))]) (by decide +kernel) rfl (Nat.le_of_ble_eq_true rfl) rfl ?_
      refine r_goto (pc := 204) (off := (-163)) (tgt := 41) (by decide +kernel) (by decide) ?_
      refine r_lv [1, 2, 3, 0] rfl ?_
      exact ih (wr (v3 + 1)) m52 h
theorem sL_M_layMachine_216 {d mc ms : Nat} (hd : 3 ≤ d) {r : Mem} {k : Mem → Option (Mem)} {v0 : Int} {v1 : Int} {v2 : Int} (hk : ∀ (M : Mem), k M = some r → Rn Y_M_layMachine d mc ms 0 0 (none, r) 244 [(0, (2, v0)), (1, (0, v1))] [] M) : ∀ (n : Nat) (v3 : Int) (M : Mem), L_M_layMachine_216 k v0 v1 v2 n v3 M = some r → Rn Y_M_layMachine d mc ms 0 0 (none, r) 216 [(0, (2, v0)), (1, (0, v1)), (2, (0, v2)), (3, (0, v3))] [] M := by
  intro n
  induction n with
  | zero => intro _ _ h; cases h
  | succ n ih =>
    intro v3 M h
    rw [L_M_layMachine_216] at h
    refine r_iload_n (pc := 216) 3 (n := 3) (by decide +kernel) rfl rfl ?_
    refine r_iload_n (pc := 217) 2 (n := 2) (by decide +kernel) rfl rfl ?_
    refine r_icmp_ge (pc := 218) (off := 26) (tgt := 244) (by decide +kernel) (by decide) (fun c218 => ?_) (fun c218 => ?_)
    · have h := ite_t c218 h
      refine r_lv [0, 1] rfl ?_
      exact hk  M h
    · have h := ite_f c218 h
      refine r_aload_n (pc := 221) 0 (n := 0) (by decide +kernel) rfl rfl ?_
      obtain ⟨g222, q222, h⟩ := bnd h
      refine r_get (pc := 222) (by decide +kernel) fl_M_47.r (by decide) rfl q222 ?_
      refine r_bipush (pc := 225) (z := 6) (by decide +kernel) ⟨by decide, by decide⟩ ?_
      refine r_iload_n (pc := 227) 1 (n := 1) (by decide +kernel) rfl rfl ?_
      refine r_imul (pc := 228) (by decide +kernel) ?_
      refine r_iload_n (pc := 229) 3 (n := 3) (by decide +kernel) rfl rfl ?_
      refine r_iadd (pc := 230) (by decide +kernel) ?_
      refine r_aload_n (pc := 231) 0 (n := 0) (by decide +kernel) rfl rfl ?_
      obtain ⟨g232, q232, h⟩ := bnd h
      refine r_get (pc := 232) (by decide +kernel) fl_M_87.r (by decide) rfl q232 ?_
      refine r_iload_n (pc := 235) 3 (n := 3) (by decide +kernel) rfl rfl ?_
      obtain ⟨e236, q236, h⟩ := bnd h
      refine r_zald (pc := 236) (by decide +kernel) q236 ?_
      obtain ⟨_, q237z, h⟩ := bnd h
      obtain ⟨m237, q237, h⟩ := bnd h
      refine r_zast (pc := 237) (by decide +kernel) (bz_s q237z) q237 ?_
      refine r_iinc (pc := 238) 3 (n := 1) (lv' := [(3, (0, wr (v3 + 1))), (0, (2, v0)), (1, (0, v1)), (2, (0, v2))]) (by decide +kernel) rfl (Nat.le_of_ble_eq_true rfl) rfl ?_
      refine r_goto (pc := 241) (off := (-25)) (tgt := 216) (by decide +kernel) (by decide) ?_
      refine r_lv [1, 2, 3, 0] rfl ?_
      exact ih (wr (v3 + 1)) m237 h
theorem sL_M_layMachine_246 {d mc ms : Nat} (hd : 3 ≤ d) {r : Mem} {k : Mem → Option (Mem)} {v0 : Int} {v1 : Int} (hk : ∀ (M : Mem), k M = some r → Rn Y_M_layMachine d mc ms 0 0 (none, r) 277 [] [] M) : ∀ (n : Nat) (v3 : Int) (M : Mem), L_M_layMachine_246 k v0 v1 n v3 M = some r → Rn Y_M_layMachine d mc ms 0 0 (none, r) 246 [(0, (2, v0)), (1, (0, v1)), (3, (0, v3))] [] M := by
  intro n
  induction n with
  | zero => intro _ _ h; cases h
  | succ n ih =>
    intro v3 M h
    rw [L_M_layMachine_246] at h
    refine r_iload_n (pc := 246) 2 (n := 3) (by decide +kernel) rfl rfl ?_
    refine r_sipush (pc := 247) (z := 216) (by decide +kernel) ⟨by decide, by decide⟩ ?_
    refine r_icmp_ge (pc := 250) (off := 27) (tgt := 277) (by decide +kernel) (by decide) (fun c250 => ?_) (fun c250 => ?_)
    · have h := ite_t c250 h
      refine r_lv [] rfl ?_
      exact hk  M h
    · have h := ite_f c250 h
      refine r_aload_n (pc := 253) 0 (n := 0) (by decide +kernel) rfl rfl ?_
      obtain ⟨g254, q254, h⟩ := bnd h
      refine r_get (pc := 254) (by decide +kernel) fl_M_44.r (by decide) rfl q254 ?_
      refine r_sipush (pc := 257) (z := 216) (by decide +kernel) ⟨by decide, by decide⟩ ?_
      refine r_iload_n (pc := 260) 1 (n := 1) (by decide +kernel) rfl rfl ?_
      refine r_imul (pc := 261) (by decide +kernel) ?_
      refine r_iload_n (pc := 262) 2 (n := 3) (by decide +kernel) rfl rfl ?_
      refine r_iadd (pc := 263) (by decide +kernel) ?_
      refine r_aload_n (pc := 264) 0 (n := 0) (by decide +kernel) rfl rfl ?_
      obtain ⟨g265, q265, h⟩ := bnd h
      refine r_get (pc := 265) (by decide +kernel) fl_M_90.r (by decide) rfl q265 ?_
      refine r_iload_n (pc := 268) 2 (n := 3) (by decide +kernel) rfl rfl ?_
      obtain ⟨e269, q269, h⟩ := bnd h
      refine r_iald (pc := 269) (by decide +kernel) q269 ?_
      obtain ⟨m270, q270, h⟩ := bnd h
      refine r_iast (pc := 270) (by decide +kernel) q270 ?_
      refine r_iinc (pc := 271) 2 (n := 1) (lv' := [(3, (0, wr (v3 + 1))), (0, (2, v0)), (1, (0, v1))]) (by decide +kernel) rfl (Nat.le_of_ble_eq_true rfl) rfl ?_
      refine r_goto (pc := 274) (off := (-28)) (tgt := 246) (by decide +kernel) (by decide) ?_
      refine r_lv [1, 2, 0] rfl ?_
      exact ih (wr (v3 + 1)) m270 h
theorem c_M_layMachine {d : Nat} (hd : 3 ≤ d) {a0 a1 a2 : Int} {M : Mem} {x : Mem} (h : D_M_layMachine a0 a1 a2 M = some x) : Ct d Y_M_layMachine [(2, a0), (0, a1), (0, a2)] M (none, x) 0 0 := by
  refine ct_of yk_M_layMachine (Nat.le_of_ble_eq_true rfl) ?_
  rw [D_M_layMachine] at h
  show Rn Y_M_layMachine d 0 0 0 0 (none, x) 0 [(0, (2, a0)), (1, (0, a1)), (2, (0, a2))] [] M
  refine r_iconst (pc := 0) (z := 0) (by decide +kernel) ⟨by decide, by decide⟩ ?_
  refine r_istore_n (pc := 1) (n := 3) (lv' := [(3, (0, 0)), (0, (2, a0)), (1, (0, a1)), (2, (0, a2))]) (by decide +kernel) rfl (Nat.le_of_ble_eq_true rfl) rfl ?_
  refine r_lv [1, 2, 3, 0] rfl ?_
  refine sL_M_layMachine_2 (by omega) ?_ _ _  _ h
  intro m2 h
  refine r_iconst (pc := 39) (z := 0) (by decide +kernel) ⟨by decide, by decide⟩ ?_
  refine r_istore_n (pc := 40) (n := 3) (lv' := [(3, (0, 0)), (0, (2, a0)), (1, (0, a1)), (2, (0, a2))]) (by decide +kernel) rfl (Nat.le_of_ble_eq_true rfl) rfl ?_
  refine r_lv [1, 2, 3, 0] rfl ?_
  refine sL_M_layMachine_41 (by omega) ?_ _ _  _ h
  intro m41 h
  refine r_aload_n (pc := 207) 0 (n := 0) (by decide +kernel) rfl rfl ?_
  obtain ⟨g208, q208, h⟩ := bnd h
  refine r_get (pc := 208) (by decide +kernel) fl_M_41.r (by decide) rfl q208 ?_
  refine r_iload_n (pc := 211) 1 (n := 1) (by decide +kernel) rfl rfl ?_
  refine r_iload_n (pc := 212) 2 (n := 2) (by decide +kernel) rfl rfl ?_
  obtain ⟨m213, q213, h⟩ := bnd h
  refine r_iast (pc := 213) (by decide +kernel) q213 ?_
  refine r_iconst (pc := 214) (z := 0) (by decide +kernel) ⟨by decide, by decide⟩ ?_
  refine r_istore_n (pc := 215) (n := 3) (lv' := [(3, (0, 0)), (0, (2, a0)), (1, (0, a1)), (2, (0, a2))]) (by decide +kernel) rfl (Nat.le_of_ble_eq_true rfl) rfl ?_
  refine r_lv [1, 2, 3, 0] rfl ?_
  refine sL_M_layMachine_216 (by omega) ?_ _ _  _ h
  intro m216 h
  refine r_iconst (pc := 244) (z := 0) (by decide +kernel) ⟨by decide, by decide⟩ ?_
  refine r_istore_n (pc := 245) (n := 3) (lv' := [(3, (0, 0)), (0, (2, a0)), (1, (0, a1))]) (by decide +kernel) rfl (Nat.le_of_ble_eq_true rfl) rfl ?_
  refine r_lv [1, 2, 0] rfl ?_
  refine sL_M_layMachine_246 (by omega) ?_ _ _  _ h
  intro m246 h
  obtain rfl := Option.some.inj h
  exact r_ret (pc := 277) (r := none) (by decide +kernel) rfl trivial (Nat.le_of_ble_eq_true rfl) (Nat.le_of_ble_eq_true rfl)
