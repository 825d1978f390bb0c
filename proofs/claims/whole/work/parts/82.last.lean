/-! calls: final states -/
theorem fin_d : ∀ f : Fin 32, ∀ q : Fin 5, 0 ≤ iand ((f.val : Nat) : Int) (ixor (ishl 1 ((q.val : Nat) : Int)) (-1)) ∧ iand ((f.val : Nat) : Int) (ixor (ishl 1 ((q.val : Nat) : Int)) (-1)) < 32 := by decide
theorem fin_r {f q : Int} (f0 : 0 ≤ f) (f1 : f < 32) (q0 : 0 ≤ q) (q1 : q < 5) : 0 ≤ iand f (ixor (ishl 1 q) (-1)) ∧ iand f (ixor (ishl 1 q) (-1)) < 32 := by
  have := fin_d ⟨f.toNat, by omega⟩ ⟨q.toNat, by omega⟩
  simp only at this
  rw [show ((f.toNat : Nat) : Int) = f by omega, show ((q.toNat : Nat) : Int) = q by omega] at this
  exact this
theorem last_both {L : Nat} {xs : Int → Int} {M : Mem} (h : Inv L xs M) (k q b : Int) : Both L xs (D_T_last 0 k q b) (D_M_last 62 k q b) M := by
  have h0 := h
  obtain ⟨tc, hI, e7, e4, hC⟩ := h
  have hB := hI.sb
  have t0 := hI.tc_
  have fo := find_ok hB hI.sl e7 t0.2 k
  have it := isTongue_ok hB (by rw [e4]; exact t0) k
  rw [e4] at it
  have same : ∀ v, D_T_last 0 k q b M = some (v, M) → D_M_last 62 k q b M = some (v, M) → Both L xs (D_T_last 0 k q b) (D_M_last 62 k q b) M := fun v a c => ⟨v, M, M, a, c, hC, h0, hB⟩
  by_cases qk : 0 ≤ k ∧ k < tc
  · rw [if_pos qk] at fo it
    have k0 := qk.1
    have k16 : k < 16 := by omega
    have nt : ¬ 100 + 12 * k < 0 := by omega
    obtain ⟨c7, ts, ms⟩ := hI.sl.at qk.1 qk.2
    clear c7 ms
    rcases hI.2.2.2.2.2.2.2.2.2.2 k qk.1 qk.2 with ⟨a1, a2, a3, a4, a5, a6, a7, a8, a9⟩ | ⟨a1, a2, -⟩
    · have k5 := a3.2.2.1
      have ff := a3.2.2.2.1
      have hS := hasState_ok (q := q) ts.1
      have ew : wr (M.1 (100 + 12 * k) 3 - 1) = M.1 (100 + 12 * k) 3 - 1 := wr_eq (by clear ts; omega) (by clear ts; omega)
      by_cases bq : 0 ≤ q ∧ q < M.1 (100 + 12 * k) 3
      · rw [if_pos bq] at hS
        obtain ⟨F, eF, rF⟩ : ∃ F, (if b = 0 then iand (M.1 (100 + 12 * k) 5) (ixor (ishl 1 q) (-1)) else ior (M.1 (100 + 12 * k) 5) (ishl 1 q)) = F ∧ 0 ≤ F ∧ F < 32 := by
          by_cases z : b = 0
          · rw [if_pos z]
            exact ⟨_, rfl, fin_r ff.1 ff.2 bq.1 (by clear ts; omega)⟩
          · rw [if_neg z]
            have qr := ishl1_r (j := 5) (k := q) bq.1 (by clear ts; omega) (by decide)
            exact ⟨_, rfl, ior_r (k := 5) (by decide) ff.1 ff.2 qr.1 qr.2⟩
        have ea : D_T_last 0 k q b M = some (iand (ishr (M.1 (100 + 12 * k) 5) q) 1, up (up M (100 + 12 * k) 5 F) (100 + 12 * k) 7 1) := by
          unfold D_T_last D_Tongue_setFinal
          by_cases z : b = 0
          · rw [if_pos z] at eF
            simp [-Option.bind_some, -Option.bind_none, gf, pf, rd, wt, ck, ln, lt, bz, nq, up_1, up_2, obs, obn, hB.t_, fo, nt, ts, a2, hS, z, eF]
          · rw [if_neg z] at eF
            simp [-Option.bind_some, -Option.bind_none, gf, pf, rd, wt, ck, ln, lt, bz, nq, up_1, up_2, obs, obn, hB.t_, fo, nt, ts, a2, hS, z, eF]
        have hB1 : SB (up (up M (100 + 12 * k) 5 F) (100 + 12 * k) 7 1) := by
          clear ts
          exact SB_up (SB_up hB (by unfold stp; omega)) (by unfold stp; omega)
        generalize hM1 : up (up M (100 + 12 * k) 5 F) (100 + 12 * k) 7 1 = M1 at *
        have o1 : ∀ a, a ≠ 100 + 12 * k → M1.1 a = M.1 a := fun a z1 => by rw [← hM1, up_n z1, up_n z1]
        have o2 : M1.2 = M.2 := by rw [← hM1, up_2, up_2]
        have or' : ∀ a, a < 100 → M1.1 a = M.1 a := fun a z => o1 a (by clear ts; omega)
        have tj : ∀ j, j ≠ 5 → j ≠ 7 → M1.1 (100 + 12 * k) j = M.1 (100 + 12 * k) j := fun j z4 z7 => by rw [← hM1, up_1, if_neg (fun w => z7 w.2), up_1, if_neg (fun w => z4 w.2)]
        have t5 : M1.1 (100 + 12 * k) 5 = F := by rw [← hM1, up_1, if_neg (by clear ts; omega), up_1, if_pos ⟨rfl, rfl⟩]
        have t7 : M1.1 (100 + 12 * k) 7 = 1 := by rw [← hM1, up_1, if_pos ⟨rfl, rfl⟩]
        have it1 := isTongue_ok hB1 (by rw [or' 62 (by decide), e4]; exact t0) k
        rw [or' 62 (by decide), e4, if_pos qk] at it1
        have iq1 := in_ok q 0 (M.1 (100 + 12 * k) 3 - 1) M1
        rw [if_pos (show 0 ≤ q ∧ q ≤ M.1 (100 + 12 * k) 3 - 1 by clear ts; omega)] at iq1
        have m65 : M1.1 65 k = 1 := by rw [or' 65 (by decide)]; exact a1
        have m66 : M1.1 66 k = M.1 (100 + 12 * k) 3 := by rw [or' 66 (by decide)]; exact a5
        have m67 : M1.1 67 k = M.1 (100 + 12 * k) 5 := by rw [or' 67 (by decide)]; exact a6
        have eb : D_M_last 62 k q b M1 = some (iand (ishr (M.1 (100 + 12 * k) 5) q) 1, up M1 67 k F) := by
          unfold D_M_last
          by_cases z : b = 0
          · rw [if_pos z] at eF
            simp [-Option.bind_some, -Option.bind_none, gf, pf, rd, wt, ck, ln, lt, bz, nq, up_1, up_2, obs, obn, hB1.m_, it1, k0, k16, m65, m66, ew, iq1, m67, z, eF]
          · rw [if_neg z] at eF
            simp [-Option.bind_some, -Option.bind_none, gf, pf, rd, wt, ck, ln, lt, bz, nq, up_1, up_2, obs, obn, hB1.m_, it1, k0, k16, m65, m66, ew, iq1, m67, z, eF]
        have sc1 : SC L xs M1 := ⟨by rw [o2]; exact hC.1, by rw [o1 1000001 (by clear ts; omega)]; exact hC.2⟩
        refine ⟨_, M1, _, ea, eb, sc1, ⟨tc, ?_, ?_, ?_, ?_⟩, hB1⟩
        · have hB2 : SB (up M1 67 k F) := SB_up hB1 (by clear ts; unfold stp; omega)
          have p1 : ∀ a, a ≠ 67 → (up M1 67 k F).1 a = M1.1 a := fun a z => up_n z
          have p67 : (up M1 67 k F).1 67 = ud (M.1 67) k F := by rw [up_f, if_pos rfl, or' 67 (by decide)]
          have p2 : (up M1 67 k F).2 = M.2 := by rw [up_2, o2]
          generalize up M1 67 k F = M2 at *
          have pt : M2.1 (100 + 12 * k) = M1.1 (100 + 12 * k) := p1 _ (by clear ts; omega)
          have pt1 : M2.1 (100 + 12 * k + 1) = M.1 (100 + 12 * k + 1) := by rw [p1 _ (by clear ts; omega), o1 _ (by clear ts; omega)]
          have pr : ∀ a, a < 100 → a ≠ 67 → M2.1 a = M.1 a := fun a z1 z2 => by rw [p1 a z2]; exact or' a z1
          have ek : rkC M2 = rkC M := rk_c (pr 1 (by decide) (by decide)) (pr 2 (by decide) (by decide))
          have c1 : M2.1 1 = M.1 1 := pr 1 (by decide) (by decide)
          have hTG : TG M2 k := by
            left
            refine ⟨by rw [pr 65 (by decide) (by decide)]; exact a1, by rw [pt, tj 6 (by decide) (by decide)]; exact a2, ⟨a3.1, TS.c a3.2.1 (fun j hj => by rw [pt]; exact tj j (by clear ts; omega) (by clear ts; omega)) (fun _ _ _ => by rw [p2]), by rw [pt, tj 3 (by decide) (by decide)]; exact k5, by rw [pt, t5]; exact rF, by rw [pt1, pt, tj 3 (by decide) (by decide)]; exact a3.2.2.2.2⟩, ?_, by rw [pr 66 (by decide) (by decide), pt, tj 3 (by decide) (by decide)]; exact a5, by rw [p67, ud_s, pt, t5], by rw [pr 68 (by decide) (by decide), pt, tj 4 (by decide) (by decide)]; exact a7, ?_, Or.inl (by rw [pt]; exact t7)⟩
            · obtain ⟨u1, u2, u3, u4, u5⟩ := a4
              unfold RV
              rw [p67, ud_s, pr 68 (by decide) (by decide), pr 66 (by decide) (by decide), pr 69 (by decide) (by decide), pr 70 (by decide) (by decide), pr 71 (by decide) (by decide), pr 72 (by decide) (by decide), ek, c1]
              exact ⟨u1, u2, u3, rF, u5⟩
            · have esd : SD M2 (100 + 12 * k) = SD M (100 + 12 * k) := by
                funext s x y
                unfold SD
                rw [ek, pt1]
              unfold TR at a8 ⊢
              rw [c1, ek, pt, tj 3 (by decide) (by decide), esd, pr 68 (by decide) (by decide), pr 69 (by decide) (by decide), pr 70 (by decide) (by decide), pr 71 (by decide) (by decide), pr 72 (by decide) (by decide)]
              exact a8
          refine hI.tell qk.1 qk.2 hB2 p2 (fun a z1 z2 z3 => ?_) (fun j hj => ?_) (fun a j z0 z1 z2 => ?_) (fun a j z0 z1 z2 => ?_) hTG
          · rw [p1 a (by clear ts; omega)]; exact o1 a z1
          · rw [pt]; exact tj j (by clear ts; omega) (by clear ts; omega)
          · by_cases z : a = 67
            · rw [z, p67, ud_n z2]
            · rw [pr a (by clear ts; omega) z]
          · rw [pr a (by clear ts; omega) (by clear ts; omega)]
        · rw [up_n (by decide), or' 0 (by decide)]; exact e7
        · rw [up_n (by decide), or' 62 (by decide)]; exact e4
        · exact ⟨by rw [up_2]; exact sc1.1, by rw [up_n (by decide)]; exact sc1.2⟩
      · rw [if_neg bq] at hS
        have iq := in_ok q 0 (M.1 (100 + 12 * k) 3 - 1) M
        rw [if_neg (show ¬ (0 ≤ q ∧ q ≤ M.1 (100 + 12 * k) 3 - 1) by clear ts; omega)] at iq
        refine same (-2) ?_ ?_
        · unfold D_T_last
          simp [-Option.bind_some, -Option.bind_none, gf, pf, rd, wt, ck, ln, lt, bz, nq, up_1, up_2, obs, obn, hB.t_, fo, nt, ts, a2, hS]
        · unfold D_M_last
          simp [-Option.bind_some, -Option.bind_none, gf, pf, rd, wt, ck, ln, lt, bz, nq, up_1, up_2, obs, obn, hB.m_, it, k0, k16, a1, a5, ew, iq]
    · refine same (-3) ?_ ?_
      · unfold D_T_last
        simp [-Option.bind_some, -Option.bind_none, gf, pf, rd, wt, ck, ln, lt, bz, nq, up_1, up_2, obs, obn, hB.t_, fo, nt, ts, a2]
      · unfold D_M_last
        simp [-Option.bind_some, -Option.bind_none, gf, pf, rd, wt, ck, ln, lt, bz, nq, up_1, up_2, obs, obn, hB.m_, it, k0, k16, a1]
  · rw [if_neg qk] at fo it
    refine same (-2) ?_ ?_
    · unfold D_T_last
      simp [-Option.bind_some, -Option.bind_none, gf, pf, rd, wt, ck, ln, lt, bz, nq, up_1, up_2, obs, obn, hB.t_, fo]
    · unfold D_M_last
      simp [-Option.bind_some, -Option.bind_none, gf, pf, rd, wt, ck, ln, lt, bz, nq, up_1, up_2, obs, obn, hB.m_, it]
