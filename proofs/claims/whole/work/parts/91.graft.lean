/-! calls: grafted -/
theorem fn5_a {N0 M N : Mem} {p p' a b : Int} (hM : MOK N0 p) (hM' : MOK N0 p') (hn : NtOk M) (h3 : M.1 8 3 = N0.1 p 11) (h4 : M.1 8 4 = 0) (h5 : M.1 8 5 = 10) (hE : Eqm (N0.1 1 1) (rkC N0) (mch N0 p) (mchR N 16)) (h : R5 M (N0.1 p 10) (N0.1 p' 10) a b) : acN M a = 1 ↔ fn5 N b = 1 := by
  obtain ⟨S, c, rS, hc, eb, hS, hv, hb⟩ := h
  have r := vs_4096 hn hv
  have k6 : 0 ≤ N0.1 p 10 ∧ N0.1 p 10 ≤ 6 := hM.2.2.1.1
  have k6' : 0 ≤ N0.1 p' 10 ∧ N0.1 p' 10 ≤ 6 := hM'.2.2.1.1
  have e1 : b / 8 = S := by omega
  have em : mN (mch N0 p) = N0.1 p 10 := rfl
  have em' : mN (mchR N 16) = N.1 73 16 := rfl
  have e73 : N.1 73 16 = N0.1 p 10 := by rw [← em, ← em', hE.1]
  unfold fn5
  rw [ac_10 r.1 r.2 h4 h5, h3, e1, hl_i]
  rw [sets_and hM hE r.1 r.2 (fun i i0 i6 w => by
    rcases (hb i i0).mp w with z | z
    · exact hS i i0 z
    · omega)]
  constructor
  · intro ⟨i, i0, i1, u, v⟩
    refine ⟨i, i0, i1, ?_, v⟩
    rcases (hb i i0).mp u with z | z
    · exact z
    · omega
  · intro ⟨i, i0, i1, u, v⟩
    exact ⟨i, i0, i1, (hb i i0).mpr (Or.inl u), v⟩
theorem grafted_both {L : Nat} {xs : Int → Int} {M : Mem} (h : Inv L xs M) (a w b : Int) : Both L xs (D_T_grafted 0 a w b) (D_M_grafted 62 a w b) M := by
  have h0 := h
  obtain ⟨tc, hI, e7, e4, hC⟩ := h
  have hB := hI.sb
  have hg := hI.sg
  have t0 := hI.tc_
  have fa := find_ok hB hI.sl e7 t0.2 a
  have fb := find_ok hB hI.sl e7 t0.2 b
  have ia := isTongue_ok hB (by rw [e4]; exact t0) a
  have ib := isTongue_ok hB (by rw [e4]; exact t0) b
  rw [e4] at ia ib
  have same : ∀ v, D_T_grafted 0 a w b M = some (v, M) → D_M_grafted 62 a w b M = some (v, M) → Both L xs (D_T_grafted 0 a w b) (D_M_grafted 62 a w b) M := fun v p q => ⟨v, M, M, p, q, hC, h0, hB⟩
  have n0 := hg.1.1
  have n6 := hg.1.2.1
  have kn := knows_ok hB.s_ w
  have is := isSign_ok hB (by rw [hg.2.1]; exact ⟨n0, n6⟩) w
  rw [hg.2.1] at is
  have rko := rankOf_ok hB.s_ n6 w
  by_cases qa : 0 ≤ a ∧ a < tc
  · rw [if_pos qa] at fa ia
    have na : ¬ 100 + 12 * a < 0 := by omega
    by_cases qb : 0 ≤ b ∧ b < tc
    · rw [if_pos qb] at fb ib
      have nb : ¬ 100 + 12 * b < 0 := by omega
      by_cases qs : 0 ≤ w ∧ w < M.1 1 1
      · rw [if_pos qs] at kn is
        have s0 := qs.1
        have s6 : w < 6 := by omega
        have r63 := hg.2.2 w qs.1 qs.2
        by_cases rz : rkC M w = 0
        · -- a leaf
          by_cases t16 : tc < 16
          · have n16 : ¬ tc = 16 := by omega
            obtain ⟨r1, M1, r2, M2, d1, d2, hI1, hF1, h7, hT, er1, er1', er2, r01, r02⟩ := two_ok hI qa.1 qa.2 qb.1 qb.2
            have hB1 := hI1.sb
            have m624 : ∀ X : Mem, KR M1 X ∨ KR M2 X → X.1 62 4 = X.1 62 4 := fun _ _ => rfl
            have c1 : M1.1 62 = M.1 62 := hF1.2 62 (by decide)
            have ia1 := isTongue_ok hB1 (by rw [c1, e4]; exact t0) a
            have ib1 := isTongue_ok hB1 (by rw [c1, e4]; exact t0) b
            rw [c1, e4, if_pos qa] at ia1
            rw [c1, e4, if_pos qb] at ib1
            have f4 : M1.1 62 4 = tc := by rw [c1]; exact e4
            have is1 := isSign_ok hB1 (by rw [c1, hg.2.1]; exact ⟨n0, n6⟩) w
            rw [c1, hg.2.1, if_pos qs] at is1
            have r631 : M1.1 63 w = rkC M w := by rw [hF1.2 63 (by decide)]; exact r63
            rcases r01 with z1 | z1
            · subst z1
              obtain ⟨hI2, hF2, fr1, fr2⟩ := hT
              have hB2 := hI2.sb
              have c2 : M2.1 62 = M.1 62 := hF2.2 62 (by decide)
              have ia2 := isTongue_ok hB2 (by rw [c2, e4]; exact t0) a
              have ib2 := isTongue_ok hB2 (by rw [c2, e4]; exact t0) b
              rw [c2, e4, if_pos qa] at ia2
              rw [c2, e4, if_pos qb] at ib2
              have f42 : M2.1 62 4 = tc := by rw [c2]; exact e4
              have is2 := isSign_ok hB2 (by rw [c2, hg.2.1]; exact ⟨n0, n6⟩) w
              rw [c2, hg.2.1, if_pos qs] at is2
              have r632 : M2.1 63 w = rkC M w := by rw [hF2.2 63 (by decide)]; exact r63
              have sc2 := hF2.sc hC
              have hMa := (hI2.2.2.2.2.2.2.2.2.2.2 a qa.1 qa.2).mok fr1 er1'.symm
              rcases r02 with z2 | z2
              · subst z2
                have hMb := (hI2.2.2.2.2.2.2.2.2.2.2 b qb.1 qb.2).mok fr2 er2.symm
                have n12 : M2.1 1 = M.1 1 := hF2.2 1 (by decide)
                have ek2 : rkC M2 = rkC M := rk_c n12 (hF2.2 2 (by decide))
                obtain ⟨M3, e3, hN⟩ := setGrafted_ok (leaf := w) hB2 hI2.sg.1 hMa hMb (by rw [n12]; exact qs) (by rw [ek2]; exact rz)
                have k6' : 0 ≤ M2.1 (102 + 12 * b) 10 ∧ M2.1 (102 + 12 * b) 10 ≤ 6 := hMb.2.2.1.1
                have ffa := hMa.2.2.2
                have ffb := hMb.2.2.2
                have hn := hN.nt (by omega) ⟨ffa.1, by omega⟩ (by decide) (by decide)
                have E3 : Env M3 := hN.env_hi hI2.sg.1 hMb ⟨ffa.1, by omega⟩ (by decide) (by decide) (fun s x y q s0 s1 q6 => by
                  constructor
                  · intro z
                    rcases z.2 with u | u | u
                    · exact u
                    · have := u.2.lo hMa s0 s1 rfl; omega
                    · exfalso
                      obtain ⟨x0, y0, -, -, -, -, eq⟩ := u
                      have lA : Arg (rkC M2) (M2.1 (102 + 12 * a) 10) w 0 0 := argx (fun q => by rw [ek2] at q; omega) (fun q => by rw [ek2] at q; omega) (fun _ => rfl) (fun _ => rfl)
                      have t := hMa.2.2.1.2 w 0 0 qs.1 (by rw [n12]; exact qs.2) lA
                      have em : mN (mch M2 (102 + 12 * a)) = M2.1 (102 + 12 * a) 10 := rfl
                      have k6a : 0 ≤ M2.1 (102 + 12 * a) 10 ∧ M2.1 (102 + 12 * a) 10 ≤ 6 := hMa.2.2.1.1
                      rw [em] at t
                      omega
                  · intro z
                    exact ⟨⟨s0, s1⟩, Or.inl z⟩)
                have hNf : Nf M2 M3 := ⟨hN.1, hN.2.1, hN.2.2.1⟩
                have e72 : M2.1 0 7 = tc := by rw [hF2.2 0 (by decide)]; exact e7
                obtain ⟨r, M4, e4', hK⟩ := keep_ok hI2 hNf E3 e72 t16
                have hK0 := hK
                obtain ⟨hI4, -, hFK, -⟩ := hK
                have hB4 := hI4.sb
                have sa := fun e q q' => hFK.2.2 a qa.1 qa.2 e q q'
                have sb := fun e q q' => hFK.2.2 b qb.1 qb.2 e q q'
                have c4 : M4.1 62 = M.1 62 := by rw [hFK.2.1 62 (by decide)]; exact c2
                have n41 : M4.1 1 = M2.1 1 := hFK.2.1 1 (by decide)
                have ek4 : rkC M4 = rkC M2 := rk_c n41 (hFK.2.1 2 (by decide))
                have ia4 := isTongue_ok hB4 (by rw [c4, e4]; exact t0) a
                have ib4 := isTongue_ok hB4 (by rw [c4, e4]; exact t0) b
                rw [c4, e4, if_pos qa] at ia4
                rw [c4, e4, if_pos qb] at ib4
                have f44 : M4.1 62 4 = tc := by rw [c4]; exact e4
                have is4 := isSign_ok hB4 (by rw [c4, hg.2.1]; exact ⟨n0, n6⟩) w
                rw [c4, hg.2.1, if_pos qs] at is4
                have r634 : M4.1 63 w = rkC M w := by rw [hFK.2.1 63 (by decide), hF2.2 63 (by decide)]; exact r63
                have l4 : M4.1 (102 + 12 * a) 12 = 0 := by rw [sa _ (by omega) (by omega)]; exact er1'.symm
                have l4' : M4.1 (102 + 12 * b) 12 = 0 := by rw [sb _ (by omega) (by omega)]; exact er2.symm
                obtain ⟨Ya, r', Yb, g1, g2, hBa, hIb, hKR, f4b, -, hok⟩ := load2_ok hI4 qa.1 qa.2 qb.1 qb.2 (by rw [sa _ (by omega) (by omega)]; exact fr1) (by rw [sb _ (by omega) (by omega)]; exact fr2) l4 (Or.inl l4')
                obtain ⟨z', hE, hE', hW, hW'⟩ := hok l4'
                subst z'
                rw [n41, ek4, mch_c ek4 (fun e q q' => sa e (by omega) (by omega))] at hE
                rw [n41, ek4, mch_c ek4 (fun e q q' => sb e (by omega) (by omega))] at hE'
                have hBb := hIb.sb
                have sc4 : SC L xs M4 := ⟨by rw [hFK.1 _ (by omega)]; exact sc2.1, by rw [hFK.2.1 _ (by omega)]; exact sc2.2⟩
                -- the mode
                have hIN : IB (up (up Yb 62 20 5) 62 24 w) tc := (hIb.f62 (by decide)).f62 (by decide)
                have hKN : KR M4 (up (up Yb 62 20 5) 62 24 w) := (hKR.up (by decide)).up (by decide)
                have f20 : (up (up Yb 62 20 5) 62 24 w).1 62 20 = 5 := by simp [-Option.bind_some, -Option.bind_none, gf, pf, rd, wt, ck, ln, lt, bz, nq, up_1, up_2, obs, obn]
                have f21 : (up (up Yb 62 20 5) 62 24 w).1 62 24 = w := by simp [-Option.bind_some, -Option.bind_none, gf, pf, rd, wt, ck, ln, lt, bz, nq, up_1, up_2, obs, obn]
                have f4N : (up (up Yb 62 20 5) 62 24 w).1 62 4 = tc := by simp [-Option.bind_some, -Option.bind_none, gf, pf, rd, wt, ck, ln, lt, bz, nq, up_1, up_2, obs, obn, f4b, f44]
                have oN : ∀ e, e ≠ 62 → (up (up Yb 62 20 5) 62 24 w).1 e = Yb.1 e := fun e q => by rw [up_n q, up_n q]
                have run : D_M_grafted 62 a w b M4 = (D_M_newTongue 62 (up (up Yb 62 20 5) 62 24 w)).bind fun x77 => some (x77.1, x77.2) := by
                  unfold D_M_grafted
                  simp [-Option.bind_some, -Option.bind_none, gf, pf, rd, wt, ck, ln, lt, bz, nq, up_1, up_2, obs, obn, hB4.m_, ia4, ib4, is4, s0, s6, r634, rz, f44, n16, g1, hBa.m_, g2, hBb.m_]
                generalize up (up Yb 62 20 5) 62 24 w = N at *
                have nN : N.1 1 = M2.1 1 := by rw [hKN.2 1 (by decide)]; exact n41
                have ekN : rkC N = rkC M2 := (rk_c (hKN.2 1 (by decide)) (hKN.2 2 (by decide))).trans ek4
                have k6a : mN (mch M2 (102 + 12 * a)) ≤ 6 := hMa.2.2.1.1.2
                have k6b : mN (mch M2 (102 + 12 * b)) ≤ 6 := hMb.2.2.1.1.2
                have n26 := hI2.sg.1.2.1
                have hEN := hE.cr (M' := N) n26 k6a (by rw [oN 73 (by decide)]) (fun j _ _ => by rw [oN 74 (by decide)]) (fun e c q q' _ _ => by rw [oN e (by omega)])
                have hEN' := hE'.cr (M' := N) n26 k6b (by rw [oN 73 (by decide)]) (fun j _ _ => by rw [oN 74 (by decide)]) (fun e c q q' _ _ => by rw [oN e (by omega)])
                have hWN := hEN.mw hMa.2.2.1
                have hWN' := hEN'.mw hMb.2.2.1
                have ra := (ra5 hIN.rc (by rw [nN, ekN]; exact hWN) (by rw [nN, ekN]; exact hWN') (by rw [f21, nN, n12]; exact qs) (by rw [f21, ekN, ek2]; exact rz) f20).1
                obtain ⟨M5, e5, hInv⟩ := made_end t16 hK0 hIN hKN f4N ra (fun z c j => fn5_a hMa hMb hn hN.2.2.2.1.2.1 hN.2.2.2.1.2.2.1 hN.2.2.2.1.2.2.2 hEN (joint5 hI2.sg.1 hMa hMb hn hIN.2.2.2.2.2.2.2.2.1 (by rw [n12]; exact qs) (by rw [ek2]; exact rz) f21 hN ekN hEN hEN' j)) (hKN.sc sc4)
                refine ⟨r, M4, M5, ?_, ?_, sc4, hInv, hB4⟩
                · have ats := hI2.sl.at qa.1 qa.2
                  have bts := hI2.sl.at qb.1 qb.2
                  have u1 : M2.1 (100 + 12 * a) 1 = 102 + 12 * a := by rw [ats.2.1.2.2.2.1]; omega
                  have u2 : M2.1 (100 + 12 * b) 1 = 102 + 12 * b := by rw [bts.2.1.2.2.2.1]; omega
                  have u3 := ats.2.1.1
                  have u4 := bts.2.1.1
                  have hBn := hN.2.2.1
                  clear ats bts
                  unfold D_T_grafted
                  simp [-Option.bind_some, -Option.bind_none, gf, pf, rd, wt, ck, ln, lt, bz, nq, up_1, up_2, obs, obn, hB.t_, fa, fb, na, nb, kn, rko, rz, hB.s_, e7, t16, d1, hB1.t_, d2, hB2.t_, u1, u2, u3, u4, hB2.n_, e3, hBn.t_, e4']
                · rw [run, e5, obs]
              · subst z2
                obtain ⟨Ya, r', Yb, g1, g2, hBa, hIb, hKR, f4b, hlg, -⟩ := load2_ok hI2 qa.1 qa.2 qb.1 qb.2 fr1 fr2 er1'.symm (Or.inr er2.symm)
                have z' := hlg er2.symm
                subst z'
                refine ⟨-5, M2, Yb, ?_, ?_, sc2, ⟨tc, hIb, ?_, by rw [f4b]; exact f42, hKR.sc sc2⟩, hB2⟩
                · unfold D_T_grafted
                  simp [-Option.bind_some, -Option.bind_none, gf, pf, rd, wt, ck, ln, lt, bz, nq, up_1, up_2, obs, obn, hB.t_, fa, fb, na, nb, kn, rko, rz, hB.s_, e7, t16, d1, hB1.t_, d2]
                · unfold D_M_grafted
                  simp [-Option.bind_some, -Option.bind_none, gf, pf, rd, wt, ck, ln, lt, bz, nq, up_1, up_2, obs, obn, hB2.m_, ia2, ib2, is2, s0, s6, r632, rz, f42, n16, g1, hBa.m_, g2]
                · rw [hKR.2 0 (by decide), hF2.2 0 (by decide)]; exact e7
            · subst z1
              obtain ⟨r', Ma, da, hIa, hKa, hra⟩ := load_k_ok (m := 16) hI1 qa.1 qa.2 h7 (Or.inl rfl)
              have sc1 := hF1.sc hC
              have er' : r' = -5 := by
                rcases hra with q | q
                · exact q.1
                · have := q.2.1; omega
              subst er'
              refine ⟨-5, M1, Ma, ?_, ?_, sc1, ⟨tc, hIa, ?_, ?_, hKa.sc sc1⟩, hB1⟩
              · unfold D_T_grafted
                simp [-Option.bind_some, -Option.bind_none, gf, pf, rd, wt, ck, ln, lt, bz, nq, up_1, up_2, obs, obn, hB.t_, fa, fb, na, nb, kn, rko, rz, hB.s_, e7, t16, d1]
              · unfold D_M_grafted
                simp [-Option.bind_some, -Option.bind_none, gf, pf, rd, wt, ck, ln, lt, bz, nq, up_1, up_2, obs, obn, hB1.m_, ia1, ib1, is1, s0, s6, r631, rz, f4, n16, da]
              · rw [hKa.2.1 0 (by decide) (by decide), hF1.2 0 (by decide)]; exact e7
              · rw [hKa.2.2.1 4 (by decide) (by decide) (by decide) (by decide)]; exact f4
          · have n16 : tc = 16 := by omega
            refine same (-4) ?_ ?_
            · unfold D_T_grafted
              simp [-Option.bind_some, -Option.bind_none, gf, pf, rd, wt, ck, ln, lt, bz, nq, up_1, up_2, obs, obn, hB.t_, fa, fb, na, nb, kn, rko, rz, hB.s_, e7, t16]
            · unfold D_M_grafted
              simp [-Option.bind_some, -Option.bind_none, gf, pf, rd, wt, ck, ln, lt, bz, nq, up_1, up_2, obs, obn, hB.m_, ia, ib, is, s0, s6, r63, rz, e4, n16]
        · refine same (-2) ?_ ?_
          · unfold D_T_grafted
            simp [-Option.bind_some, -Option.bind_none, gf, pf, rd, wt, ck, ln, lt, bz, nq, up_1, up_2, obs, obn, hB.t_, fa, fb, na, nb, hB.s_, kn, rko, rz]
          · unfold D_M_grafted
            simp [-Option.bind_some, -Option.bind_none, gf, pf, rd, wt, ck, ln, lt, bz, nq, up_1, up_2, obs, obn, hB.m_, ia, ib, is, s0, s6, r63, rz]
      · rw [if_neg qs] at kn is
        refine same (-2) ?_ ?_
        · unfold D_T_grafted
          simp [-Option.bind_some, -Option.bind_none, gf, pf, rd, wt, ck, ln, lt, bz, nq, up_1, up_2, obs, obn, hB.t_, fa, fb, na, nb, hB.s_, kn]
        · unfold D_M_grafted
          simp [-Option.bind_some, -Option.bind_none, gf, pf, rd, wt, ck, ln, lt, bz, nq, up_1, up_2, obs, obn, hB.m_, ia, ib, is]
    · rw [if_neg qb] at fb ib
      refine same (-2) ?_ ?_
      · unfold D_T_grafted
        simp [-Option.bind_some, -Option.bind_none, gf, pf, rd, wt, ck, ln, lt, bz, nq, up_1, up_2, obs, obn, hB.t_, fa, fb, na]
      · unfold D_M_grafted
        simp [-Option.bind_some, -Option.bind_none, gf, pf, rd, wt, ck, ln, lt, bz, nq, up_1, up_2, obs, obn, hB.m_, ia, ib]
  · rw [if_neg qa] at fa ia
    refine same (-2) ?_ ?_
    · unfold D_T_grafted
      simp [-Option.bind_some, -Option.bind_none, gf, pf, rd, wt, ck, ln, lt, bz, nq, up_1, up_2, obs, obn, hB.t_, fa, fb]
    · unfold D_M_grafted
      simp [-Option.bind_some, -Option.bind_none, gf, pf, rd, wt, ck, ln, lt, bz, nq, up_1, up_2, obs, obn, hB.m_, ia]
