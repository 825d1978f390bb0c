/-! calls: not, within, back, renamed -/
theorem fn2_0 {N0 M N : Mem} {p a b : Int} (hM : MOK N0 p) (hn : NtOk M) (hA : BA N) (hE : Eqm (N0.1 1 1) (rkC N0) (mch N0 p) (mchR N 16)) (h3 : M.1 8 3 = N0.1 p 11) (h4 : M.1 8 4 = 0) (h5 : M.1 8 5 = 5) (e21 : N.1 62 21 = 0) (h : R2 M (N0.1 p 10) a b) : acN M a = 1 ↔ fn2 N b = 1 := by
  have r := vs_4096 hn h.2.1
  have f := hM.2.2.2
  have k6 : 0 ≤ N0.1 p 10 ∧ N0.1 p 10 ≤ 6 := hM.2.2.1.1
  have fi : bt (N0.1 p 11) b ↔ N.1 75 (96 + b) = 1 := fin_iff hE h.1.1 h.1.2
  have sa := single_and hn h f.1 (show N0.1 p 11 < 4096 by omega)
  have ba := hA (96 + b) (by have := h.1; omega) (by have := h.1; omega)
  rw [ac_5 r.1 r.2 h4 h5, h3]
  unfold fn2
  rw [if_pos e21]
  by_cases z : N.1 75 (96 + b) = 0
  · rw [if_pos z]
    refine ⟨fun _ => rfl, fun _ => Classical.byContradiction fun w => ?_⟩
    have := fi.mp (sa.mp w)
    omega
  · rw [if_neg z]
    refine ⟨fun w => ?_, fun w => by omega⟩
    have := sa.mpr (fi.mpr (by omega))
    exact absurd w this
theorem fn2_1 {N0 M N : Mem} {p a b : Int} (hM : MOK N0 p) (hn : NtOk M) (hA : BA N) (hE : Eqm (N0.1 1 1) (rkC N0) (mch N0 p) (mchR N 16)) (h3 : M.1 8 3 = N0.1 p 11) (h4 : M.1 8 4 = 0) (h5 : M.1 8 5 = 10) (e21 : N.1 62 21 = 1) (h : R2 M (N0.1 p 10) a b) : acN M a = 1 ↔ fn2 N b = 1 := by
  have r := vs_4096 hn h.2.1
  have f := hM.2.2.2
  have k6 : 0 ≤ N0.1 p 10 ∧ N0.1 p 10 ≤ 6 := hM.2.2.1.1
  have fi : bt (N0.1 p 11) b ↔ N.1 75 (96 + b) = 1 := fin_iff hE h.1.1 h.1.2
  have sa := single_and hn h f.1 (show N0.1 p 11 < 4096 by omega)
  have ba := hA (96 + b) (by have := h.1; omega) (by have := h.1; omega)
  rw [ac_10 r.1 r.2 h4 h5, h3, sa, fi]
  unfold fn2
  rw [if_neg (by omega), if_pos e21]
  by_cases z : N.1 75 (96 + b) = 0
  · rw [if_pos z]
    exact ⟨fun w => by omega, fun w => by omega⟩
  · rw [if_neg z]
    exact ⟨fun _ => rfl, fun _ => by omega⟩
theorem fn4_a {N0 M : Mem} {p a b : Int} (hM : MOK N0 p) (hn : NtOk M) (h3 : M.1 8 3 = N0.1 p 11) (h4 : M.1 8 4 = 0) (h5 : M.1 8 5 = 10) (h : R4 N0 M p a b) : acN M a = 1 ↔ fn4 b = 1 := by
  obtain ⟨c, hc, hb, h1, h2, hv, hq⟩ := h
  have r := vs_4096 hn hv
  have f := hM.2.2.2
  have k6 : 0 ≤ N0.1 p 10 ∧ N0.1 p 10 ≤ 6 := hM.2.2.1.1
  have sa := single_and (c := N0.1 p 10) (b := c) hn ⟨hc, hv, hq⟩ f.1 (show N0.1 p 11 < 4096 by omega)
  have b1 := bt_1 (z := N0.1 p 11) (i := c) f.1 (by omega) hc.1 (by omega)
  rw [ac_10 r.1 r.2 h4 h5, h3, sa, ← b1]
  unfold fn4
  exact h1.symm
theorem hl_a {N0 M N : Mem} {p a : Int} (hM : MOK N0 p) (hn : NtOk M) (hE : Eqm (N0.1 1 1) (rkC N0) (mch N0 p) (mchR N 16)) (h2 : M.1 8 2 = N0.1 p 10) (h3 : M.1 8 3 = N0.1 p 11) (h4 : M.1 8 4 = 0) (h5 : M.1 8 5 = 10) (hv : vs M a) : acN M a = 1 ↔ hl N a = 1 := by
  have r := vs_4096 hn hv
  have k6 : 0 ≤ N0.1 p 10 ∧ N0.1 p 10 ≤ 6 := hM.2.2.1.1
  rw [ac_10 r.1 r.2 h4 h5, h3, hl_i]
  refine sets_and hM hE r.1 r.2 (fun i i0 i6 b => ?_)
  have := bt_lt (k := (M.1 8 2).toNat) hv.1 hv.2 b i0
  rw [h2] at this
  omega
theorem not_both {L : Nat} {xs : Int → Int} {M : Mem} (h : Inv L xs M) (a : Int) : Both L xs (D_T_not 0 a) (D_M_not 62 a) M := by
  have h0 := h
  obtain ⟨tc, hI, e7, e4, hC⟩ := h
  have hB := hI.sb
  have hg := hI.sg
  have t0 := hI.tc_
  have fa := find_ok hB hI.sl e7 t0.2 a
  have ia := isTongue_ok hB (by rw [e4]; exact t0) a
  rw [e4] at ia
  have same : ∀ v, D_T_not 0 a M = some (v, M) → D_M_not 62 a M = some (v, M) → Both L xs (D_T_not 0 a) (D_M_not 62 a) M := fun v p q => ⟨v, M, M, p, q, hC, h0, hB⟩
  by_cases qa : 0 ≤ a ∧ a < tc
  · rw [if_pos qa] at fa ia
    have na : ¬ 100 + 12 * a < 0 := by omega
    by_cases t16 : tc < 16
    · have n16 : ¬ tc = 16 := by omega
      obtain ⟨r1, M1, d1, hI1, hF1, er1, r01, h7, ho1, hs1⟩ := isLarge_ok hI qa.1 qa.2
      have hB1 := hI1.sb
      have c1 : M1.1 62 = M.1 62 := hF1.2 62 (by decide)
      have ia1 := isTongue_ok hB1 (by rw [c1, e4]; exact t0) a
      rw [c1, e4, if_pos qa] at ia1
      have f4 : M1.1 62 4 = tc := by rw [c1]; exact e4
      have sc1 := hF1.sc hC
      have e71 : M1.1 0 7 = tc := by rw [hF1.2 0 (by decide)]; exact e7
      rcases r01 with z1 | z1
      · subst z1
        have hMa := (hI1.2.2.2.2.2.2.2.2.2.2 a qa.1 qa.2).mok h7 er1.symm
        have k6 : 0 ≤ M1.1 (102 + 12 * a) 10 ∧ M1.1 (102 + 12 * a) 10 ≤ 6 := hMa.2.2.1.1
        have ff := hMa.2.2.2
        obtain ⟨M3, e3, hN⟩ := setOne_ok (fin := M1.1 (102 + 12 * a) 11) (way := 5) hB1 hI1.sg.1 hMa
        have hNf : Nf M1 M3 := ⟨hN.1, hN.2.1, hN.2.2.1⟩
        have E3 : Env M3 := hN.env6 hI1.sg.1 k6 ⟨ff.1, by omega⟩ (by decide) (by decide)
        have hn := E3.1
        obtain ⟨r, M4, Ya, ek, hK, da, hIa, hKa, f4a, hE, sc4, hI4, c4, sca, na1, eka⟩ := made1_ok hI1 e71 qa.1 qa.2 h7 er1.symm sc1 hNf E3 t16
        have hB4 := hI4.sb
        have hBa := hIa.sb
        have ia4 := isTongue_ok hB4 (by rw [c4, c1, e4]; exact t0) a
        rw [c4, c1, e4, if_pos qa] at ia4
        have f44 : M4.1 62 4 = tc := by rw [c4]; exact f4
        have n6 := hI1.sg.1.2.1
        have k6m : mN (mch M1 (102 + 12 * a)) ≤ 6 := hMa.2.2.1.1.2
        obtain ⟨N, eN, hPL⟩ := plain_ok (w := 0) hIa
        obtain ⟨hIN, hKN, oN, fN', g20, g21, g23⟩ := hPL
        have fN : ∀ j, j ≠ 20 → j ≠ 21 → j ≠ 23 → j ≠ 24 → N.1 62 j = Ya.1 62 j := fun j q1 q2 q3 _ => fN' j q1 q2 q3
        have hBN := hIN.sb
        have run : D_M_not 62 a M4 = (D_M_newTongue 62 N).bind fun x => some (x.1, x.2) := by
          unfold D_M_not
          simp [-Option.bind_some, -Option.bind_none, gf, pf, rd, wt, ck, ln, lt, bz, nq, up_1, up_2, obs, obn, hB4.m_, ia4, f44, n16, da, hBa.m_, eN, hBN.m_]
        have ekN : rkC N = rkC M1 := (rk_c (oN 1 (by decide)) (oN 2 (by decide))).trans eka
        have nN : N.1 1 = M1.1 1 := by rw [oN 1 (by decide)]; exact na1
        have hEN := hE.cr (M' := N) n6 k6m (by rw [oN 73 (by decide)]) (fun j _ _ => by rw [oN 74 (by decide)]) (fun e c q q' _ _ => by rw [oN e (by omega)])
        have hWN := hEN.mw hMa.2.2.1
        have f4N : N.1 62 4 = tc := by rw [fN 4 (by decide) (by decide) (by decide) (by decide), f4a]; exact f4
        have mo : MapOk N (N.1 62 23) := fun s s0 s1 => by
          rw [g23, na1]
          rw [nN] at s1
          rw [pm_id hI1.sg.1.1 hI1.sg.1.2.1 s0 s1, nN]
          exact ⟨⟨s0, s1⟩, rfl⟩
        have ra := (ra2 hIN.rc (by rw [nN, ekN]; exact hWN) mo g20).1
        obtain ⟨M5, e5, hInv⟩ := made_end t16 hK hIN (hKa.tr hKN) f4N ra (fun z c j => fn2_0 hMa hn hIN.2.2.2.2.2.2.2.2.1 hEN hN.2.2.2.1.2.1 hN.2.2.2.1.2.2.1 hN.2.2.2.1.2.2.2 g21 (joint2 hI1.sg.1 hMa hn hN (by rw [nN]) ekN hEN (fun s s0 s1 => ⟨⟨s0, s1⟩, rfl, by rw [g23, na1]; exact pm_id hI1.sg.1.1 hI1.sg.1.2.1 s0 s1⟩) j)) (hKN.sc sca)
        refine ⟨r, M4, M5, ?_, ?_, sc4, hInv, hB4⟩
        · have ats := hI1.sl.at qa.1 qa.2
          have u1 : M1.1 (100 + 12 * a) 1 = 102 + 12 * a := by rw [ats.2.1.2.2.2.1]; omega
          have u3 := ats.2.1.1
          have u5 := ats.2.2.1
          have hBn := hN.2.2.1
          clear ats
          unfold D_T_not
          simp [-Option.bind_some, -Option.bind_none, gf, pf, rd, wt, ck, ln, lt, bz, nq, up_1, up_2, obs, obn, hB.t_, fa, na, e7, t16, d1, hB1.t_, u1, u3, u5, hB1.n_, e3, hBn.t_, ek]
        · rw [run, e5, obs]
      · subst z1
        obtain ⟨r', Ma, da, hIa, hKa, hra⟩ := load_k_ok (m := 16) hI1 qa.1 qa.2 h7 (Or.inl rfl)
        have er' : r' = -5 := by
          rcases hra with q | q
          · exact q.1
          · have := q.2.1; omega
        subst er'
        refine ⟨-5, M1, Ma, ?_, ?_, sc1, ⟨tc, hIa, ?_, ?_, hKa.sc sc1⟩, hB1⟩
        · unfold D_T_not
          simp [-Option.bind_some, -Option.bind_none, gf, pf, rd, wt, ck, ln, lt, bz, nq, up_1, up_2, obs, obn, hB.t_, fa, na, e7, t16, d1]
        · unfold D_M_not
          simp [-Option.bind_some, -Option.bind_none, gf, pf, rd, wt, ck, ln, lt, bz, nq, up_1, up_2, obs, obn, hB1.m_, ia1, f4, n16, da]
        · rw [hKa.2.1 0 (by decide) (by decide)]; exact e71
        · rw [hKa.2.2.1 4 (by decide) (by decide) (by decide) (by decide)]; exact f4
    · have n16 : tc = 16 := by omega
      refine same (-4) ?_ ?_
      · unfold D_T_not
        simp [-Option.bind_some, -Option.bind_none, gf, pf, rd, wt, ck, ln, lt, bz, nq, up_1, up_2, obs, obn, hB.t_, fa, na, e7, t16]
      · unfold D_M_not
        simp [-Option.bind_some, -Option.bind_none, gf, pf, rd, wt, ck, ln, lt, bz, nq, up_1, up_2, obs, obn, hB.m_, ia, e4, n16]
  · rw [if_neg qa] at fa ia
    refine same (-2) ?_ ?_
    · unfold D_T_not
      simp [-Option.bind_some, -Option.bind_none, gf, pf, rd, wt, ck, ln, lt, bz, nq, up_1, up_2, obs, obn, hB.t_, fa]
    · unfold D_M_not
      simp [-Option.bind_some, -Option.bind_none, gf, pf, rd, wt, ck, ln, lt, bz, nq, up_1, up_2, obs, obn, hB.m_, ia]
theorem within_both {L : Nat} {xs : Int → Int} {M : Mem} (h : Inv L xs M) (a : Int) : Both L xs (D_T_within 0 a) (D_M_within 62 a) M := by
  have h0 := h
  obtain ⟨tc, hI, e7, e4, hC⟩ := h
  have hB := hI.sb
  have hg := hI.sg
  have t0 := hI.tc_
  have fa := find_ok hB hI.sl e7 t0.2 a
  have ia := isTongue_ok hB (by rw [e4]; exact t0) a
  rw [e4] at ia
  have same : ∀ v, D_T_within 0 a M = some (v, M) → D_M_within 62 a M = some (v, M) → Both L xs (D_T_within 0 a) (D_M_within 62 a) M := fun v p q => ⟨v, M, M, p, q, hC, h0, hB⟩
  by_cases qa : 0 ≤ a ∧ a < tc
  · rw [if_pos qa] at fa ia
    have na : ¬ 100 + 12 * a < 0 := by omega
    by_cases t16 : tc < 16
    · have n16 : ¬ tc = 16 := by omega
      obtain ⟨r1, M1, d1, hI1, hF1, er1, r01, h7, ho1, hs1⟩ := isLarge_ok hI qa.1 qa.2
      have hB1 := hI1.sb
      have c1 : M1.1 62 = M.1 62 := hF1.2 62 (by decide)
      have ia1 := isTongue_ok hB1 (by rw [c1, e4]; exact t0) a
      rw [c1, e4, if_pos qa] at ia1
      have f4 : M1.1 62 4 = tc := by rw [c1]; exact e4
      have sc1 := hF1.sc hC
      have e71 : M1.1 0 7 = tc := by rw [hF1.2 0 (by decide)]; exact e7
      rcases r01 with z1 | z1
      · subst z1
        have hMa := (hI1.2.2.2.2.2.2.2.2.2.2 a qa.1 qa.2).mok h7 er1.symm
        have k6 : 0 ≤ M1.1 (102 + 12 * a) 10 ∧ M1.1 (102 + 12 * a) 10 ≤ 6 := hMa.2.2.1.1
        have ff := hMa.2.2.2
        obtain ⟨M3, e3, hN⟩ := setWithin_ok hB1 hI1.sg.1 hMa
        have hNf : Nf M1 M3 := ⟨hN.1, hN.2.1, hN.2.2.1⟩
        have E3 : Env M3 := hN.env6 hI1.sg.1 k6 ⟨ff.1, by omega⟩ (by decide) (by decide)
        have hn := E3.1
        obtain ⟨r, M4, Ya, ek, hK, da, hIa, hKa, f4a, hE, sc4, hI4, c4, sca, na1, eka⟩ := made1_ok hI1 e71 qa.1 qa.2 h7 er1.symm sc1 hNf E3 t16
        have hB4 := hI4.sb
        have hBa := hIa.sb
        have ia4 := isTongue_ok hB4 (by rw [c4, c1, e4]; exact t0) a
        rw [c4, c1, e4, if_pos qa] at ia4
        have f44 : M4.1 62 4 = tc := by rw [c4]; exact f4
        have n6 := hI1.sg.1.2.1
        have k6m : mN (mch M1 (102 + 12 * a)) ≤ 6 := hMa.2.2.1.1.2
        have hIN : IB (up Ya 62 20 4) tc := (hIa.f62 (k := 20) (v := 4) (by decide))
        have hKN : KR Ya (up Ya 62 20 4) := ((KR.rf Ya).up (by decide))
        have oN : ∀ e, e ≠ 62 → (up Ya 62 20 4).1 e = Ya.1 e := fun e q => by rw [up_n q]
        have fN : ∀ j, j ≠ 20 → j ≠ 21 → j ≠ 23 → j ≠ 24 → (up Ya 62 20 4).1 62 j = Ya.1 62 j := fun j q1 q2 q3 q4 => by rw [up_1, if_neg (fun z => q1 z.2)]
        have g20 : (up Ya 62 20 4).1 62 20 = 4 := by simp [-Option.bind_some, -Option.bind_none, gf, pf, rd, wt, ck, ln, lt, bz, nq, up_1, up_2, obs, obn]
        have run : D_M_within 62 a M4 = (D_M_newTongue 62 (up Ya 62 20 4)).bind fun x => some (x.1, x.2) := by
          unfold D_M_within
          simp [-Option.bind_some, -Option.bind_none, gf, pf, rd, wt, ck, ln, lt, bz, nq, up_1, up_2, obs, obn, hB4.m_, ia4, f44, n16, da, hBa.m_]
        generalize up Ya 62 20 4 = N at *
        have ekN : rkC N = rkC M1 := (rk_c (oN 1 (by decide)) (oN 2 (by decide))).trans eka
        have nN : N.1 1 = M1.1 1 := by rw [oN 1 (by decide)]; exact na1
        have hEN := hE.cr (M' := N) n6 k6m (by rw [oN 73 (by decide)]) (fun j _ _ => by rw [oN 74 (by decide)]) (fun e c q q' _ _ => by rw [oN e (by omega)])
        have hWN := hEN.mw hMa.2.2.1
        have f4N : N.1 62 4 = tc := by rw [fN 4 (by decide) (by decide) (by decide) (by decide), f4a]; exact f4
        have ra := (ra4 hIN.rc (by rw [nN, ekN]; exact hWN) g20).1
        obtain ⟨M5, e5, hInv⟩ := made_end t16 hK hIN (hKa.tr hKN) f4N ra (fun z c j => fn4_a hMa hn hN.2.2.2.1.2.1 hN.2.2.2.1.2.2.1 hN.2.2.2.1.2.2.2 (joint4 hI1.sg.1 hMa hn hN ekN hEN j)) (hKN.sc sca)
        refine ⟨r, M4, M5, ?_, ?_, sc4, hInv, hB4⟩
        · have ats := hI1.sl.at qa.1 qa.2
          have u1 : M1.1 (100 + 12 * a) 1 = 102 + 12 * a := by rw [ats.2.1.2.2.2.1]; omega
          have u3 := ats.2.1.1
          have u5 := ats.2.2.1
          have hBn := hN.2.2.1
          clear ats
          unfold D_T_within
          simp [-Option.bind_some, -Option.bind_none, gf, pf, rd, wt, ck, ln, lt, bz, nq, up_1, up_2, obs, obn, hB.t_, fa, na, e7, t16, d1, hB1.t_, u1, u3, u5, hB1.n_, e3, hBn.t_, ek]
        · rw [run, e5, obs]
      · subst z1
        obtain ⟨r', Ma, da, hIa, hKa, hra⟩ := load_k_ok (m := 16) hI1 qa.1 qa.2 h7 (Or.inl rfl)
        have er' : r' = -5 := by
          rcases hra with q | q
          · exact q.1
          · have := q.2.1; omega
        subst er'
        refine ⟨-5, M1, Ma, ?_, ?_, sc1, ⟨tc, hIa, ?_, ?_, hKa.sc sc1⟩, hB1⟩
        · unfold D_T_within
          simp [-Option.bind_some, -Option.bind_none, gf, pf, rd, wt, ck, ln, lt, bz, nq, up_1, up_2, obs, obn, hB.t_, fa, na, e7, t16, d1]
        · unfold D_M_within
          simp [-Option.bind_some, -Option.bind_none, gf, pf, rd, wt, ck, ln, lt, bz, nq, up_1, up_2, obs, obn, hB1.m_, ia1, f4, n16, da]
        · rw [hKa.2.1 0 (by decide) (by decide)]; exact e71
        · rw [hKa.2.2.1 4 (by decide) (by decide) (by decide) (by decide)]; exact f4
    · have n16 : tc = 16 := by omega
      refine same (-4) ?_ ?_
      · unfold D_T_within
        simp [-Option.bind_some, -Option.bind_none, gf, pf, rd, wt, ck, ln, lt, bz, nq, up_1, up_2, obs, obn, hB.t_, fa, na, e7, t16]
      · unfold D_M_within
        simp [-Option.bind_some, -Option.bind_none, gf, pf, rd, wt, ck, ln, lt, bz, nq, up_1, up_2, obs, obn, hB.m_, ia, e4, n16]
  · rw [if_neg qa] at fa ia
    refine same (-2) ?_ ?_
    · unfold D_T_within
      simp [-Option.bind_some, -Option.bind_none, gf, pf, rd, wt, ck, ln, lt, bz, nq, up_1, up_2, obs, obn, hB.t_, fa]
    · unfold D_M_within
      simp [-Option.bind_some, -Option.bind_none, gf, pf, rd, wt, ck, ln, lt, bz, nq, up_1, up_2, obs, obn, hB.m_, ia]
theorem back_both {L : Nat} {xs : Int → Int} {M : Mem} (h : Inv L xs M) (a map : Int) (hmap : map < 2147483648) : Both L xs (D_T_back 0 a map) (D_M_back 62 a map) M := by
  have h0 := h
  obtain ⟨tc, hI, e7, e4, hC⟩ := h
  have hB := hI.sb
  have hg := hI.sg
  have t0 := hI.tc_
  have fa := find_ok hB hI.sl e7 t0.2 a
  have ia := isTongue_ok hB (by rw [e4]; exact t0) a
  rw [e4] at ia
  have same : ∀ v, D_T_back 0 a map M = some (v, M) → D_M_back 62 a map M = some (v, M) → Both L xs (D_T_back 0 a map) (D_M_back 62 a map) M := fun v p q => ⟨v, M, M, p, q, hC, h0, hB⟩
  by_cases qa : 0 ≤ a ∧ a < tc
  · rw [if_pos qa] at fa ia
    have na : ¬ 100 + 12 * a < 0 := by omega
    obtain ⟨mc, emc, hmc⟩ := isMap_c (map := map) hB hg.1 hmap
    obtain ⟨mr, emr, hmr⟩ := isMap_r (map := map) hB hg hmap
    by_cases im : IM M map
    rotate_left
    · have z1 : mc = 0 := by
        rcases hmc with w | w
        · exact absurd w.2 im
        · exact w.1
      have z2 : mr = 0 := by
        rcases hmr with w | w
        · exact absurd w.2 im
        · exact w.1
      subst z1; subst z2
      refine same (-2) ?_ ?_
      · unfold D_T_back
        simp [-Option.bind_some, -Option.bind_none, gf, pf, rd, wt, ck, ln, lt, bz, nq, up_1, up_2, obs, obn, hB.t_, fa, na, hB.s_, emc]
      · unfold D_M_back
        simp [-Option.bind_some, -Option.bind_none, gf, pf, rd, wt, ck, ln, lt, bz, nq, up_1, up_2, obs, obn, hB.m_, ia, emr]
    have z1 : mc = 1 := by
      rcases hmc with w | w
      · exact w.1
      · exact absurd im w.2
    have z2 : mr = 1 := by
      rcases hmr with w | w
      · exact w.1
      · exact absurd im w.2
    subst z1; subst z2
    have mapr : ∀ X : Mem, SB X → SgE X → X.1 1 = M.1 1 → X.1 2 = M.1 2 → D_M_isMap 62 map X = some (1, X) := fun X hBX hgX c1 c2 => by
      obtain ⟨mr, emr, hmr⟩ := isMap_r (map := map) hBX hgX hmap
      have : IM X map := by
        unfold IM MapOk
        rw [c1, rk_c c1 c2]
        exact im
      rcases hmr with w | w
      · rw [w.1] at emr; exact emr
      · exact absurd this w.2
    by_cases t16 : tc < 16
    · have n16 : ¬ tc = 16 := by omega
      obtain ⟨r1, M1, d1, hI1, hF1, er1, r01, h7, ho1, hs1⟩ := isLarge_ok hI qa.1 qa.2
      have hB1 := hI1.sb
      have c1 : M1.1 62 = M.1 62 := hF1.2 62 (by decide)
      have ia1 := isTongue_ok hB1 (by rw [c1, e4]; exact t0) a
      rw [c1, e4, if_pos qa] at ia1
      have f4 : M1.1 62 4 = tc := by rw [c1]; exact e4
      have sc1 := hF1.sc hC
      have e71 : M1.1 0 7 = tc := by rw [hF1.2 0 (by decide)]; exact e7
      have mr1 := mapr M1 hB1 hI1.sg (hF1.2 1 (by decide)) (hF1.2 2 (by decide))
      rcases r01 with z1 | z1
      · subst z1
        have hMa := (hI1.2.2.2.2.2.2.2.2.2.2 a qa.1 qa.2).mok h7 er1.symm
        have k6 : 0 ≤ M1.1 (102 + 12 * a) 10 ∧ M1.1 (102 + 12 * a) 10 ≤ 6 := hMa.2.2.1.1
        have ff := hMa.2.2.2
        obtain ⟨M3, e3, hN⟩ := setBack_ok hB1 hI1.sg.1 hMa (show MapOk M1 map by
          unfold MapOk
          rw [hF1.2 1 (by decide), rk_c (hF1.2 1 (by decide)) (hF1.2 2 (by decide))]
          exact im.2.2)
        have hNf : Nf M1 M3 := ⟨hN.1, hN.2.1, hN.2.2.1⟩
        have E3 : Env M3 := hN.env6 hI1.sg.1 k6 ⟨ff.1, by omega⟩ (by decide) (by decide)
        have hn := E3.1
        obtain ⟨r, M4, Ya, ek, hK, da, hIa, hKa, f4a, hE, sc4, hI4, c4, sca, na1, eka⟩ := made1_ok hI1 e71 qa.1 qa.2 h7 er1.symm sc1 hNf E3 t16
        have hB4 := hI4.sb
        have hBa := hIa.sb
        have ia4 := isTongue_ok hB4 (by rw [c4, c1, e4]; exact t0) a
        rw [c4, c1, e4, if_pos qa] at ia4
        have f44 : M4.1 62 4 = tc := by rw [c4]; exact f4
        have n6 := hI1.sg.1.2.1
        have k6m : mN (mch M1 (102 + 12 * a)) ≤ 6 := hMa.2.2.1.1.2
        have mr4 := mapr M4 hB4 hI4.sg (by rw [hK.2.2.1.2.1 1 (by decide)]; exact hF1.2 1 (by decide)) (by rw [hK.2.2.1.2.1 2 (by decide)]; exact hF1.2 2 (by decide))
        have im1 : MapOk M1 map := by
          unfold MapOk
          rw [hF1.2 1 (by decide), rk_c (hF1.2 1 (by decide)) (hF1.2 2 (by decide))]
          exact im.2.2
        have hIN : IB (up (up (up Ya 62 20 2) 62 21 1) 62 23 map) tc := (((hIa.f62 (k := 20) (v := 2) (by decide)).f62 (k := 21) (v := 1) (by decide)).f62 (k := 23) (v := map) (by decide))
        have hKN : KR Ya (up (up (up Ya 62 20 2) 62 21 1) 62 23 map) := ((((KR.rf Ya).up (by decide)).up (by decide)).up (by decide))
        have oN : ∀ e, e ≠ 62 → (up (up (up Ya 62 20 2) 62 21 1) 62 23 map).1 e = Ya.1 e := fun e q => by rw [up_n q, up_n q, up_n q]
        have fN : ∀ j, j ≠ 20 → j ≠ 21 → j ≠ 23 → j ≠ 24 → (up (up (up Ya 62 20 2) 62 21 1) 62 23 map).1 62 j = Ya.1 62 j := fun j q1 q2 q3 q4 => by rw [up_1, if_neg (fun z => q3 z.2), up_1, if_neg (fun z => q2 z.2), up_1, if_neg (fun z => q1 z.2)]
        have g20 : (up (up (up Ya 62 20 2) 62 21 1) 62 23 map).1 62 20 = 2 := by simp [-Option.bind_some, -Option.bind_none, gf, pf, rd, wt, ck, ln, lt, bz, nq, up_1, up_2, obs, obn]
        have g21 : (up (up (up Ya 62 20 2) 62 21 1) 62 23 map).1 62 21 = 1 := by simp [-Option.bind_some, -Option.bind_none, gf, pf, rd, wt, ck, ln, lt, bz, nq, up_1, up_2, obs, obn]
        have g23 : (up (up (up Ya 62 20 2) 62 21 1) 62 23 map).1 62 23 = map := by simp [-Option.bind_some, -Option.bind_none, gf, pf, rd, wt, ck, ln, lt, bz, nq, up_1, up_2, obs, obn]
        have run : D_M_back 62 a map M4 = (D_M_newTongue 62 (up (up (up Ya 62 20 2) 62 21 1) 62 23 map)).bind fun x => some (x.1, x.2) := by
          unfold D_M_back
          simp [-Option.bind_some, -Option.bind_none, gf, pf, rd, wt, ck, ln, lt, bz, nq, up_1, up_2, obs, obn, hB4.m_, ia4, mr4, f44, n16, da, hBa.m_]
        generalize up (up (up Ya 62 20 2) 62 21 1) 62 23 map = N at *
        have ekN : rkC N = rkC M1 := (rk_c (oN 1 (by decide)) (oN 2 (by decide))).trans eka
        have nN : N.1 1 = M1.1 1 := by rw [oN 1 (by decide)]; exact na1
        have hEN := hE.cr (M' := N) n6 k6m (by rw [oN 73 (by decide)]) (fun j _ _ => by rw [oN 74 (by decide)]) (fun e c q q' _ _ => by rw [oN e (by omega)])
        have hWN := hEN.mw hMa.2.2.1
        have f4N : N.1 62 4 = tc := by rw [fN 4 (by decide) (by decide) (by decide) (by decide), f4a]; exact f4
        have mo : MapOk N (N.1 62 23) := by
          unfold MapOk
          rw [g23, nN, ekN]
          exact im1
        have ra := (ra2 hIN.rc (by rw [nN, ekN]; exact hWN) mo g20).1
        obtain ⟨M5, e5, hInv⟩ := made_end t16 hK hIN (hKa.tr hKN) f4N ra (fun z c j => fn2_1 hMa hn hIN.2.2.2.2.2.2.2.2.1 hEN hN.2.2.2.1.2.1 hN.2.2.2.1.2.2.1 hN.2.2.2.1.2.2.2 g21 (joint2 hI1.sg.1 hMa hn hN (by rw [nN]) ekN hEN (fun s s0 s1 => ⟨(im1 s s0 s1).1, (im1 s s0 s1).2, by rw [g23]⟩) j)) (hKN.sc sca)
        refine ⟨r, M4, M5, ?_, ?_, sc4, hInv, hB4⟩
        · have ats := hI1.sl.at qa.1 qa.2
          have u1 : M1.1 (100 + 12 * a) 1 = 102 + 12 * a := by rw [ats.2.1.2.2.2.1]; omega
          have u3 := ats.2.1.1
          have u5 := ats.2.2.1
          have hBn := hN.2.2.1
          clear ats
          unfold D_T_back
          simp [-Option.bind_some, -Option.bind_none, gf, pf, rd, wt, ck, ln, lt, bz, nq, up_1, up_2, obs, obn, hB.t_, fa, na, hB.s_, emc, e7, t16, d1, hB1.t_, u1, u3, u5, hB1.n_, e3, hBn.t_, ek]
        · rw [run, e5, obs]
      · subst z1
        obtain ⟨r', Ma, da, hIa, hKa, hra⟩ := load_k_ok (m := 16) hI1 qa.1 qa.2 h7 (Or.inl rfl)
        have er' : r' = -5 := by
          rcases hra with q | q
          · exact q.1
          · have := q.2.1; omega
        subst er'
        refine ⟨-5, M1, Ma, ?_, ?_, sc1, ⟨tc, hIa, ?_, ?_, hKa.sc sc1⟩, hB1⟩
        · unfold D_T_back
          simp [-Option.bind_some, -Option.bind_none, gf, pf, rd, wt, ck, ln, lt, bz, nq, up_1, up_2, obs, obn, hB.t_, fa, na, hB.s_, emc, e7, t16, d1]
        · unfold D_M_back
          simp [-Option.bind_some, -Option.bind_none, gf, pf, rd, wt, ck, ln, lt, bz, nq, up_1, up_2, obs, obn, hB1.m_, ia1, mr1, f4, n16, da]
        · rw [hKa.2.1 0 (by decide) (by decide)]; exact e71
        · rw [hKa.2.2.1 4 (by decide) (by decide) (by decide) (by decide)]; exact f4
    · have n16 : tc = 16 := by omega
      refine same (-4) ?_ ?_
      · unfold D_T_back
        simp [-Option.bind_some, -Option.bind_none, gf, pf, rd, wt, ck, ln, lt, bz, nq, up_1, up_2, obs, obn, hB.t_, fa, na, hB.s_, emc, e7, t16]
      · unfold D_M_back
        simp [-Option.bind_some, -Option.bind_none, gf, pf, rd, wt, ck, ln, lt, bz, nq, up_1, up_2, obs, obn, hB.m_, ia, emr, e4, n16]
  · rw [if_neg qa] at fa ia
    refine same (-2) ?_ ?_
    · unfold D_T_back
      simp [-Option.bind_some, -Option.bind_none, gf, pf, rd, wt, ck, ln, lt, bz, nq, up_1, up_2, obs, obn, hB.t_, fa]
    · unfold D_M_back
      simp [-Option.bind_some, -Option.bind_none, gf, pf, rd, wt, ck, ln, lt, bz, nq, up_1, up_2, obs, obn, hB.m_, ia]
theorem renamed_both {L : Nat} {xs : Int → Int} {M : Mem} (h : Inv L xs M) (a map : Int) (hmap : map < 2147483648) : Both L xs (D_T_renamed 0 a map) (D_M_renamed 62 a map) M := by
  have h0 := h
  obtain ⟨tc, hI, e7, e4, hC⟩ := h
  have hB := hI.sb
  have hg := hI.sg
  have t0 := hI.tc_
  have fa := find_ok hB hI.sl e7 t0.2 a
  have ia := isTongue_ok hB (by rw [e4]; exact t0) a
  rw [e4] at ia
  have same : ∀ v, D_T_renamed 0 a map M = some (v, M) → D_M_renamed 62 a map M = some (v, M) → Both L xs (D_T_renamed 0 a map) (D_M_renamed 62 a map) M := fun v p q => ⟨v, M, M, p, q, hC, h0, hB⟩
  by_cases qa : 0 ≤ a ∧ a < tc
  · rw [if_pos qa] at fa ia
    have na : ¬ 100 + 12 * a < 0 := by omega
    obtain ⟨mc, emc, hmc⟩ := isMap_c (map := map) hB hg.1 hmap
    obtain ⟨mr, emr, hmr⟩ := isMap_r (map := map) hB hg hmap
    by_cases im : IM M map
    rotate_left
    · have z1 : mc = 0 := by
        rcases hmc with w | w
        · exact absurd w.2 im
        · exact w.1
      have z2 : mr = 0 := by
        rcases hmr with w | w
        · exact absurd w.2 im
        · exact w.1
      subst z1; subst z2
      refine same (-2) ?_ ?_
      · unfold D_T_renamed
        simp [-Option.bind_some, -Option.bind_none, gf, pf, rd, wt, ck, ln, lt, bz, nq, up_1, up_2, obs, obn, hB.t_, fa, na, hB.s_, emc]
      · unfold D_M_renamed
        simp [-Option.bind_some, -Option.bind_none, gf, pf, rd, wt, ck, ln, lt, bz, nq, up_1, up_2, obs, obn, hB.m_, ia, emr]
    have z1 : mc = 1 := by
      rcases hmc with w | w
      · exact w.1
      · exact absurd im w.2
    have z2 : mr = 1 := by
      rcases hmr with w | w
      · exact w.1
      · exact absurd im w.2
    subst z1; subst z2
    have mapr : ∀ X : Mem, SB X → SgE X → X.1 1 = M.1 1 → X.1 2 = M.1 2 → D_M_isMap 62 map X = some (1, X) := fun X hBX hgX c1 c2 => by
      obtain ⟨mr, emr, hmr⟩ := isMap_r (map := map) hBX hgX hmap
      have : IM X map := by
        unfold IM MapOk
        rw [c1, rk_c c1 c2]
        exact im
      rcases hmr with w | w
      · rw [w.1] at emr; exact emr
      · exact absurd this w.2
    by_cases t16 : tc < 16
    · have n16 : ¬ tc = 16 := by omega
      obtain ⟨r1, M1, d1, hI1, hF1, er1, r01, h7, ho1, hs1⟩ := isLarge_ok hI qa.1 qa.2
      have hB1 := hI1.sb
      have c1 : M1.1 62 = M.1 62 := hF1.2 62 (by decide)
      have ia1 := isTongue_ok hB1 (by rw [c1, e4]; exact t0) a
      rw [c1, e4, if_pos qa] at ia1
      have f4 : M1.1 62 4 = tc := by rw [c1]; exact e4
      have sc1 := hF1.sc hC
      have e71 : M1.1 0 7 = tc := by rw [hF1.2 0 (by decide)]; exact e7
      have mr1 := mapr M1 hB1 hI1.sg (hF1.2 1 (by decide)) (hF1.2 2 (by decide))
      rcases r01 with z1 | z1
      · subst z1
        have hMa := (hI1.2.2.2.2.2.2.2.2.2.2 a qa.1 qa.2).mok h7 er1.symm
        have k6 : 0 ≤ M1.1 (102 + 12 * a) 10 ∧ M1.1 (102 + 12 * a) 10 ≤ 6 := hMa.2.2.1.1
        have ff := hMa.2.2.2
        obtain ⟨M3, e3, hN⟩ := setRenamed_ok hB1 hI1.sg.1 hMa (show MapOk M1 map by
          unfold MapOk
          rw [hF1.2 1 (by decide), rk_c (hF1.2 1 (by decide)) (hF1.2 2 (by decide))]
          exact im.2.2)
        have hNf : Nf M1 M3 := ⟨hN.1, hN.2.1, hN.2.2.1⟩
        have E3 : Env M3 := hN.env6 hI1.sg.1 k6 ⟨ff.1, by omega⟩ (by decide) (by decide)
        have hn := E3.1
        obtain ⟨r, M4, Ya, ek, hK, da, hIa, hKa, f4a, hE, sc4, hI4, c4, sca, na1, eka⟩ := made1_ok hI1 e71 qa.1 qa.2 h7 er1.symm sc1 hNf E3 t16
        have hB4 := hI4.sb
        have hBa := hIa.sb
        have ia4 := isTongue_ok hB4 (by rw [c4, c1, e4]; exact t0) a
        rw [c4, c1, e4, if_pos qa] at ia4
        have f44 : M4.1 62 4 = tc := by rw [c4]; exact f4
        have n6 := hI1.sg.1.2.1
        have k6m : mN (mch M1 (102 + 12 * a)) ≤ 6 := hMa.2.2.1.1.2
        have mr4 := mapr M4 hB4 hI4.sg (by rw [hK.2.2.1.2.1 1 (by decide)]; exact hF1.2 1 (by decide)) (by rw [hK.2.2.1.2.1 2 (by decide)]; exact hF1.2 2 (by decide))
        have im1 : MapOk M1 map := by
          unfold MapOk
          rw [hF1.2 1 (by decide), rk_c (hF1.2 1 (by decide)) (hF1.2 2 (by decide))]
          exact im.2.2
        have hIN : IB (up (up Ya 62 20 3) 62 23 map) tc := ((hIa.f62 (k := 20) (v := 3) (by decide)).f62 (k := 23) (v := map) (by decide))
        have hKN : KR Ya (up (up Ya 62 20 3) 62 23 map) := (((KR.rf Ya).up (by decide)).up (by decide))
        have oN : ∀ e, e ≠ 62 → (up (up Ya 62 20 3) 62 23 map).1 e = Ya.1 e := fun e q => by rw [up_n q, up_n q]
        have fN : ∀ j, j ≠ 20 → j ≠ 21 → j ≠ 23 → j ≠ 24 → (up (up Ya 62 20 3) 62 23 map).1 62 j = Ya.1 62 j := fun j q1 q2 q3 q4 => by rw [up_1, if_neg (fun z => q3 z.2), up_1, if_neg (fun z => q1 z.2)]
        have g20 : (up (up Ya 62 20 3) 62 23 map).1 62 20 = 3 := by simp [-Option.bind_some, -Option.bind_none, gf, pf, rd, wt, ck, ln, lt, bz, nq, up_1, up_2, obs, obn]
        have g23 : (up (up Ya 62 20 3) 62 23 map).1 62 23 = map := by simp [-Option.bind_some, -Option.bind_none, gf, pf, rd, wt, ck, ln, lt, bz, nq, up_1, up_2, obs, obn]
        have run : D_M_renamed 62 a map M4 = (D_M_newTongue 62 (up (up Ya 62 20 3) 62 23 map)).bind fun x => some (x.1, x.2) := by
          unfold D_M_renamed
          simp [-Option.bind_some, -Option.bind_none, gf, pf, rd, wt, ck, ln, lt, bz, nq, up_1, up_2, obs, obn, hB4.m_, ia4, mr4, f44, n16, da, hBa.m_]
        generalize up (up Ya 62 20 3) 62 23 map = N at *
        have ekN : rkC N = rkC M1 := (rk_c (oN 1 (by decide)) (oN 2 (by decide))).trans eka
        have nN : N.1 1 = M1.1 1 := by rw [oN 1 (by decide)]; exact na1
        have hEN := hE.cr (M' := N) n6 k6m (by rw [oN 73 (by decide)]) (fun j _ _ => by rw [oN 74 (by decide)]) (fun e c q q' _ _ => by rw [oN e (by omega)])
        have hWN := hEN.mw hMa.2.2.1
        have f4N : N.1 62 4 = tc := by rw [fN 4 (by decide) (by decide) (by decide) (by decide), f4a]; exact f4
        have ra := (ra3 hIN.rc (by rw [nN, ekN]; exact hWN) g20).1
        obtain ⟨M5, e5, hInv⟩ := made_end t16 hK hIN (hKa.tr hKN) f4N ra (fun z c j => by
          obtain ⟨w1, w2⟩ := joint3 hI1.sg.1 hMa hn im1 g23 hN (by rw [nN]) ekN hEN j
          rw [← w1]
          exact hl_a hMa hn hEN hN.2.2.2.1.1 hN.2.2.2.1.2.1 hN.2.2.2.1.2.2.1 hN.2.2.2.1.2.2.2 w2) (hKN.sc sca)
        refine ⟨r, M4, M5, ?_, ?_, sc4, hInv, hB4⟩
        · have ats := hI1.sl.at qa.1 qa.2
          have u1 : M1.1 (100 + 12 * a) 1 = 102 + 12 * a := by rw [ats.2.1.2.2.2.1]; omega
          have u3 := ats.2.1.1
          have u5 := ats.2.2.1
          have hBn := hN.2.2.1
          clear ats
          unfold D_T_renamed
          simp [-Option.bind_some, -Option.bind_none, gf, pf, rd, wt, ck, ln, lt, bz, nq, up_1, up_2, obs, obn, hB.t_, fa, na, hB.s_, emc, e7, t16, d1, hB1.t_, u1, u3, u5, hB1.n_, e3, hBn.t_, ek]
        · rw [run, e5, obs]
      · subst z1
        obtain ⟨r', Ma, da, hIa, hKa, hra⟩ := load_k_ok (m := 16) hI1 qa.1 qa.2 h7 (Or.inl rfl)
        have er' : r' = -5 := by
          rcases hra with q | q
          · exact q.1
          · have := q.2.1; omega
        subst er'
        refine ⟨-5, M1, Ma, ?_, ?_, sc1, ⟨tc, hIa, ?_, ?_, hKa.sc sc1⟩, hB1⟩
        · unfold D_T_renamed
          simp [-Option.bind_some, -Option.bind_none, gf, pf, rd, wt, ck, ln, lt, bz, nq, up_1, up_2, obs, obn, hB.t_, fa, na, hB.s_, emc, e7, t16, d1]
        · unfold D_M_renamed
          simp [-Option.bind_some, -Option.bind_none, gf, pf, rd, wt, ck, ln, lt, bz, nq, up_1, up_2, obs, obn, hB1.m_, ia1, mr1, f4, n16, da]
        · rw [hKa.2.1 0 (by decide) (by decide)]; exact e71
        · rw [hKa.2.2.1 4 (by decide) (by decide) (by decide) (by decide)]; exact f4
    · have n16 : tc = 16 := by omega
      refine same (-4) ?_ ?_
      · unfold D_T_renamed
        simp [-Option.bind_some, -Option.bind_none, gf, pf, rd, wt, ck, ln, lt, bz, nq, up_1, up_2, obs, obn, hB.t_, fa, na, hB.s_, emc, e7, t16]
      · unfold D_M_renamed
        simp [-Option.bind_some, -Option.bind_none, gf, pf, rd, wt, ck, ln, lt, bz, nq, up_1, up_2, obs, obn, hB.m_, ia, emr, e4, n16]
  · rw [if_neg qa] at fa ia
    refine same (-2) ?_ ?_
    · unfold D_T_renamed
      simp [-Option.bind_some, -Option.bind_none, gf, pf, rd, wt, ck, ln, lt, bz, nq, up_1, up_2, obs, obn, hB.t_, fa]
    · unfold D_M_renamed
      simp [-Option.bind_some, -Option.bind_none, gf, pf, rd, wt, ck, ln, lt, bz, nq, up_1, up_2, obs, obn, hB.m_, ia]
