theorem asked_A {M MA : Mem} {tc k : Int} (hI : IB MA tc) (e4 : MA.1 62 4 = tc) (k0 : 0 ≤ k) (k1 : k < tc) (h : RQA M MA) : ∃ MD, D_M_asked 62 k MA = some (-3, MD) ∧ FR M MA ∧ FR MA MD ∧ SB MD := by
  obtain ⟨d1, hB1, MD, d2, f1, f2, hBD⟩ := h
  have it := isTongue_ok hB1 (by rw [e4]; exact hI.tc_) k
  rw [e4, if_pos ⟨k0, k1⟩] at it
  refine ⟨MD, ?_, f1, f2, hBD⟩
  unfold D_M_asked
  simp [-Option.bind_some, -Option.bind_none, gf, pf, rd, wt, ck, ln, lt, bz, nq, up_1, up_2, obs, obn, hB1.m_, it, d2]
theorem asked_B {M MA MB : Mem} {tc k : Int} (e4 : MB.1 62 4 = tc) (k0 : 0 ≤ k) (k1 : k < tc) (h : RQB M tc k MA MB) : ∃ ME, D_M_asked 62 k MB = some (-5, ME) ∧ IB ME tc ∧ ME.1 62 4 = MB.1 62 4 ∧ ME.1 0 7 = MB.1 0 7 ∧ (∀ L xs, SC L xs MB → SC L xs ME) := by
  obtain ⟨d1, hB1, d2, hIB, fA, hF, MD, ME, d3, d4, hBD, hIE, hKL, fD⟩ := h
  have hBB := hIB.sb
  have it := isTongue_ok hBB (by rw [e4]; exact hIB.tc_) k
  rw [e4, if_pos ⟨k0, k1⟩] at it
  refine ⟨ME, ?_, hIE, ?_, ?_, fun L xs q => hKL.sc (fD.sc q)⟩
  · unfold D_M_asked
    simp [-Option.bind_some, -Option.bind_none, gf, pf, rd, wt, ck, ln, lt, bz, nq, up_1, up_2, obs, obn, hBB.m_, it, d3, hBD.m_, d4]
  · rw [hKL.2.2.1 4 (by decide) (by decide) (by decide) (by decide), fD.2.2 4 (by decide) (by decide) (by decide) (by decide) (by decide) (by decide) (by decide) (by decide) (by decide) (by decide)]
  · rw [hKL.2.1 0 (by decide) (by decide), fD.2.1 0 (by decide) (by decide) (by decide) (by decide) (by decide)]
theorem asked_C {M MA MB MC : Mem} {tc k c : Int} (e4 : MC.1 62 4 = tc) (k0 : 0 ≤ k) (k1 : k < tc) (h : RQC M tc k MA MB MC c) : ∃ MF, D_M_asked 62 k MC = some (0, MF) ∧ IB MF tc ∧ MF.1 62 4 = MC.1 62 4 ∧ MF.1 0 7 = MC.1 0 7 ∧ (∀ L xs, SC L xs MC → SC L xs MF) ∧ MF.1 91 0 = c ∧ Eqm (MC.1 1 1) (rkC MC) (mch MC (102 + 12 * k)) (mchR MF 16) := by
  obtain ⟨d1, hB1, d2, hIB, fA, hF, d5, hIC, fC, rc, mok, MD, ME, MF, d3, d4, d6, hBD, hIE, hKL, fD, fF, hBF, h91, hE⟩ := h
  have hBC := hIC.sb
  have hBE := hIE.sb
  have it := isTongue_ok hBC (by rw [e4]; exact hIC.tc_) k
  rw [e4, if_pos ⟨k0, k1⟩] at it
  refine ⟨MF, ?_, fF.ib hIE hBF, ?_, ?_, fun L xs q => fF.sc (hKL.sc (fD.sc q)), h91, hE⟩
  · unfold D_M_asked
    simp [-Option.bind_some, -Option.bind_none, gf, pf, rd, wt, ck, ln, lt, bz, nq, up_1, up_2, obs, obn, hBC.m_, it, d3, hBD.m_, d4, hBE.m_, d6]
  · rw [fF.2.2 4 (by decide) (by decide) (by decide) (by decide) (by decide) (by decide) (by decide) (by decide) (by decide) (by decide), hKL.2.2.1 4 (by decide) (by decide) (by decide) (by decide), fD.2.2 4 (by decide) (by decide) (by decide) (by decide) (by decide) (by decide) (by decide) (by decide) (by decide) (by decide)]
  · rw [fF.2.1 0 (by decide) (by decide) (by decide) (by decide) (by decide), hKL.2.1 0 (by decide) (by decide), fD.2.1 0 (by decide) (by decide) (by decide) (by decide) (by decide)]
theorem classOf_both {L : Nat} {xs : Int → Int} {M : Mem} (h : Inv L xs M) (k : Int) : Both L xs (D_T_classOf 0 k) (D_M_classOf 62 k) M := by
  have h0 := h
  obtain ⟨tc, hI, e7, e4, hC⟩ := h
  have hB := hI.sb
  have t0 := hI.tc_
  have fo := find_ok hB hI.sl e7 t0.2 k
  have it := isTongue_ok hB (by rw [e4]; exact t0) k
  rw [e4] at it
  by_cases qk : 0 ≤ k ∧ k < tc
  · rw [if_pos qk] at fo it
    have nt : ¬ 100 + 12 * k < 0 := by omega
    have e102 : 100 + 12 * k + 2 = 102 + 12 * k := by omega
    rcases rq_ok hI qk.1 qk.2 with ⟨MA, h⟩ | ⟨MA, MB, h⟩ | ⟨MA, MB, MC, c, h⟩
    · have fA : FR M MA := h.2.2.choose_spec.2.1
      have hBA := h.2.1
      have hIA := fA.ib hI hBA
      have a7 : MA.1 0 7 = tc := by rw [fA.2.1 0 (by decide) (by decide) (by decide) (by decide) (by decide)]; exact e7
      have a4 : MA.1 62 4 = tc := by rw [fA.2.2 4 (by decide) (by decide) (by decide) (by decide) (by decide) (by decide) (by decide) (by decide) (by decide) (by decide)]; exact e4
      obtain ⟨MD, d2, f1, f2, hBD⟩ := asked_A hIA a4 qk.1 qk.2 h
      have d1 := h.1
      refine ⟨-3, MA, MD, ?_, ?_, fA.sc hC, f2.inv hIA a7 a4 (fA.sc hC) hBD, hBA⟩
      · unfold D_T_classOf
        simp [-Option.bind_some, -Option.bind_none, gf, pf, rd, wt, ck, ln, lt, bz, nq, up_1, up_2, obs, obn, hB.t_, hB.r_, fo, nt, d1]
      · unfold D_M_classOf
        simp [-Option.bind_some, -Option.bind_none, gf, pf, rd, wt, ck, ln, lt, bz, nq, up_1, up_2, obs, obn, hBA.m_, d2]
    · obtain ⟨d1, hBA, d2, hIB, fA, hF, hrest⟩ := id h
      have a7 : MB.1 0 7 = tc := by rw [hF.2 0 (by decide), fA.2.1 0 (by decide) (by decide) (by decide) (by decide) (by decide)]; exact e7
      have a4 : MB.1 62 4 = tc := by rw [hF.2 62 (by decide), fA.2.2 4 (by decide) (by decide) (by decide) (by decide) (by decide) (by decide) (by decide) (by decide) (by decide) (by decide)]; exact e4
      have sc := hF.sc (fA.sc hC)
      obtain ⟨ME, d3, hIE, E4, E7, hsc⟩ := asked_B a4 qk.1 qk.2 h
      have hBB := hIB.sb
      refine ⟨-5, MB, ME, ?_, ?_, sc, ⟨tc, hIE, by rw [E7]; exact a7, by rw [E4]; exact a4, hsc _ _ sc⟩, hBB⟩
      · unfold D_T_classOf
        simp [-Option.bind_some, -Option.bind_none, gf, pf, rd, wt, ck, ln, lt, bz, nq, up_1, up_2, obs, obn, hB.t_, hB.r_, fo, nt, d1, hBA.t_, d2]
      · unfold D_M_classOf
        simp [-Option.bind_some, -Option.bind_none, gf, pf, rd, wt, ck, ln, lt, bz, nq, up_1, up_2, obs, obn, hBB.m_, d3]
    · obtain ⟨d1, hBA, d2, hIB, fA, hF, d5, hIC, fC, rc, mok, hrest⟩ := id h
      have a7 : MC.1 0 7 = tc := by rw [fC.2.1 0 (by decide) (by decide) (by decide) (by decide) (by decide), hF.2 0 (by decide), fA.2.1 0 (by decide) (by decide) (by decide) (by decide) (by decide)]; exact e7
      have a4 : MC.1 62 4 = tc := by rw [fC.2.2 4 (by decide) (by decide) (by decide) (by decide) (by decide) (by decide) (by decide) (by decide) (by decide) (by decide), hF.2 62 (by decide), fA.2.2 4 (by decide) (by decide) (by decide) (by decide) (by decide) (by decide) (by decide) (by decide) (by decide) (by decide)]; exact e4
      have sc := fC.sc (hF.sc (fA.sc hC))
      obtain ⟨MF, d3, hIF, E4, E7, hsc, e91, hE⟩ := asked_C a4 qk.1 qk.2 h
      have hBB := hIB.sb
      have hBC := hIC.sb
      have hBF := hIF.sb
      have ts := (hIB.sl.at qk.1 qk.2).2.1
      refine ⟨c, MC, MF, ?_, ?_, sc, ⟨tc, hIF, by rw [E7]; exact a7, by rw [E4]; exact a4, hsc _ _ sc⟩, hBC⟩
      · unfold D_T_classOf
        simp [-Option.bind_some, -Option.bind_none, gf, pf, rd, wt, ck, ln, lt, bz, nq, up_1, up_2, obs, obn, hB.t_, hB.r_, fo, nt, d1, hBA.t_, d2, hBB.t_, hBB.r_, ts, e102, d5]
      · unfold D_M_classOf
        simp [-Option.bind_some, -Option.bind_none, gf, pf, rd, wt, ck, ln, lt, bz, nq, up_1, up_2, obs, obn, hBC.m_, d3, hBF.m_, e91]
  · rw [if_neg qk] at fo it
    refine ⟨-2, M, M, ?_, ?_, hC, h0, hB⟩
    · unfold D_T_classOf
      simp [-Option.bind_some, -Option.bind_none, gf, pf, rd, wt, ck, ln, lt, bz, nq, up_1, up_2, obs, obn, hB.t_, fo]
    · unfold D_M_classOf D_M_asked
      simp [-Option.bind_some, -Option.bind_none, gf, pf, rd, wt, ck, ln, lt, bz, nq, up_1, up_2, obs, obn, hB.m_, it]
theorem has_both {L : Nat} {xs : Int → Int} {M : Mem} (h : Inv L xs M) (k : Int) : Both L xs (D_T_has 0 k) (D_M_has 62 k) M := by
  have h0 := h
  obtain ⟨tc, hI, e7, e4, hC⟩ := h
  have hB := hI.sb
  have t0 := hI.tc_
  have fo := find_ok hB hI.sl e7 t0.2 k
  have it := isTongue_ok hB (by rw [e4]; exact t0) k
  rw [e4] at it
  by_cases qk : 0 ≤ k ∧ k < tc
  · rw [if_pos qk] at fo it
    have nt : ¬ 100 + 12 * k < 0 := by omega
    have e102 : 100 + 12 * k + 2 = 102 + 12 * k := by omega
    rcases rq_ok hI qk.1 qk.2 with ⟨MA, h⟩ | ⟨MA, MB, h⟩ | ⟨MA, MB, MC, c, h⟩
    · have fA : FR M MA := h.2.2.choose_spec.2.1
      have hBA := h.2.1
      have hIA := fA.ib hI hBA
      have a7 : MA.1 0 7 = tc := by rw [fA.2.1 0 (by decide) (by decide) (by decide) (by decide) (by decide)]; exact e7
      have a4 : MA.1 62 4 = tc := by rw [fA.2.2 4 (by decide) (by decide) (by decide) (by decide) (by decide) (by decide) (by decide) (by decide) (by decide) (by decide)]; exact e4
      obtain ⟨MD, d2, f1, f2, hBD⟩ := asked_A hIA a4 qk.1 qk.2 h
      have d1 := h.1
      refine ⟨-3, MA, MD, ?_, ?_, fA.sc hC, f2.inv hIA a7 a4 (fA.sc hC) hBD, hBA⟩
      · unfold D_T_has
        simp [-Option.bind_some, -Option.bind_none, gf, pf, rd, wt, ck, ln, lt, bz, nq, up_1, up_2, obs, obn, hB.t_, hB.r_, fo, nt, d1]
      · unfold D_M_has
        simp [-Option.bind_some, -Option.bind_none, gf, pf, rd, wt, ck, ln, lt, bz, nq, up_1, up_2, obs, obn, hBA.m_, d2]
    · obtain ⟨d1, hBA, d2, hIB, fA, hF, hrest⟩ := id h
      have a7 : MB.1 0 7 = tc := by rw [hF.2 0 (by decide), fA.2.1 0 (by decide) (by decide) (by decide) (by decide) (by decide)]; exact e7
      have a4 : MB.1 62 4 = tc := by rw [hF.2 62 (by decide), fA.2.2 4 (by decide) (by decide) (by decide) (by decide) (by decide) (by decide) (by decide) (by decide) (by decide) (by decide)]; exact e4
      have sc := hF.sc (fA.sc hC)
      obtain ⟨ME, d3, hIE, E4, E7, hsc⟩ := asked_B a4 qk.1 qk.2 h
      have hBB := hIB.sb
      refine ⟨-5, MB, ME, ?_, ?_, sc, ⟨tc, hIE, by rw [E7]; exact a7, by rw [E4]; exact a4, hsc _ _ sc⟩, hBB⟩
      · unfold D_T_has
        simp [-Option.bind_some, -Option.bind_none, gf, pf, rd, wt, ck, ln, lt, bz, nq, up_1, up_2, obs, obn, hB.t_, hB.r_, fo, nt, d1, hBA.t_, d2]
      · unfold D_M_has
        simp [-Option.bind_some, -Option.bind_none, gf, pf, rd, wt, ck, ln, lt, bz, nq, up_1, up_2, obs, obn, hBB.m_, d3]
    · obtain ⟨d1, hBA, d2, hIB, fA, hF, d5, hIC, fC, rc, mok, hrest⟩ := id h
      have a7 : MC.1 0 7 = tc := by rw [fC.2.1 0 (by decide) (by decide) (by decide) (by decide) (by decide), hF.2 0 (by decide), fA.2.1 0 (by decide) (by decide) (by decide) (by decide) (by decide)]; exact e7
      have a4 : MC.1 62 4 = tc := by rw [fC.2.2 4 (by decide) (by decide) (by decide) (by decide) (by decide) (by decide) (by decide) (by decide) (by decide) (by decide), hF.2 62 (by decide), fA.2.2 4 (by decide) (by decide) (by decide) (by decide) (by decide) (by decide) (by decide) (by decide) (by decide) (by decide)]; exact e4
      have sc := fC.sc (hF.sc (fA.sc hC))
      obtain ⟨MF, d3, hIF, E4, E7, hsc, e91, hE⟩ := asked_C a4 qk.1 qk.2 h
      have hBB := hIB.sb
      have hBC := hIC.sb
      have hBF := hIF.sb
      have e10 : MC.1 (102 + 12 * k) 10 = MB.1 (102 + 12 * k) 10 := by rw [fC.2.1 _ (by omega) (by omega) (by omega) (by omega) (by omega)]
      have k6 : 0 ≤ MC.1 (102 + 12 * k) 10 ∧ MC.1 (102 + 12 * k) 10 ≤ 6 := mok.2.2.1.1
      have c1 : c < MC.1 (102 + 12 * k) 10 := by omega
      have ff := mok.2.2.2
      have ba := hIF.2.2.2.2.2.2.2.2.1 (96 + c) (by omega) (by omega)
      have fi : bt (MC.1 (102 + 12 * k) 11) c ↔ MF.1 75 (96 + c) = 1 := (hE.2.1 c rc.1 c1).2.2.2.2
      have bg := bt_get (z := MC.1 (102 + 12 * k) 11) (i := c) ff.1 (by omega) rc.1 (by omega)
      have w96 : wr (96 + c) = 96 + c := wr_eq (by omega) (by omega)
      have i0 : 0 ≤ 96 + c := by omega
      have i1 : 96 + c < 114 := by omega
      have ts := (hIB.sl.at qk.1 qk.2).2.1
      have msC := mok.1
      have fb := finalBit_ok (c := c) msC
      refine ⟨iand (ishr (MC.1 (102 + 12 * k) 11) c) 1, MC, MF, ?_, ?_, sc, ⟨tc, hIF, by rw [E7]; exact a7, by rw [E4]; exact a4, hsc _ _ sc⟩, hBC⟩
      · unfold D_T_has
        simp [-Option.bind_some, -Option.bind_none, gf, pf, rd, wt, ck, ln, lt, bz, nq, up_1, up_2, obs, obn, hB.t_, hB.r_, fo, nt, d1, hBA.t_, d2, hBB.t_, hBB.r_, ts, e102, d5, msC, fb]
      · unfold D_M_has
        rcases bg with ⟨b1, b2⟩ | ⟨b1, b2⟩
        · have := fi.mp b1
          simp [-Option.bind_some, -Option.bind_none, gf, pf, rd, wt, ck, ln, lt, bz, nq, up_1, up_2, obs, obn, hBC.m_, d3, hBF.m_, e91, w96, i0, i1, this, b2]
        · have : MF.1 75 (96 + c) = 0 := by
            rcases ba with w | w
            · exact w
            · exact absurd (fi.mpr w) b1
          simp [-Option.bind_some, -Option.bind_none, gf, pf, rd, wt, ck, ln, lt, bz, nq, up_1, up_2, obs, obn, hBC.m_, d3, hBF.m_, e91, w96, i0, i1, this, b2]
  · rw [if_neg qk] at fo it
    refine ⟨-2, M, M, ?_, ?_, hC, h0, hB⟩
    · unfold D_T_has
      simp [-Option.bind_some, -Option.bind_none, gf, pf, rd, wt, ck, ln, lt, bz, nq, up_1, up_2, obs, obn, hB.t_, fo]
    · unfold D_M_has D_M_asked
      simp [-Option.bind_some, -Option.bind_none, gf, pf, rd, wt, ck, ln, lt, bz, nq, up_1, up_2, obs, obn, hB.m_, it]
