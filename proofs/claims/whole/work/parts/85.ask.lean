/-! calls: the least machine -/
/-- both sides have looked at tongue k -/
def ASK (L : Nat) (xs : Int → Int) (M : Mem) (tc k : Int) (M1 M2 : Mem) (r r' : Int) : Prop := D_T_isLarge 0 (100 + 12 * k) M = some (r, M1) ∧ D_M_load 62 k 16 M1 = some (r', M2) ∧ IB M1 tc ∧ FQ M M1 ∧ SC L xs M1 ∧ KL 16 M1 M2 ∧ IB M2 tc ∧ Inv L xs M2 ∧ TS M1 (100 + 12 * k) ∧ MS M1 (102 + 12 * k) ∧ ((r = 1 ∧ r' = -5) ∨ (r = 0 ∧ r' = 0 ∧ MOK M1 (102 + 12 * k) ∧ Eqm (M1.1 1 1) (rkC M1) (mch M1 (102 + 12 * k)) (mchR M2 16) ∧ MW (M1.1 1 1) (rkC M1) (mchR M2 16) ∧ CV M1 (102 + 12 * k)))
theorem TG.cv {M : Mem} {k : Int} (h : TG M k) (h7 : M.1 (100 + 12 * k) 7 = 0) (h12 : M.1 (102 + 12 * k) 12 = 0) : CV M (102 + 12 * k) := by
  rcases h with ⟨-, -, -, -, -, -, -, -, w⟩ | ⟨-, -, -, -, -, w, -⟩
  · rcases w with w | ⟨-, w⟩
    · omega
    · rcases w with w | w
      · have := w.1; omega
      · exact w.2.2.1
  · exact w
theorem ask_ok {L : Nat} {xs : Int → Int} {M : Mem} {tc k : Int} (hI : IB M tc) (e7 : M.1 0 7 = tc) (e4 : M.1 62 4 = tc) (hC : SC L xs M) (k0 : 0 ≤ k) (k1 : k < tc) : ∃ M1 M2 r r', ASK L xs M tc k M1 M2 r r' := by
  obtain ⟨r, M1, e1, hI1, hF, er, r01, h7, ho, hs⟩ := isLarge_ok hI k0 k1
  obtain ⟨r', M2, e2, hI2, hK, hres⟩ := load_k_ok (m := 16) hI1 k0 k1 h7 (Or.inl rfl)
  have sc1 := hF.sc hC
  have at1 := hI1.sl.at k0 k1
  refine ⟨M1, M2, r, r', e1, e2, hI1, hF, sc1, hK, hI2, ⟨tc, hI2, ?_, ?_, hK.sc sc1⟩, at1.2.1, at1.2.2, ?_⟩
  · rw [hK.2.1 0 (by decide) (by decide), hF.2 0 (by decide)]; exact e7
  · rw [hK.2.2.1 4 (by decide) (by decide) (by decide) (by decide), hF.2 62 (by decide)]; exact e4
  · rcases hres with ⟨w1, w2⟩ | ⟨w1, w2, w3, w4, w5⟩
    · left
      exact ⟨by rw [er]; exact w2, w1⟩
    · right
      exact ⟨by rw [er]; exact w2, w1, w3, w4, w5, (hI1.2.2.2.2.2.2.2.2.2.2 k k0 k1).cv h7 w2⟩
theorem ASK.sb2 {L : Nat} {xs : Int → Int} {M : Mem} {tc k : Int} {M1 M2 : Mem} {r r' : Int} (h : ASK L xs M tc k M1 M2 r r') : SB M2 := h.2.2.2.2.2.2.1.sb
theorem ASK.sb1 {L : Nat} {xs : Int → Int} {M : Mem} {tc k : Int} {M1 M2 : Mem} {r r' : Int} (h : ASK L xs M tc k M1 M2 r r') : SB M1 := h.2.2.1.sb
theorem hasClass_ok {M : Mem} {p c : Int} (hM : M.2.1 p = (1, 14)) : D_Machine_hasClass p c M = some (if 0 ≤ c ∧ c < M.1 p 10 then 1 else 0, M) := by
  unfold D_Machine_hasClass
  by_cases q0 : c < 0
  · rw [if_neg (show ¬ (0 ≤ c ∧ c < M.1 p 10) by omega)]
    simp [-Option.bind_some, -Option.bind_none, gf, pf, rd, wt, ck, ln, lt, bz, nq, up_1, up_2, obs, obn, q0]
  · by_cases q1 : M.1 p 10 ≤ c
    · rw [if_neg (show ¬ (0 ≤ c ∧ c < M.1 p 10) by omega)]
      simp [-Option.bind_some, -Option.bind_none, gf, pf, rd, wt, ck, ln, lt, bz, nq, up_1, up_2, obs, obn, q0, hM, q1]
    · rw [if_pos (show 0 ≤ c ∧ c < M.1 p 10 by omega)]
      simp [-Option.bind_some, -Option.bind_none, gf, pf, rd, wt, ck, ln, lt, bz, nq, up_1, up_2, obs, obn, q0, hM, q1]
theorem step_raw {M : Mem} {p s x y c : Int} (hB : SB M) (hg : SgOk M) (hM : MS M p) (c6 : c ≤ 6) (hs : 0 ≤ s ∧ s < 6) (hx : 1 ≤ rkC M s → 0 ≤ x ∧ x < c) (hy : 2 ≤ rkC M s → 0 ≤ y ∧ y < c) : D_Machine_step p s x y M = some (mT (mch M p) s (if 1 ≤ rkC M s then x else 0) (if 2 ≤ rkC M s then y else 0), M) := by
  have ce := cell_ok hB.s_ hg.2.1 (s := s) (x := x) (y := y) (w := 6) hs (by decide) (fun q => by have := hx q; omega) (fun q => by have := hy q; omega)
  have cr := cel_r (r := rkC M s) (s := s) (k1 := x) (k2 := y) hs (fun q => by have := hx (by omega); omega) (fun q => by have := hy (by omega); omega)
  have e : cel (rkC M s) s (if 1 ≤ rkC M s then x else 0) (if 2 ≤ rkC M s then y else 0) 6 = cel (rkC M s) s x y 6 := cel_c (fun q => if_pos q) (fun q => if_pos q) 6
  unfold D_Machine_step
  show _ = some (M.1 (p + 1) (cel (rkC M s) s (if 1 ≤ rkC M s then x else 0) (if 2 ≤ rkC M s then y else 0) 6), M)
  rw [e]
  simp [-Option.bind_some, -Option.bind_none, gf, pf, rd, wt, ck, ln, lt, bz, nq, up_1, up_2, obs, obn, hM, hB.s_, ce, cr]
theorem classes_both {L : Nat} {xs : Int → Int} {M : Mem} (h : Inv L xs M) (k : Int) : Both L xs (D_T_classes 0 k) (D_M_classes 62 k) M := by
  have h0 := h
  obtain ⟨tc, hI, e7, e4, hC⟩ := h
  have hB := hI.sb
  have t0 := hI.tc_
  have fo := find_ok hB hI.sl e7 t0.2 k
  have it := isTongue_ok hB (by rw [e4]; exact t0) k
  rw [e4] at it
  by_cases qk : 0 ≤ k ∧ k < tc
  · rw [if_pos qk] at fo it
    have nt : ¬ 100 + 12 * k < 0 := by omega
    obtain ⟨M1, M2, r, r', hA⟩ := ask_ok hI e7 e4 hC qk.1 qk.2
    have hB1 := hA.sb1
    have hB2 := hA.sb2
    obtain ⟨d1, d2, hI1, hF, sc1, hK, hI2, hInv, ts, ms, hres⟩ := hA
    have it1 := isTongue_ok hB1 (by rw [hF.2 62 (by decide), e4]; exact t0) k
    rw [hF.2 62 (by decide), e4, if_pos qk] at it1
    have e102 : 100 + 12 * k + 2 = 102 + 12 * k := by clear ts ms; omega
    rcases hres with ⟨u, v⟩ | ⟨u, v, hM, hE, hW, -⟩
    · subst u; subst v
      refine ⟨-5, M1, M2, ?_, ?_, sc1, hInv, hB1⟩
      · unfold D_T_classes
        simp [-Option.bind_some, -Option.bind_none, gf, pf, rd, wt, ck, ln, lt, bz, nq, up_1, up_2, obs, obn, hB.t_, fo, nt, d1]
      · unfold D_M_classes
        simp [-Option.bind_some, -Option.bind_none, gf, pf, rd, wt, ck, ln, lt, bz, nq, up_1, up_2, obs, obn, hB1.m_, it1, d2]
    · subst u; subst v
      refine ⟨M1.1 (102 + 12 * k) 10, M1, M2, ?_, ?_, sc1, hInv, hB1⟩
      · unfold D_T_classes
        simp [-Option.bind_some, -Option.bind_none, gf, pf, rd, wt, ck, ln, lt, bz, nq, up_1, up_2, obs, obn, hB.t_, fo, nt, d1, ts, e102, ms]
      · have e : M2.1 73 16 = M1.1 (102 + 12 * k) 10 := hE.1.symm
        unfold D_M_classes
        simp [-Option.bind_some, -Option.bind_none, gf, pf, rd, wt, ck, ln, lt, bz, nq, up_1, up_2, obs, obn, hB1.m_, it1, d2, hB2.m_, e]
  · rw [if_neg qk] at fo it
    refine ⟨-2, M, M, ?_, ?_, hC, h0, hB⟩
    · unfold D_T_classes
      simp [-Option.bind_some, -Option.bind_none, gf, pf, rd, wt, ck, ln, lt, bz, nq, up_1, up_2, obs, obn, hB.t_, fo]
    · unfold D_M_classes
      simp [-Option.bind_some, -Option.bind_none, gf, pf, rd, wt, ck, ln, lt, bz, nq, up_1, up_2, obs, obn, hB.m_, it]
theorem isLast_both {L : Nat} {xs : Int → Int} {M : Mem} (h : Inv L xs M) (k c : Int) : Both L xs (D_T_isLast 0 k c) (D_M_isLast 62 k c) M := by
  have h0 := h
  obtain ⟨tc, hI, e7, e4, hC⟩ := h
  have hB := hI.sb
  have t0 := hI.tc_
  have fo := find_ok hB hI.sl e7 t0.2 k
  have it := isTongue_ok hB (by rw [e4]; exact t0) k
  rw [e4] at it
  by_cases qk : 0 ≤ k ∧ k < tc
  · rw [if_pos qk] at fo it
    have nt : ¬ 100 + 12 * k < 0 := by omega
    obtain ⟨M1, M2, r, r', hA⟩ := ask_ok hI e7 e4 hC qk.1 qk.2
    have hB1 := hA.sb1
    have hB2 := hA.sb2
    obtain ⟨d1, d2, hI1, hF, sc1, hK, hI2, hInv, ts, ms, hres⟩ := hA
    have it1 := isTongue_ok hB1 (by rw [hF.2 62 (by decide), e4]; exact t0) k
    rw [hF.2 62 (by decide), e4, if_pos qk] at it1
    have e102 : 100 + 12 * k + 2 = 102 + 12 * k := by clear ts ms; omega
    rcases hres with ⟨u, v⟩ | ⟨u, v, hM, hE, hW, -⟩
    · subst u; subst v
      refine ⟨-5, M1, M2, ?_, ?_, sc1, hInv, hB1⟩
      · unfold D_T_isLast
        simp [-Option.bind_some, -Option.bind_none, gf, pf, rd, wt, ck, ln, lt, bz, nq, up_1, up_2, obs, obn, hB.t_, fo, nt, d1]
      · unfold D_M_isLast
        simp [-Option.bind_some, -Option.bind_none, gf, pf, rd, wt, ck, ln, lt, bz, nq, up_1, up_2, obs, obn, hB1.m_, it1, d2]
    · subst u; subst v
      have e : M2.1 73 16 = M1.1 (102 + 12 * k) 10 := hE.1.symm
      have k6 : 0 ≤ M1.1 (102 + 12 * k) 10 ∧ M1.1 (102 + 12 * k) 10 ≤ 6 := hM.2.2.1.1
      have ff := hM.2.2.2
      have hc := hasClass_ok (c := c) ms.1
      have fb := finalBit_ok (c := c) ms
      have ew : wr (M1.1 (102 + 12 * k) 10 - 1) = M1.1 (102 + 12 * k) 10 - 1 := wr_eq (by clear ts ms; omega) (by clear ts ms; omega)
      have ic := in_ok c 0 (M1.1 (102 + 12 * k) 10 - 1) M2
      by_cases qc : 0 ≤ c ∧ c < M1.1 (102 + 12 * k) 10
      · rw [if_pos qc] at hc
        rw [if_pos (show 0 ≤ c ∧ c ≤ M1.1 (102 + 12 * k) 10 - 1 by clear ts ms; omega)] at ic
        have w96 : wr (96 + c) = 96 + c := wr_eq (by clear ts ms; omega) (by clear ts ms; omega)
        have i0 : 0 ≤ 96 + c := by clear ts ms; omega
        have i1 : 96 + c < 114 := by clear ts ms; omega
        have ba := hI2.2.2.2.2.2.2.2.2.1 (96 + c) i0 i1
        have fi : bt (M1.1 (102 + 12 * k) 11) c ↔ M2.1 75 (96 + c) = 1 := (hE.2.1 c qc.1 qc.2).2.2.2.2
        have bg := bt_get (z := M1.1 (102 + 12 * k) 11) (i := c) ff.1 (by clear ts ms; omega) qc.1 (by clear ts ms; omega)
        refine ⟨iand (ishr (M1.1 (102 + 12 * k) 11) c) 1, M1, M2, ?_, ?_, sc1, hInv, hB1⟩
        · unfold D_T_isLast
          simp [-Option.bind_some, -Option.bind_none, gf, pf, rd, wt, ck, ln, lt, bz, nq, up_1, up_2, obs, obn, hB.t_, fo, nt, d1, ts, e102, ms, hc, fb]
        · unfold D_M_isLast
          rcases bg with ⟨b1, b2⟩ | ⟨b1, b2⟩
          · have := fi.mp b1
            simp [-Option.bind_some, -Option.bind_none, gf, pf, rd, wt, ck, ln, lt, bz, nq, up_1, up_2, obs, obn, hB1.m_, it1, d2, hB2.m_, e, ew, ic, w96, i0, i1, this, b2]
          · have : M2.1 75 (96 + c) = 0 := by
              rcases ba with w | w
              · exact w
              · exact absurd (fi.mpr w) b1
            simp [-Option.bind_some, -Option.bind_none, gf, pf, rd, wt, ck, ln, lt, bz, nq, up_1, up_2, obs, obn, hB1.m_, it1, d2, hB2.m_, e, ew, ic, w96, i0, i1, this, b2]
      · rw [if_neg qc] at hc
        rw [if_neg (show ¬ (0 ≤ c ∧ c ≤ M1.1 (102 + 12 * k) 10 - 1) by clear ts ms; omega)] at ic
        refine ⟨-2, M1, M2, ?_, ?_, sc1, hInv, hB1⟩
        · unfold D_T_isLast
          simp [-Option.bind_some, -Option.bind_none, gf, pf, rd, wt, ck, ln, lt, bz, nq, up_1, up_2, obs, obn, hB.t_, fo, nt, d1, ts, e102, ms, hc]
        · unfold D_M_isLast
          simp [-Option.bind_some, -Option.bind_none, gf, pf, rd, wt, ck, ln, lt, bz, nq, up_1, up_2, obs, obn, hB1.m_, it1, d2, hB2.m_, e, ew, ic]
  · rw [if_neg qk] at fo it
    refine ⟨-2, M, M, ?_, ?_, hC, h0, hB⟩
    · unfold D_T_isLast
      simp [-Option.bind_some, -Option.bind_none, gf, pf, rd, wt, ck, ln, lt, bz, nq, up_1, up_2, obs, obn, hB.t_, fo]
    · unfold D_M_isLast
      simp [-Option.bind_some, -Option.bind_none, gf, pf, rd, wt, ck, ln, lt, bz, nq, up_1, up_2, obs, obn, hB.m_, it]
theorem size_both {L : Nat} {xs : Int → Int} {M : Mem} (h : Inv L xs M) (k c : Int) : Both L xs (D_T_size 0 k c) (D_M_size 62 k c) M := by
  have h0 := h
  obtain ⟨tc, hI, e7, e4, hC⟩ := h
  have hB := hI.sb
  have t0 := hI.tc_
  have fo := find_ok hB hI.sl e7 t0.2 k
  have it := isTongue_ok hB (by rw [e4]; exact t0) k
  rw [e4] at it
  by_cases qk : 0 ≤ k ∧ k < tc
  · rw [if_pos qk] at fo it
    have nt : ¬ 100 + 12 * k < 0 := by omega
    obtain ⟨M1, M2, r, r', hA⟩ := ask_ok hI e7 e4 hC qk.1 qk.2
    have hB1 := hA.sb1
    have hB2 := hA.sb2
    obtain ⟨d1, d2, hI1, hF, sc1, hK, hI2, hInv, ts, ms, hres⟩ := hA
    have it1 := isTongue_ok hB1 (by rw [hF.2 62 (by decide), e4]; exact t0) k
    rw [hF.2 62 (by decide), e4, if_pos qk] at it1
    have e102 : 100 + 12 * k + 2 = 102 + 12 * k := by clear ts ms; omega
    rcases hres with ⟨u, v⟩ | ⟨u, v, hM, hE, hW, -⟩
    · subst u; subst v
      refine ⟨-5, M1, M2, ?_, ?_, sc1, hInv, hB1⟩
      · unfold D_T_size
        simp [-Option.bind_some, -Option.bind_none, gf, pf, rd, wt, ck, ln, lt, bz, nq, up_1, up_2, obs, obn, hB.t_, fo, nt, d1]
      · unfold D_M_size
        simp [-Option.bind_some, -Option.bind_none, gf, pf, rd, wt, ck, ln, lt, bz, nq, up_1, up_2, obs, obn, hB1.m_, it1, d2]
    · subst u; subst v
      have e : M2.1 73 16 = M1.1 (102 + 12 * k) 10 := hE.1.symm
      have k6 : 0 ≤ M1.1 (102 + 12 * k) 10 ∧ M1.1 (102 + 12 * k) 10 ≤ 6 := hM.2.2.1.1
      have hc := hasClass_ok (c := c) ms.1
      have ew : wr (M1.1 (102 + 12 * k) 10 - 1) = M1.1 (102 + 12 * k) 10 - 1 := wr_eq (by clear ts ms; omega) (by clear ts ms; omega)
      have ic := in_ok c 0 (M1.1 (102 + 12 * k) 10 - 1) M2
      by_cases qc : 0 ≤ c ∧ c < M1.1 (102 + 12 * k) 10
      · rw [if_pos qc] at hc
        rw [if_pos (show 0 ≤ c ∧ c ≤ M1.1 (102 + 12 * k) 10 - 1 by clear ts ms; omega)] at ic
        have w96 : wr (96 + c) = 96 + c := wr_eq (by clear ts ms; omega) (by clear ts ms; omega)
        have i0 : 0 ≤ 96 + c := by clear ts ms; omega
        have i1 : 96 + c < 114 := by clear ts ms; omega
        have c6 : c < 6 := by clear ts ms; omega
        have si : M1.1 (102 + 12 * k + 5) c = M2.1 76 (96 + c) := (hE.2.1 c qc.1 qc.2).1
        refine ⟨M1.1 (102 + 12 * k + 5) c, M1, M2, ?_, ?_, sc1, hInv, hB1⟩
        · unfold D_T_size
          simp [-Option.bind_some, -Option.bind_none, gf, pf, rd, wt, ck, ln, lt, bz, nq, up_1, up_2, obs, obn, hB.t_, fo, nt, d1, ts, e102, ms, hc, qc, c6]
        · unfold D_M_size
          simp [-Option.bind_some, -Option.bind_none, gf, pf, rd, wt, ck, ln, lt, bz, nq, up_1, up_2, obs, obn, hB1.m_, it1, d2, hB2.m_, e, ew, ic, w96, i0, i1, si]
      · rw [if_neg qc] at hc
        rw [if_neg (show ¬ (0 ≤ c ∧ c ≤ M1.1 (102 + 12 * k) 10 - 1) by clear ts ms; omega)] at ic
        refine ⟨-2, M1, M2, ?_, ?_, sc1, hInv, hB1⟩
        · unfold D_T_size
          simp [-Option.bind_some, -Option.bind_none, gf, pf, rd, wt, ck, ln, lt, bz, nq, up_1, up_2, obs, obn, hB.t_, fo, nt, d1, ts, e102, ms, hc]
        · unfold D_M_size
          simp [-Option.bind_some, -Option.bind_none, gf, pf, rd, wt, ck, ln, lt, bz, nq, up_1, up_2, obs, obn, hB1.m_, it1, d2, hB2.m_, e, ew, ic]
  · rw [if_neg qk] at fo it
    refine ⟨-2, M, M, ?_, ?_, hC, h0, hB⟩
    · unfold D_T_size
      simp [-Option.bind_some, -Option.bind_none, gf, pf, rd, wt, ck, ln, lt, bz, nq, up_1, up_2, obs, obn, hB.t_, fo]
    · unfold D_M_size
      simp [-Option.bind_some, -Option.bind_none, gf, pf, rd, wt, ck, ln, lt, bz, nq, up_1, up_2, obs, obn, hB.m_, it]
theorem go_both {L : Nat} {xs : Int → Int} {M : Mem} (h : Inv L xs M) (k s x y : Int) : Both L xs (D_T_go 0 k s x y) (D_M_go 62 k s x y) M := by
  have h0 := h
  obtain ⟨tc, hI, e7, e4, hC⟩ := h
  have hB := hI.sb
  have hg := hI.sg
  have n0 := hg.1.1
  have n6 := hg.1.2.1
  have t0 := hI.tc_
  have fo := find_ok hB hI.sl e7 t0.2 k
  have it := isTongue_ok hB (by rw [e4]; exact t0) k
  rw [e4] at it
  have kn := knows_ok hB.s_ s
  have is := isSign_ok hB (by rw [hg.2.1]; exact ⟨n0, n6⟩) s
  rw [hg.2.1] at is
  by_cases qk : 0 ≤ k ∧ k < tc
  · rw [if_pos qk] at fo it
    have nt : ¬ 100 + 12 * k < 0 := by omega
    by_cases qs : 0 ≤ s ∧ s < M.1 1 1
    · rw [if_pos qs] at kn is
      obtain ⟨M1, M2, r, r', hA⟩ := ask_ok hI e7 e4 hC qk.1 qk.2
      have hB1 := hA.sb1
      have hB2 := hA.sb2
      obtain ⟨d1, d2, hI1, hF, sc1, hK, hI2, hInv, ts, ms, hres⟩ := hA
      have it1 := isTongue_ok hB1 (by rw [hF.2 62 (by decide), e4]; exact t0) k
      rw [hF.2 62 (by decide), e4, if_pos qk] at it1
      have is1 := isSign_ok hB1 (by rw [hF.2 62 (by decide), hg.2.1]; exact ⟨n0, n6⟩) s
      rw [hF.2 62 (by decide), hg.2.1, if_pos qs] at is1
      have e102 : 100 + 12 * k + 2 = 102 + 12 * k := by clear ts ms; omega
      rcases hres with ⟨u, v⟩ | ⟨u, v, hM, hE, hW, -⟩
      · subst u; subst v
        refine ⟨-5, M1, M2, ?_, ?_, sc1, hInv, hB1⟩
        · unfold D_T_go
          simp [-Option.bind_some, -Option.bind_none, gf, pf, rd, wt, ck, ln, lt, bz, nq, up_1, up_2, obs, obn, hB.t_, hB.s_, fo, nt, kn, d1]
        · unfold D_M_go
          simp [-Option.bind_some, -Option.bind_none, gf, pf, rd, wt, ck, ln, lt, bz, nq, up_1, up_2, obs, obn, hB1.m_, it1, is1, d2]
      · subst u; subst v
        have s0 := qs.1
        have s6 : s < 6 := by clear ts ms; omega
        have e : M2.1 73 16 = M1.1 (102 + 12 * k) 10 := hE.1.symm
        have k6 : 0 ≤ M1.1 (102 + 12 * k) 10 ∧ M1.1 (102 + 12 * k) 10 ≤ 6 := hM.2.2.1.1
        have hg1 := hI1.sg
        have rko := rankOf_ok hB1.s_ hg1.1.2.1 s
        have rg := hg1.1.rk s
        have n1 : M1.1 1 1 = M.1 1 1 := by rw [hF.2 1 (by decide)]
        have r63 : M2.1 63 s = rkC M1 s := by rw [hK.2.1 63 (by decide) (by decide)]; exact hg1.2.2 s s0 (by rw [n1]; exact qs.2)
        have hx := hasClass_ok (c := x) ms.1
        have hy := hasClass_ok (c := y) ms.1
        have ew : wr (M1.1 (102 + 12 * k) 10 - 1) = M1.1 (102 + 12 * k) 10 - 1 := wr_eq (by clear ts ms; omega) (by clear ts ms; omega)
        have ix := in_ok x 0 (M1.1 (102 + 12 * k) 10 - 1) M2
        have iy := in_ok y 0 (M1.1 (102 + 12 * k) 10 - 1) M2
        by_cases bx : 1 ≤ rkC M1 s → 0 ≤ x ∧ x < M1.1 (102 + 12 * k) 10
        · by_cases by' : 2 ≤ rkC M1 s → 0 ≤ y ∧ y < M1.1 (102 + 12 * k) 10
          · have so := step_raw (x := x) (y := y) hB1 hg1.1 ms k6.2 ⟨s0, s6⟩ bx by'
            have hAr : Arg (rkC M1) (M1.1 (102 + 12 * k) 10) s (if 1 ≤ rkC M1 s then x else 0) (if 2 ≤ rkC M1 s then y else 0) := argx (fun q => by rw [if_pos q]; exact bx q) (fun q => by rw [if_pos q]; exact by' q) (fun q => if_neg q) (fun q => if_neg q)
            have b6 := hAr.b6 k6.2
            have so2 := rstep_ok (M := M2) (m := 16) (s := s) (x := if 1 ≤ rkC M1 s then x else 0) (y := if 2 ≤ rkC M1 s then y else 0) hB2 (by decide) ⟨s0, s6⟩ b6.1 b6.2
            have eq := hE.2.2 s _ _ s0 (by rw [n1]; exact qs.2) hAr
            rw [← eq] at so2
            have f1 : (if rkC M1 s ≤ 0 then some 0 else some x) = some (if 1 ≤ rkC M1 s then x else 0) := by
              by_cases w : 1 ≤ rkC M1 s
              · rw [if_neg (show ¬ rkC M1 s ≤ 0 by clear ts ms; omega), if_pos w]
              · rw [if_pos (show rkC M1 s ≤ 0 by clear ts ms; omega), if_neg w]
            have f2 : (if rkC M1 s ≤ 1 then some 0 else some y) = some (if 2 ≤ rkC M1 s then y else 0) := by
              by_cases w : 2 ≤ rkC M1 s
              · rw [if_neg (show ¬ rkC M1 s ≤ 1 by clear ts ms; omega), if_pos w]
              · rw [if_pos (show rkC M1 s ≤ 1 by clear ts ms; omega), if_neg w]
            generalize mT (mch M1 (102 + 12 * k)) s (if 1 ≤ rkC M1 s then x else 0) (if 2 ≤ rkC M1 s then y else 0) = v at *
            refine ⟨v, M1, M2, ?_, ?_, sc1, hInv, hB1⟩
            · unfold D_T_go
              by_cases w1 : rkC M1 s ≤ 0
              · have w2 : rkC M1 s ≤ 1 := by clear ts ms; omega
                simp [-Option.bind_some, -Option.bind_none, gf, pf, rd, wt, ck, ln, lt, bz, nq, up_1, up_2, obs, obn, hB.t_, hB.s_, fo, nt, kn, d1, hB1.t_, hB1.s_, rko, w1, w2, ts, e102, ms, so]
              · rw [if_pos (bx (by clear ts ms; omega))] at hx
                by_cases w2 : rkC M1 s ≤ 1
                · simp [-Option.bind_some, -Option.bind_none, gf, pf, rd, wt, ck, ln, lt, bz, nq, up_1, up_2, obs, obn, hB.t_, hB.s_, fo, nt, kn, d1, hB1.t_, hB1.s_, rko, w1, w2, ts, e102, ms, hx, so]
                · rw [if_pos (by' (by clear ts ms; omega))] at hy
                  simp [-Option.bind_some, -Option.bind_none, gf, pf, rd, wt, ck, ln, lt, bz, nq, up_1, up_2, obs, obn, hB.t_, hB.s_, fo, nt, kn, d1, hB1.t_, hB1.s_, rko, w1, w2, ts, e102, ms, hx, hy, so]
            · unfold D_M_go
              by_cases w1 : rkC M1 s ≤ 0
              · have w2 : rkC M1 s ≤ 1 := by clear ts ms; omega
                rw [if_neg (show ¬ 1 ≤ rkC M1 s by clear ts ms; omega), if_neg (show ¬ 2 ≤ rkC M1 s by clear ts ms; omega)] at so2
                simp [-Option.bind_some, -Option.bind_none, gf, pf, rd, wt, ck, ln, lt, bz, nq, up_1, up_2, obs, obn, hB1.m_, it1, is1, d2, hB2.m_, e, ew, s0, s6, r63, w1, w2, so2]
              · have b1 := bx (by clear ts ms; omega)
                rw [if_pos (show 0 ≤ x ∧ x ≤ M1.1 (102 + 12 * k) 10 - 1 by clear ts ms; omega)] at ix
                rw [if_pos (show 1 ≤ rkC M1 s by clear ts ms; omega)] at so2
                by_cases w2 : rkC M1 s ≤ 1
                · rw [if_neg (show ¬ 2 ≤ rkC M1 s by clear ts ms; omega)] at so2
                  simp [-Option.bind_some, -Option.bind_none, gf, pf, rd, wt, ck, ln, lt, bz, nq, up_1, up_2, obs, obn, hB1.m_, it1, is1, d2, hB2.m_, e, ew, s0, s6, r63, w1, w2, ix, so2]
                · have b2 := by' (by clear ts ms; omega)
                  rw [if_pos (show 0 ≤ y ∧ y ≤ M1.1 (102 + 12 * k) 10 - 1 by clear ts ms; omega)] at iy
                  rw [if_pos (show 2 ≤ rkC M1 s by clear ts ms; omega)] at so2
                  simp [-Option.bind_some, -Option.bind_none, gf, pf, rd, wt, ck, ln, lt, bz, nq, up_1, up_2, obs, obn, hB1.m_, it1, is1, d2, hB2.m_, e, ew, s0, s6, r63, w1, w2, ix, iy, so2]
          · have w2' : 2 ≤ rkC M1 s := Classical.byContradiction fun w => by' (fun q => absurd q w)
            have ny : ¬ (0 ≤ y ∧ y < M1.1 (102 + 12 * k) 10) := fun w => by' (fun _ => w)
            have b1 := bx (by clear ts ms; omega)
            have w1 : ¬ rkC M1 s ≤ 0 := by clear ts ms; omega
            have w2 : ¬ rkC M1 s ≤ 1 := by clear ts ms; omega
            rw [if_pos b1] at hx
            rw [if_neg ny] at hy
            rw [if_pos (show 0 ≤ x ∧ x ≤ M1.1 (102 + 12 * k) 10 - 1 by clear ts ms; omega)] at ix
            rw [if_neg (show ¬ (0 ≤ y ∧ y ≤ M1.1 (102 + 12 * k) 10 - 1) by clear ts ms; omega)] at iy
            refine ⟨-2, M1, M2, ?_, ?_, sc1, hInv, hB1⟩
            · unfold D_T_go
              simp [-Option.bind_some, -Option.bind_none, gf, pf, rd, wt, ck, ln, lt, bz, nq, up_1, up_2, obs, obn, hB.t_, hB.s_, fo, nt, kn, d1, hB1.t_, hB1.s_, rko, w1, w2, ts, e102, ms, hx, hy]
            · unfold D_M_go
              simp [-Option.bind_some, -Option.bind_none, gf, pf, rd, wt, ck, ln, lt, bz, nq, up_1, up_2, obs, obn, hB1.m_, it1, is1, d2, hB2.m_, e, ew, s0, s6, r63, w1, w2, ix, iy]
        · have w1' : 1 ≤ rkC M1 s := Classical.byContradiction fun w => bx (fun q => absurd q w)
          have nx : ¬ (0 ≤ x ∧ x < M1.1 (102 + 12 * k) 10) := fun w => bx (fun _ => w)
          have w1 : ¬ rkC M1 s ≤ 0 := by clear ts ms; omega
          rw [if_neg nx] at hx
          rw [if_neg (show ¬ (0 ≤ x ∧ x ≤ M1.1 (102 + 12 * k) 10 - 1) by clear ts ms; omega)] at ix
          refine ⟨-2, M1, M2, ?_, ?_, sc1, hInv, hB1⟩
          · unfold D_T_go
            simp [-Option.bind_some, -Option.bind_none, gf, pf, rd, wt, ck, ln, lt, bz, nq, up_1, up_2, obs, obn, hB.t_, hB.s_, fo, nt, kn, d1, hB1.t_, hB1.s_, rko, w1, ts, e102, ms, hx]
          · unfold D_M_go
            simp [-Option.bind_some, -Option.bind_none, gf, pf, rd, wt, ck, ln, lt, bz, nq, up_1, up_2, obs, obn, hB1.m_, it1, is1, d2, hB2.m_, e, ew, s0, s6, r63, w1, ix]
    · rw [if_neg qs] at kn is
      refine ⟨-2, M, M, ?_, ?_, hC, h0, hB⟩
      · unfold D_T_go
        simp [-Option.bind_some, -Option.bind_none, gf, pf, rd, wt, ck, ln, lt, bz, nq, up_1, up_2, obs, obn, hB.t_, hB.s_, fo, nt, kn]
      · unfold D_M_go
        simp [-Option.bind_some, -Option.bind_none, gf, pf, rd, wt, ck, ln, lt, bz, nq, up_1, up_2, obs, obn, hB.m_, it, is]
  · rw [if_neg qk] at fo it
    refine ⟨-2, M, M, ?_, ?_, hC, h0, hB⟩
    · unfold D_T_go
      simp [-Option.bind_some, -Option.bind_none, gf, pf, rd, wt, ck, ln, lt, bz, nq, up_1, up_2, obs, obn, hB.t_, fo]
    · unfold D_M_go
      simp [-Option.bind_some, -Option.bind_none, gf, pf, rd, wt, ck, ln, lt, bz, nq, up_1, up_2, obs, obn, hB.m_, it]
