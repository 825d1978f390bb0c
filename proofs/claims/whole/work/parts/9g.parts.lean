/-! calls: parts -/
theorem fn2_2 {N0 M N : Mem} {p a b u : Int} (hM : MOK N0 p) (hn : NtOk M) (h3 : 0 ≤ M.1 8 3 ∧ M.1 8 3 < 64) (h4 : M.1 8 4 = 0) (h5 : M.1 8 5 = 10) (e21 : N.1 62 21 = 2) (e25 : N.1 62 25 = u) (hu : 0 ≤ u ∧ u < 64) (hb : ∀ c, 0 ≤ c → c < N0.1 p 10 → (bt (M.1 8 3) c ↔ bt u c)) (h : R2 M (N0.1 p 10) a b) : acN M a = 1 ↔ fn2 N b = 1 := by
  have r := vs_4096 hn h.2.1
  have k6 : 0 ≤ N0.1 p 10 ∧ N0.1 p 10 ≤ 6 := hM.2.2.1.1
  have sa := single_and hn h h3.1 (show M.1 8 3 < 4096 by omega)
  rw [ac_10 r.1 r.2 h4 h5, sa, hb b h.1.1 h.1.2]
  unfold fn2
  rw [if_neg (by omega), if_neg (by omega), e25]
  have bg := bt_get (z := u) (i := b) hu.1 (by omega) h.1.1 (by have := h.1; omega)
  rcases bg with ⟨b1, b2⟩ | ⟨b1, b2⟩
  · rw [if_pos b2]; exact ⟨fun _ => rfl, fun _ => b1⟩
  · rw [if_neg (by omega)]; exact ⟨fun w => absurd w b1, fun w => by omega⟩
theorem parts_both {L : Nat} {xs : Int → Int} {M : Mem} (h : Inv L xs M) (a : Int) : Both L xs (D_T_parts 0 a) (D_M_parts 62 a) M := by
  have h0 := h
  obtain ⟨tc, hI, e7, e4, hC⟩ := h
  have hB := hI.sb
  have hg := hI.sg
  have t0 := hI.tc_
  have fa := find_ok hB hI.sl e7 t0.2 a
  have ia := isTongue_ok hB (by rw [e4]; exact t0) a
  rw [e4] at ia
  have same : ∀ v, D_T_parts 0 a M = some (v, M) → D_M_parts 62 a M = some (v, M) → Both L xs (D_T_parts 0 a) (D_M_parts 62 a) M := fun v p q => ⟨v, M, M, p, q, hC, h0, hB⟩
  by_cases qa : 0 ≤ a ∧ a < tc
  · rw [if_pos qa] at fa ia
    have na : ¬ 100 + 12 * a < 0 := by omega
    by_cases t16 : tc < 16
    · have n16 : ¬ tc = 16 := by omega
      obtain ⟨r1, M0, d1, hI0, hF0, er0, r01, h70, ho1, hs1⟩ := isLarge_ok hI qa.1 qa.2
      have hB0 := hI0.sb
      have sc0 := hF0.sc hC
      rcases r01 with z1 | z1
      · subst z1
        have hM0 := (hI0.2.2.2.2.2.2.2.2.2.2 a qa.1 qa.2).mok h70 er0.symm
        obtain ⟨lv, M1, dl, hLP, lvr, hlv⟩ := living_ok hB0 hI0.sg.1 hM0
        have o1 : ∀ e, e ≠ 102 + 12 * a + 7 → M1.1 e = M0.1 e := hLP.2.1
        have hB1 := hLP.2.2.1
        have hI1 : IB M1 tc := hI0.p7 qa.1 qa.2 hLP.1 o1 hB1
        have c1 : M1.1 62 = M.1 62 := by rw [o1 62 (by omega)]; exact hF0.2 62 (by decide)
        have f4 : M1.1 62 4 = tc := by rw [c1]; exact e4
        have sc1 : SC L xs M1 := ⟨by rw [hLP.1]; exact sc0.1, by rw [o1 _ (by omega)]; exact sc0.2⟩
        have e71 : M1.1 0 7 = tc := by rw [o1 0 (by omega), hF0.2 0 (by decide)]; exact e7
        have h7 : M1.1 (100 + 12 * a) 7 = 0 := by rw [o1 _ (by omega)]; exact h70
        have er1 : M1.1 (102 + 12 * a) 12 = 0 := by rw [o1 _ (by omega)]; exact er0.symm
        have hMa := (hI1.2.2.2.2.2.2.2.2.2.2 a qa.1 qa.2).mok h7 er1
        have x1 : M1.1 1 = M0.1 1 := o1 1 (by omega)
        have xk : rkC M1 = rkC M0 := rk_c x1 (o1 2 (by omega))
        have xm : mch M1 (102 + 12 * a) = mch M0 (102 + 12 * a) := mch_c xk (fun e _ _ => o1 e (by omega))
        rw [← xm, ← xk, ← x1] at hlv
        have k6 : 0 ≤ M1.1 (102 + 12 * a) 10 ∧ M1.1 (102 + 12 * a) 10 ≤ 6 := hMa.2.2.1.1
        have e10 : M0.1 (102 + 12 * a) 10 = M1.1 (102 + 12 * a) 10 := by rw [o1 _ (by omega)]
        rw [e10] at hlv
        obtain ⟨M3, e3, hN⟩ := setOne_ok (fin := lv) (way := 10) hB1 hI1.sg.1 hMa
        have hNf : Nf M1 M3 := ⟨hN.1, hN.2.1, hN.2.2.1⟩
        have E3 : Env M3 := hN.env6 hI1.sg.1 k6 ⟨lvr.1, by omega⟩ (by decide) (by decide)
        have hn := E3.1
        obtain ⟨r, M4, Ya, ek, hK, da, hIa, hKa, f4a, hE, sc4, hI4, c4, sca, na1, eka⟩ := made1_ok hI1 e71 qa.1 qa.2 h7 er1 sc1 hNf E3 t16
        have hB4 := hI4.sb
        have hBa := hIa.sb
        have ia4 := isTongue_ok hB4 (by rw [c4, c1, e4]; exact t0) a
        rw [c4, c1, e4, if_pos qa] at ia4
        have f44 : M4.1 62 4 = tc := by rw [c4]; exact f4
        have n6 := hI1.sg.1.2.1
        have k6m : mN (mch M1 (102 + 12 * a)) ≤ 6 := hMa.2.2.1.1.2
        obtain ⟨u, Ya', du, eYa, ur, hu⟩ := useful_ok hBa hIa.sg hIa.2.2.2.2.2.2.2.2.1 (by rw [na1, eka]; exact hE.mw hMa.2.2.1)
        subst eYa
        rw [na1, eka] at hu
        have hIu : IB (up Ya' 62 25 u) tc := hIa.f62 (by decide)
        have hKu : KR Ya' (up Ya' 62 25 u) := KR.up ⟨rfl, fun _ _ => rfl⟩ (by decide)
        have pu : pf Ya' 62 9 54 25 u = some (up Ya' 62 25 u) := by simp [pf, hBa.m_]
        have ou : ∀ e, e ≠ 62 → (up Ya' 62 25 u).1 e = Ya'.1 e := fun e q => up_n q
        have fu' : ∀ j, j ≠ 25 → (up Ya' 62 25 u).1 62 j = Ya'.1 62 j := fun j q => by rw [up_1, if_neg (fun z => q z.2)]
        have u25 : (up Ya' 62 25 u).1 62 25 = u := by rw [up_1, if_pos ⟨rfl, rfl⟩]
        obtain ⟨N, eN, hPL⟩ := plain_ok (w := 2) hIu
        have hBu := hIu.sb
        have run0 : D_M_parts 62 a M4 = (ck N 62 9 54).bind fun _ => (D_M_newTongue 62 N).bind fun x => some (x.1, x.2) := by
          unfold D_M_parts
          have q1 : ck M4 62 9 54 = some () := by simp [ck, hB4.m_]
          have q2 : gf M4 62 9 54 4 = some tc := by rw [← f44]; simp [gf, hB4.m_]
          have q3 : ck Ya' 62 9 54 = some () := by simp [ck, hBa.m_]
          have q4 : ck (up Ya' 62 25 u) 62 9 54 = some () := by simp [ck, hBu.m_]
          simp only [q1, obs, ia4, q2, n16, if_false, da, q3, du, pu, q4, eN]
          rw [if_neg (by decide), if_pos (by decide)]
        generalize up Ya' 62 25 u = Yu at *
        obtain ⟨hIN, hKN, oN, fN', g20, g21, g23⟩ := hPL
        have hBN := hIN.sb
        have ckN : ck N 62 9 54 = some () := by simp [ck, hBN.m_]
        have run : D_M_parts 62 a M4 = (D_M_newTongue 62 N).bind fun x => some (x.1, x.2) := by rw [run0, ckN, obs]
        have ekN : rkC N = rkC M1 := by rw [rk_c (oN 1 (by decide)) (oN 2 (by decide)), rk_c (ou 1 (by decide)) (ou 2 (by decide))]; exact eka
        have nN : N.1 1 = M1.1 1 := by rw [oN 1 (by decide), ou 1 (by decide)]; exact na1
        have yu1 : Yu.1 1 1 = M1.1 1 1 := by rw [ou 1 (by decide), na1]
        have hEN := hE.cr (M' := N) n6 k6m (by rw [oN 73 (by decide), ou 73 (by decide)]) (fun j _ _ => by rw [oN 74 (by decide), ou 74 (by decide)]) (fun e c q q' _ _ => by rw [oN e (by omega), ou e (by omega)])
        have hWN := hEN.mw hMa.2.2.1
        have f4N : N.1 62 4 = tc := by rw [fN' 4 (by decide) (by decide) (by decide), fu' 4 (by decide), f4a]; exact f4
        have f25 : N.1 62 25 = u := by rw [fN' 25 (by decide) (by decide) (by decide)]; exact u25
        have mo : MapOk N (N.1 62 23) := fun s s0 s1 => by
          rw [g23, yu1]
          rw [nN] at s1
          rw [pm_id hI1.sg.1.1 hI1.sg.1.2.1 s0 s1, nN]
          exact ⟨⟨s0, s1⟩, rfl⟩
        have ra := (ra2 hIN.rc (by rw [nN, ekN]; exact hWN) mo g20).1
        have e73 : M1.1 (102 + 12 * a) 10 = Ya'.1 73 16 := hE.1
        have hb : ∀ c, 0 ≤ c → c < M1.1 (102 + 12 * a) 10 → (bt (M3.1 8 3) c ↔ bt u c) := fun c c0 c1' => by
          rw [hN.2.2.2.1.2.1, hlv c c0 c1', hu c c0 (by omega)]
          exact ⟨fun w => w.q hE, fun w => w.q hE.sy⟩
        obtain ⟨M5, e5, hInv⟩ := made_end t16 hK hIN ((hKa.tr hKu).tr hKN) f4N ra (fun z c j => fn2_2 hMa hn (by rw [hN.2.2.2.1.2.1]; exact lvr) hN.2.2.2.1.2.2.1 hN.2.2.2.1.2.2.2 g21 f25 ur hb (joint2 hI1.sg.1 hMa hn hN (by rw [nN]) ekN hEN (fun s s0 s1 => ⟨⟨s0, s1⟩, rfl, by rw [g23, yu1]; exact pm_id hI1.sg.1.1 hI1.sg.1.2.1 s0 s1⟩) j)) (hKN.sc (hKu.sc sca))
        refine ⟨r, M4, M5, ?_, ?_, sc4, hInv, hB4⟩
        · have ats := hI0.sl.at qa.1 qa.2
          have u1 : M0.1 (100 + 12 * a) 1 = 102 + 12 * a := by rw [ats.2.1.2.2.2.1]; omega
          have u3 := ats.2.1.1
          have u5 := ats.2.2.1
          have hBn := hN.2.2.1
          clear ats
          unfold D_T_parts
          simp [-Option.bind_some, -Option.bind_none, gf, pf, rd, wt, ck, ln, lt, bz, nq, up_1, up_2, obs, obn, hB.t_, fa, na, e7, t16, d1, hB0.t_, u1, u3, u5, dl, hB1.n_, e3, hBn.t_, ek]
        · rw [run, e5, obs]
      · subst z1
        have c1 : M0.1 62 = M.1 62 := hF0.2 62 (by decide)
        have ia1 := isTongue_ok hB0 (by rw [c1, e4]; exact t0) a
        rw [c1, e4, if_pos qa] at ia1
        have f4 : M0.1 62 4 = tc := by rw [c1]; exact e4
        obtain ⟨r', Ma, da, hIa, hKa, hra⟩ := load_k_ok (m := 16) hI0 qa.1 qa.2 h70 (Or.inl rfl)
        have er' : r' = -5 := by
          rcases hra with q | q
          · exact q.1
          · have := q.2.1; omega
        subst er'
        refine ⟨-5, M0, Ma, ?_, ?_, sc0, ⟨tc, hIa, ?_, ?_, hKa.sc sc0⟩, hB0⟩
        · unfold D_T_parts
          simp [-Option.bind_some, -Option.bind_none, gf, pf, rd, wt, ck, ln, lt, bz, nq, up_1, up_2, obs, obn, hB.t_, fa, na, e7, t16, d1]
        · unfold D_M_parts
          simp [-Option.bind_some, -Option.bind_none, gf, pf, rd, wt, ck, ln, lt, bz, nq, up_1, up_2, obs, obn, hB0.m_, ia1, f4, n16, da]
        · rw [hKa.2.1 0 (by decide) (by decide), hF0.2 0 (by decide)]; exact e7
        · rw [hKa.2.2.1 4 (by decide) (by decide) (by decide) (by decide)]; exact f4
    · have n16 : tc = 16 := by omega
      refine same (-4) ?_ ?_
      · unfold D_T_parts
        simp [-Option.bind_some, -Option.bind_none, gf, pf, rd, wt, ck, ln, lt, bz, nq, up_1, up_2, obs, obn, hB.t_, fa, na, e7, t16]
      · unfold D_M_parts
        simp [-Option.bind_some, -Option.bind_none, gf, pf, rd, wt, ck, ln, lt, bz, nq, up_1, up_2, obs, obn, hB.m_, ia, e4, n16]
  · rw [if_neg qa] at fa ia
    refine same (-2) ?_ ?_
    · unfold D_T_parts
      simp [-Option.bind_some, -Option.bind_none, gf, pf, rd, wt, ck, ln, lt, bz, nq, up_1, up_2, obs, obn, hB.t_, fa]
    · unfold D_M_parts
      simp [-Option.bind_some, -Option.bind_none, gf, pf, rd, wt, ck, ln, lt, bz, nq, up_1, up_2, obs, obn, hB.m_, ia]
