/-! calls: where two tongues are unlike -/
/-- the reference, up to the making of the joint machine -/
theorem unl_ref {X : Mem} {tc a b : Int} (hI : IW X tc) (a0 : 0 ≤ a) (a1 : a < tc) (b0 : 0 ≤ b) (b1 : b < tc) (fr1 : X.1 (100 + 12 * a) 7 = 0) (fr2 : X.1 (100 + 12 * b) 7 = 0) (h12 : X.1 (102 + 12 * a) 12 = 0) (hb : X.1 (102 + 12 * b) 12 = 0) (f4 : X.1 62 4 = tc) : ∃ N, (D_M_unlike 62 a b X = (D_M_make 62 18 N).bind fun x55 => if 0 ≤ x55.1 then ((ck x55.2 62 9 54).bind fun _ => (D_M_layFirst 62 18 x55.2).bind fun x69 => some (x69.1, x69.2)) else (some ((-5), x55.2))) ∧ RFr X N ∧ RC N ∧ IW N tc ∧ N.1 62 20 = 1 ∧ N.1 62 21 = 3 ∧ Eqm (X.1 1 1) (rkC X) (mch X (102 + 12 * a)) (mchR N 16) ∧ Eqm (X.1 1 1) (rkC X) (mch X (102 + 12 * b)) (mchR N 17) ∧ (∀ e, e = 3 ∨ e = 4 ∨ e = 64 → N.1 e = X.1 e) ∧ N.1 62 3 = X.1 62 3 := by
  have hB := hI.1
  have t0 := hI.2.2.2.1
  obtain ⟨r1, Ya, d1, hIa, hAa, hKa, hra⟩ := loadw_ok (m := 16) hI a0 a1 fr1 (Or.inl rfl)
  have cl : ∀ e, 100 ≤ e → Ya.1 e = X.1 e := fun e q => hKa.2.1 e (by omega) (by omega)
  obtain ⟨r2, Yb, d2, hIb, hAb, hKb, hrb⟩ := loadw_ok (m := 17) hIa b0 b1 (by rw [cl _ (by omega)]; exact fr2) (Or.inr rfl)
  obtain ⟨z1, -, hMa, hE, hW⟩ : r1 = 0 ∧ X.1 (102 + 12 * a) 12 = 0 ∧ MOK X (102 + 12 * a) ∧ Eqm (X.1 1 1) (rkC X) (mch X (102 + 12 * a)) (mchR Ya 16) ∧ MW (X.1 1 1) (rkC X) (mchR Ya 16) := by
    rcases hra with q | q
    · have := q.2; omega
    · exact q
  obtain ⟨z2, -, hMb, hE', hW'⟩ : r2 = 0 ∧ Ya.1 (102 + 12 * b) 12 = 0 ∧ MOK Ya (102 + 12 * b) ∧ Eqm (Ya.1 1 1) (rkC Ya) (mch Ya (102 + 12 * b)) (mchR Yb 17) ∧ MW (Ya.1 1 1) (rkC Ya) (mchR Yb 17) := by
    rcases hrb with q | q
    · have := q.2; rw [cl _ (by omega)] at this; omega
    · exact q
  subst z1
  subst z2
  have n1 : Ya.1 1 = X.1 1 := hKa.2.1 1 (by decide) (by decide)
  have n2 : Ya.1 2 = X.1 2 := hKa.2.1 2 (by decide) (by decide)
  have ek : rkC Ya = rkC X := rk_c n1 n2
  have k6 : mN (mch X (102 + 12 * a)) ≤ 6 := hMa.2.2.1.1.2
  have n6 := hI.2.1.1.2.1
  have hE16 : Eqm (X.1 1 1) (rkC X) (mch X (102 + 12 * a)) (mchR Yb 16) := hE.cr n6 k6 (hKb.2.2.2.1 16 (by decide)) (fun j j0 j1 => hKb.2.2.2.2.1 _ (by omega)) (fun e c e0 e1 c0 c1 => hKb.2.2.2.2.2 e _ e0 e1 (by omega))
  rw [n1, ek, mch_c ek (fun e e0 e1 => cl e (by omega))] at hE'
  have k6' : mN (mch X (102 + 12 * b)) ≤ 6 := by
    have : mN (mch Ya (102 + 12 * b)) ≤ 6 := hMb.2.2.1.1.2
    rw [mch_c ek (fun e e0 e1 => cl e (by omega))] at this
    exact this
  have hBa := hIa.1
  have hBb := hIb.1
  have fab := (hKa.rf (by decide)).tr (hKb.rf (by decide))
  have oN : ∀ e, e ≠ 62 → (up (up Yb 62 20 1) 62 21 3).1 e = Yb.1 e := fun e q => by rw [up_n q, up_n q]
  have fN : ∀ j, j ≠ 20 → j ≠ 21 → (up (up Yb 62 20 1) 62 21 3).1 62 j = Yb.1 62 j := fun j q r => by rw [up_1, if_neg (fun z => r z.2), up_1, if_neg (fun z => q z.2)]
  have f20 : (up (up Yb 62 20 1) 62 21 3).1 62 20 = 1 := by simp [-Option.bind_some, -Option.bind_none, gf, pf, rd, wt, ck, ln, lt, bz, nq, up_1, up_2, obs, obn]
  have f21 : (up (up Yb 62 20 1) 62 21 3).1 62 21 = 3 := by simp [-Option.bind_some, -Option.bind_none, gf, pf, rd, wt, ck, ln, lt, bz, nq, up_1, up_2, obs, obn]
  have s2 : (up (up Yb 62 20 1) 62 21 3).2 = Yb.2 := by rw [up_2, up_2]
  have hBN : SB (up (up Yb 62 20 1) 62 21 3) := SB_up (SB_up hBb (by decide)) (by decide)
  have ia := isTongue_ok hB (by rw [f4]; exact t0) a
  have ib := isTongue_ok hB (by rw [f4]; exact t0) b
  rw [f4, if_pos ⟨a0, a1⟩] at ia
  rw [f4, if_pos ⟨b0, b1⟩] at ib
  have run : D_M_unlike 62 a b X = ((D_M_make 62 18 (up (up Yb 62 20 1) 62 21 3)).bind fun x55 => if 0 ≤ x55.1 then ((ck x55.2 62 9 54).bind fun _ => (D_M_layFirst 62 18 x55.2).bind fun x69 => some (x69.1, x69.2)) else (some ((-5), x55.2))) := by
    unfold D_M_unlike
    have c0 : ck X 62 9 54 = some () := by simp [ck, hB.m_]
    have c1 : ck Ya 62 9 54 = some () := by simp [ck, hBa.m_]
    have q1 : pf Yb 62 9 54 20 1 = some (up Yb 62 20 1) := by simp [pf, hBb.m_]
    have q2 : pf (up Yb 62 20 1) 62 9 54 21 3 = some (up (up Yb 62 20 1) 62 21 3) := by simp [pf, hBb.m_, up_2]
    have c2 : ck (up (up Yb 62 20 1) 62 21 3) 62 9 54 = some () := by simp [ck, hBN.m_]
    rw [c0, obs, ia, obs]
    dsimp only
    rw [if_neg (by decide), c0, obs, ib, obs]
    dsimp only
    rw [if_neg (by decide), c0, obs, d1, obs]
    dsimp only
    rw [if_neg (by decide), c1, obs, d2, obs]
    dsimp only
    rw [if_pos (by decide), q1, obs, q2, obs, c2, obs]
  generalize up (up Yb 62 20 1) 62 21 3 = N at *
  have fbN : RFr Yb N := ⟨s2, fun e q => oN e (by omega), fN 0 (by decide) (by decide), fN 4 (by decide) (by decide), fun k _ => by rw [oN 73 (by decide)], fun k _ => by rw [oN 74 (by decide)], fun e k q r _ => by rw [oN e (by omega)]⟩
  have hAN : BA N := fun j p q => by rw [oN 75 (by decide)]; exact hAb j p q
  have hgN : SgE N := hIb.2.1.c (oN 1 (by decide)) (oN 2 (by decide)) (fN 0 (by decide) (by decide)) (oN 63 (by decide))
  refine ⟨N, run, fab.tr fbN, ⟨hBN, hgN, hAN⟩, ⟨hBN, hgN, hAN, t0, fun j j0 j1 => fbN.tg j0 (by omega) hIb.2.1.1.2.1 (hIb.2.2.2.2 j j0 j1)⟩, f20, f21, ?_, ?_, fun e q => ?_, ?_⟩
  · exact hE16.cr n6 k6 (by rw [oN 73 (by decide)]) (fun j _ _ => by rw [oN 74 (by decide)]) (fun e c q q' _ _ => by rw [oN e (by omega)])
  · exact hE'.cr n6 k6' (by rw [oN 73 (by decide)]) (fun j _ _ => by rw [oN 74 (by decide)]) (fun e c q q' _ _ => by rw [oN e (by omega)])
  · rw [oN e (by omega), hKb.2.1 e (by omega) (by omega), hKa.2.1 e (by omega) (by omega)]
  · rw [fN 3 (by decide) (by decide), hKb.2.2.1 3 (by decide) (by decide) (by decide) (by decide), hKa.2.2.1 3 (by decide) (by decide) (by decide) (by decide)]
/-- the spare machine is made -/
theorem spare_ok {M0 M M' : Mem} {tc : Int} (hI : IB M0 tc) (hN : Nf M0 M) (hR : Rd M 50 M') : IB M' tc ∧ (∀ a, a < 8 ∨ 60 ≤ a → M'.1 a = M0.1 a) ∧ M'.2 = M0.2 := by
  have o : ∀ a, a < 8 ∨ 60 ≤ a → M'.1 a = M0.1 a := fun a q => by rw [hR.2.1 a (by omega), hN.2.1 a (by omega) (by omega)]
  have s : M'.2 = M0.2 := hR.1.trans hN.1
  have c1 := o 1 (by omega)
  have c2 := o 2 (by omega)
  have o62 := o 62 (by omega)
  refine ⟨hI.mk2 hI.tc_ hR.2.2.2.1 c1 c2 (o 3 (by omega)) (o 4 (by omega)) (by rw [o62]) (by rw [o62]) (o 63 (by omega)) (o 64 (by omega)) (hI.sl.c (Int.le_refl _) s (o 7 (by omega)) (fun a _ _ _ k _ => by rw [o a (by omega)]) (fun a _ _ _ k _ => by rw [o a (by omega)])) hR.2.2.2.2.1 hR.2.2.2.2.2.1 (fun j a b => by rw [o 75 (by omega)]; exact hI.2.2.2.2.2.2.2.2.1 j a b) (fun j a b => by rw [o 65 (by omega)]; exact hI.2.2.2.2.2.2.2.2.2.1 j a b) (fun j j0 j1 => ?_), o, s⟩
  exact TG.c ⟨fun a a0 a1 => ⟨o a (by omega), by rw [s]⟩, by rw [c1], rk_c c1 c2, fun a a0 a1 => by rw [o a (by omega)], fun a i a0 a1 _ _ => by rw [o a (by omega)], by rw [o 73 (by omega)], fun i i0 i1 => by rw [o 74 (by omega)], fun a c a0 a1 c0 c1 => by rw [o a (by omega)]⟩ hI.sg.1.2.1 (hI.2.2.2.2.2.2.2.2.2.2 j j0 j1)
theorem unlike_both {L : Nat} {xs : Int → Int} {M : Mem} (h : Inv L xs M) (a b : Int) : Both L xs (D_T_unlike 0 a b) (D_M_unlike 62 a b) M := by
  have h0 := h
  obtain ⟨tc, hI, e7, e4, hC⟩ := h
  have hB := hI.sb
  have hg := hI.sg
  have t0 := hI.tc_
  have fa := find_ok hB hI.sl e7 t0.2 a
  have fb := find_ok hB hI.sl e7 t0.2 b
  have ia := isTongue_ok hB (by rw [e4]; exact t0) a
  have ib := isTongue_ok hB (by rw [e4]; exact t0) b
  rw [e4] at ia ib
  by_cases qa : 0 ≤ a ∧ a < tc
  · rw [if_pos qa] at fa ia
    have na : ¬ 100 + 12 * a < 0 := by omega
    by_cases qb : 0 ≤ b ∧ b < tc
    · rw [if_pos qb] at fb ib
      have nb : ¬ 100 + 12 * b < 0 := by omega
      obtain ⟨r1, M1, r2, M2, d1, d2, hI1, hF1, h7, hT, er1, er1', er2, r01, r02⟩ := two_ok hI qa.1 qa.2 qb.1 qb.2
      have hB1 := hI1.sb
      have c1 : M1.1 62 = M.1 62 := hF1.2 62 (by decide)
      have ia1 := isTongue_ok hB1 (by rw [c1, e4]; exact t0) a
      have ib1 := isTongue_ok hB1 (by rw [c1, e4]; exact t0) b
      rw [c1, e4, if_pos qa] at ia1
      rw [c1, e4, if_pos qb] at ib1
      have f4 : M1.1 62 4 = tc := by rw [c1]; exact e4
      rcases r01 with z1 | z1
      · subst z1
        obtain ⟨hI2, hF2, fr1, fr2⟩ := hT
        have hB2 := hI2.sb
        have c2 : M2.1 62 = M.1 62 := hF2.2 62 (by decide)
        have ia2 := isTongue_ok hB2 (by rw [c2, e4]; exact t0) a
        have ib2 := isTongue_ok hB2 (by rw [c2, e4]; exact t0) b
        rw [c2, e4, if_pos qa] at ia2
        rw [c2, e4, if_pos qb] at ib2
        have f42 : M2.1 62 4 = tc := by rw [c2]; exact e4
        have sc2 := hF2.sc hC
        have hMa := (hI2.2.2.2.2.2.2.2.2.2.2 a qa.1 qa.2).mok fr1 er1'.symm
        rcases r02 with z2 | z2
        · subst z2
          have hMb := (hI2.2.2.2.2.2.2.2.2.2.2 b qb.1 qb.2).mok fr2 er2.symm
          obtain ⟨M3, e3, hN⟩ := setBoth_ok (way := wayOf 3) hB2 hI2.sg.1 hMa hMb
          have k6' : 0 ≤ M2.1 (102 + 12 * b) 10 ∧ M2.1 (102 + 12 * b) 10 ≤ 6 := hMb.2.2.1.1
          have ffa := hMa.2.2.2
          have ffb := hMb.2.2.2
          have wr16 : 0 ≤ wayOf 3 ∧ wayOf 3 < 16 := by unfold wayOf; split <;> (try split) <;> (try split) <;> omega
          have ot : 0 ≤ ishl (M2.1 (102 + 12 * b) 11) 6 ∧ ishl (M2.1 (102 + 12 * b) 11) 6 < 4096 := by rw [ishl6 ffb.1 ffb.2]; omega
          have hn := hN.nt (by omega) ⟨ffa.1, by omega⟩ ot wr16
          have E3 : Env M3 := hN.env_hi hI2.sg.1 hMb ⟨ffa.1, by omega⟩ ot wr16 (fun s x y q s0 s1 q6 => by
            constructor
            · intro z
              rcases z.2 with u | u
              · have := u.lo hMa s0 s1 rfl; omega
              · exact u
            · intro z
              exact ⟨⟨s0, s1⟩, Or.inr z⟩)
          have hNf : Nf M2 M3 := ⟨hN.1, hN.2.1, hN.2.2.1⟩
          have e72 : M2.1 0 7 = tc := by rw [hF2.2 0 (by decide)]; exact e7
          have l10 : ∀ e, 10 ≤ e → e < 50 → M3.1 e = M2.1 e := fun e _ _ => hN.2.1 e (by omega) (by omega)
          obtain ⟨M4, e4', hR, h13, hres⟩ := reduceTo_ok (p := 50) E3 (hI2.2.2.2.2.2.2.1.c l10) (hI2.2.2.2.2.2.2.2.1.c l10) (SBP.ms hN.2.2.1) (Or.inl rfl)
          obtain ⟨hI4, o4, s4⟩ := spare_ok hI2 hNf hR
          have hB4 := hI4.sb
          have hBn := hN.2.2.1
          have n41 : M4.1 1 = M2.1 1 := o4 1 (by omega)
          have ek4 : rkC M4 = rkC M2 := rk_c n41 (o4 2 (by omega))
          have a7 : M4.1 0 7 = tc := by rw [o4 0 (by omega)]; exact e72
          have a4 : M4.1 62 4 = tc := by rw [o4 62 (by omega)]; exact f42
          have sc4 : SC L xs M4 := ⟨by rw [s4]; exact sc2.1, by rw [o4 _ (by omega)]; exact sc2.2⟩
          have ats := hI2.sl.at qa.1 qa.2
          have bts := hI2.sl.at qb.1 qb.2
          have u1 : M2.1 (100 + 12 * a) 1 = 102 + 12 * a := by rw [ats.2.1.2.2.2.1]; omega
          have u2 : M2.1 (100 + 12 * b) 1 = 102 + 12 * b := by rw [bts.2.1.2.2.2.1]; omega
          have u3 := ats.2.1.1
          have u4 := bts.2.1.1
          have wvv := wv_ok (w := 3) (by decide) (by decide)
          clear ats bts
          rw [hN.n1, hN.rk] at hres
          -- the reference, from any memory like this one
          have ref : ∀ X, IW X tc → RFr M4 X → ∃ N rm N5, (D_M_unlike 62 a b X = if 0 ≤ rm then ((ck N5 62 9 54).bind fun _ => (D_M_layFirst 62 18 N5).bind fun x69 => some (x69.1, x69.2)) else (some ((-5), N5))) ∧ RFr X N5 ∧ SB N5 ∧ BA N5 ∧ (∀ e, e = 3 ∨ e = 4 ∨ e = 64 → N5.1 e = X.1 e) ∧ N5.1 62 3 = X.1 62 3 ∧ (∀ z c, Jn (M2.1 1 1) (rkC M2) (dN M3) (rX N (nx1 N)) z c → (acN M3 z = 1 ↔ fn1 N c = 1)) ∧ ((rm = -5 ∧ Lg (M2.1 1 1) (rkC M2) (rX N (nx1 N)) (fun z => fn1 N z = 1)) ∨ (rm = 0 ∧ Can (M2.1 1 1) (rkC M2) (rX N (nx1 N)) (fun z => fn1 N z = 1) (mchR N5 18) ∧ MW (M2.1 1 1) (rkC M2) (mchR N5 18))) := by
            intro X hX fX
            have x1 : X.1 1 = M2.1 1 := by rw [fX.2.1 1 (by omega)]; exact n41
            have xk : rkC X = rkC M2 := by rw [rk_c (fX.2.1 1 (by omega)) (fX.2.1 2 (by omega))]; exact ek4
            have xp : ∀ e, 100 ≤ e → X.1 e = M2.1 e := fun e q => by rw [fX.2.1 e (by omega), o4 e (by omega)]
            obtain ⟨N, run, fN, rcN, hIN, f20, f21, hE, hE', oX, o3⟩ := unl_ref hX qa.1 qa.2 qb.1 qb.2 (by rw [xp _ (by omega)]; exact fr1) (by rw [xp _ (by omega)]; exact fr2) (by rw [xp _ (by omega)]; exact er1'.symm) (by rw [xp _ (by omega)]; exact er2.symm) (by rw [fX.2.2.2.1]; exact a4)
            rw [x1, xk, mch_c xk (fun e q q' => xp e (by omega))] at hE
            rw [x1, xk, mch_c xk (fun e q q' => xp e (by omega))] at hE'
            have nN : N.1 1 = M2.1 1 := by rw [fN.2.1 1 (by omega)]; exact x1
            have ekN : rkC N = rkC M2 := by rw [rk_c (fN.2.1 1 (by omega)) (fN.2.1 2 (by omega))]; exact xk
            have ra := (ra1 rcN (by rw [nN, ekN]; exact hE.mw hMa.2.2.1) (by rw [nN, ekN]; exact hE'.mw hMb.2.2.1) f20).1
            obtain ⟨rm, N5, em, hKM, hm⟩ := make_ok (m := 18) ra (by decide)
            rw [nN, ekN] at hm
            have hKL := hKM.kl
            refine ⟨N, rm, N5, ?_, fN.tr (hKL.rf (by decide)), hKL.sb rcN.1, hKM.2.2.2.2.2.2 rcN.2.2, fun e q => by rw [hKL.2.1 e (by omega) (by omega)]; exact oX e q, by rw [hKL.2.2.1 3 (by decide) (by decide) (by decide) (by decide)]; exact o3, fun z c j => acN_of (w := 3) (by decide) (by decide) hMa hMb hn hN.2.2.2.1.2.1 hN.2.2.2.1.2.2.1 hN.2.2.2.1.2.2.2 rcN.2.2 f21 hE hE' (joint1 hI2.sg.1 hMa hMb hn hN ekN hE hE' j), ?_⟩
            · rw [run, em, obs]
            · rcases hm with ⟨q1, q2⟩ | q
              · left
                unfold LgX at q2
                rw [nN, ekN] at q2
                exact ⟨q1, q2⟩
              · right; exact q
          rcases hres with ⟨h12, hL⟩ | ⟨h12, fin6, hCan, hW⟩
          · -- large
            obtain ⟨N, rm, N5, run, f5, hB5, hA5, o5, o53, hJ, hm⟩ := ref M4 hI4.iw (RFr.rf M4)
            unfold LgN at hL
            rw [hN.n1, hN.rk] at hL
            rcases hm with ⟨q1, q2⟩ | ⟨q1, q2, q3⟩
            · subst q1
              refine ⟨-5, M4, N5, ?_, ?_, sc4, ⟨tc, hI4.fin f5 hB5 hA5 ?_, by rw [f5.2.1 0 (by omega)]; exact a7, by rw [f5.2.2.2.1]; exact a4, ⟨by rw [f5.1]; exact sc4.1, by rw [f5.2.1 _ (by omega)]; exact sc4.2⟩⟩, hB4⟩
              · unfold D_T_unlike
                have g50 : M4.2.1 50 = (1, 14) := by simp [hB4.p_]
                simp [-Option.bind_some, -Option.bind_none, gf, pf, rd, wt, ck, ln, lt, bz, nq, up_1, up_2, obs, obn, hB.t_, fa, fb, na, nb, d1, hB1.t_, d2, hB2.t_, u1, u2, u3, u4, wvv, hB2.n_, e3, hBn.t_, hBn.d_, e4', hB4.t_, g50, h12]
              · rw [run, if_neg (by decide)]
              · unfold RW
                rw [o5 3 (by omega), o5 4 (by omega), o5 64 (by omega), o53, f5.2.1 1 (by omega)]
                exact hI4.rw_
            · exact (q2.noLg q3.1.2 hL (fun a b j => (hJ b a j.sw).symm)).elim
          · have hM50 : MOK M4 50 := ⟨SBP.ms hB4, Or.inl rfl, by rw [n41, ek4]; exact hW, fin6⟩
            have hH : HD (M4.1 1 1) (rkC M4) (mch M4 50) := by rw [n41, ek4]; exact hCan.2.1.hd
            obtain ⟨rw', M5, d5, hWL⟩ := writeLeast_ok (p := 50) hB4 hI4.sg.1 hM50 hH
            have hw : IW M5 tc ∧ RFr M4 M5 ∧ SC L xs M5 := by
              rcases hWL with ⟨-, w, -⟩ | ⟨c, -, -, w⟩
              · rw [w]; exact ⟨hI4.iw, RFr.rf M4, sc4⟩
              · exact ⟨hI4.wset w, w.rf, ⟨by rw [w.1]; exact sc4.1, by rw [w.2.1 _ (by decide) (by decide)]; exact sc4.2⟩⟩
            obtain ⟨hI5, f45, sc5⟩ := hw
            obtain ⟨N, rm, N5, run, f5, hB5, hA5, o5, o53, hJ, hm⟩ := ref M5 hI5 f45
            rcases hm with ⟨q1, q2⟩ | ⟨q1, q2, q3⟩
            · exact (hCan.noLg hW.1.2 q2 hJ).elim
            · subst q1
              have hEq := hCan.uniq q2 hJ
              obtain ⟨M6, d6, hInv⟩ := lay_both (m := 18) hI4 a7 a4 sc4 (by decide) hM50 hH hWL f5 o5 o53 hB5 hA5 (by rw [n41, ek4]; exact hEq)
              refine ⟨rw', M5, M6, ?_, ?_, sc5, hInv, hI5.1⟩
              · unfold D_T_unlike
                have g50 : M4.2.1 50 = (1, 14) := by simp [hB4.p_]
                simp [-Option.bind_some, -Option.bind_none, gf, pf, rd, wt, ck, ln, lt, bz, nq, up_1, up_2, obs, obn, hB.t_, fa, fb, na, nb, d1, hB1.t_, d2, hB2.t_, u1, u2, u3, u4, wvv, hB2.n_, e3, hBn.t_, hBn.d_, e4', hB4.t_, g50, h12, d5]
              · have c5 : ck N5 62 9 54 = some () := by simp [ck, hB5.m_]
                rw [run, if_pos (by decide), c5, obs, d6, obs]
        · subst z2
          obtain ⟨Ya, r', Yb, g1, g2, hBa, hIb, hKR, f4b, hlg, -⟩ := load2_ok hI2 qa.1 qa.2 qb.1 qb.2 fr1 fr2 er1'.symm (Or.inr er2.symm)
          have z' := hlg er2.symm
          subst z'
          refine ⟨-5, M2, Yb, ?_, ?_, sc2, ⟨tc, hIb, ?_, by rw [f4b]; exact f42, hKR.sc sc2⟩, hB2⟩
          · unfold D_T_unlike
            simp [-Option.bind_some, -Option.bind_none, gf, pf, rd, wt, ck, ln, lt, bz, nq, up_1, up_2, obs, obn, hB.t_, fa, fb, na, nb, d1, hB1.t_, d2]
          · unfold D_M_unlike
            simp [-Option.bind_some, -Option.bind_none, gf, pf, rd, wt, ck, ln, lt, bz, nq, up_1, up_2, obs, obn, hB2.m_, ia2, ib2, g1, hBa.m_, g2]
          · rw [hKR.2 0 (by decide), hF2.2 0 (by decide)]; exact e7
      · subst z1
        obtain ⟨r', Ma, da, hIa, hKa, hra⟩ := load_k_ok (m := 16) hI1 qa.1 qa.2 h7 (Or.inl rfl)
        have sc1 := hF1.sc hC
        rcases hra with ⟨u, v⟩ | ⟨u, v, -⟩
        · subst u
          refine ⟨-5, M1, Ma, ?_, ?_, sc1, ⟨tc, hIa, ?_, ?_, hKa.sc sc1⟩, hB1⟩
          · unfold D_T_unlike
            simp [-Option.bind_some, -Option.bind_none, gf, pf, rd, wt, ck, ln, lt, bz, nq, up_1, up_2, obs, obn, hB.t_, fa, fb, na, nb, d1]
          · unfold D_M_unlike
            simp [-Option.bind_some, -Option.bind_none, gf, pf, rd, wt, ck, ln, lt, bz, nq, up_1, up_2, obs, obn, hB1.m_, ia1, ib1, da]
          · rw [hKa.2.1 0 (by decide) (by decide), hF1.2 0 (by decide)]; exact e7
          · rw [hKa.2.2.1 4 (by decide) (by decide) (by decide) (by decide)]; exact f4
        · omega
    · rw [if_neg qb] at fb ib
      refine ⟨-2, M, M, ?_, ?_, hC, h0, hB⟩
      · unfold D_T_unlike
        simp [-Option.bind_some, -Option.bind_none, gf, pf, rd, wt, ck, ln, lt, bz, nq, up_1, up_2, obs, obn, hB.t_, fa, fb, na]
      · unfold D_M_unlike
        simp [-Option.bind_some, -Option.bind_none, gf, pf, rd, wt, ck, ln, lt, bz, nq, up_1, up_2, obs, obn, hB.m_, ia, ib]
  · rw [if_neg qa] at fa ia
    by_cases qb : 0 ≤ b ∧ b < tc
    · rw [if_pos qb] at fb
      refine ⟨-2, M, M, ?_, ?_, hC, h0, hB⟩
      · unfold D_T_unlike
        simp [-Option.bind_some, -Option.bind_none, gf, pf, rd, wt, ck, ln, lt, bz, nq, up_1, up_2, obs, obn, hB.t_, fa, fb]
      · unfold D_M_unlike
        simp [-Option.bind_some, -Option.bind_none, gf, pf, rd, wt, ck, ln, lt, bz, nq, up_1, up_2, obs, obn, hB.m_, ia]
    · rw [if_neg qb] at fb
      refine ⟨-2, M, M, ?_, ?_, hC, h0, hB⟩
      · unfold D_T_unlike
        simp [-Option.bind_some, -Option.bind_none, gf, pf, rd, wt, ck, ln, lt, bz, nq, up_1, up_2, obs, obn, hB.t_, fa, fb]
      · unfold D_M_unlike
        simp [-Option.bind_some, -Option.bind_none, gf, pf, rd, wt, ck, ln, lt, bz, nq, up_1, up_2, obs, obn, hB.m_, ia]
