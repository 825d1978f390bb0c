/-! calls: the place of the row -/
theorem rp51_lp {M : Mem} {L : Int} (hB : SB M) (eL : M.1 62 3 = L) (L40 : L ≤ 40) (T : Int → Int) (T0 : ∀ z, 0 ≤ T z ∧ T z ≤ FAR) (hci : ∀ z, 1 ≤ z → z ≤ 40 → D_M_countIn 62 z M = some (T z, M)) (P : Option (Int × Mem) → Prop) (K : Int → Mem → Option (Int × Mem)) (hP : P (K (ssum (L - 1).toNat (fun i => T (i + 1))) M)) : ∀ (j : Nat) (z : Int) (n1 : Nat), (L - z).toNat = j → j < n1 → 1 ≤ z → z ≤ L → P (L_M_place_51 K 62 n1 (ssum (z - 1).toNat (fun i => T (i + 1))) z M) := by
  have g3 : gf M 62 9 54 3 = some L := by rw [← eL]; simp [gf, hB.m_]
  have ck0 : ck M 62 9 54 = some () := by simp [ck, hB.m_]
  intro j
  induction j with
  | zero =>
    intro z n1 ej hn z1 zL
    cases n1 with
    | zero => omega
    | succ n1 =>
    rw [L_M_place_51]
    dsimp only
    rw [g3, obs, if_pos (by omega), show z = L by omega]
    exact hP
  | succ j ih =>
    intro z n1 ej hn z1 zL
    cases n1 with
    | zero => omega
    | succ n1 =>
    have tz := T0 z
    have sr := ssum_r (k := (z - 1).toNat) (f := fun i => T (i + 1)) (fun i _ _ => (T0 _).1)
    have pl := plusR_ok (M := M) sr.1 sr.2 tz.1 tz.2
    have wz : wr (z + 1) = z + 1 := wr_eq (by omega) (by omega)
    have es : sat (ssum (z - 1).toNat (fun i => T (i + 1)) + T z) = ssum (z + 1 - 1).toNat (fun i => T (i + 1)) := by
      rw [show (z + 1 - 1).toNat = (z - 1).toNat + 1 by omega, ssum_s, show (((z - 1).toNat : Nat) : Int) + 1 = z by omega]
    rw [L_M_place_51]
    dsimp only
    rw [g3, obs, if_neg (by omega), ck0, obs, hci z z1 (by omega), obs]
    dsimp only
    rw [pl, obs, wz, es]
    exact ih (z + 1) n1 (by omega) (by omega) (by omega) (by omega)
theorem RDN.q {n : Int} {rk : Int → Int} {m m' : Mch} {L c : Int} {nm nm' S K : Int → Int} (h : RDN rk (mT m) (mN m) L 0 nm S K) (hT : TRE rk L nm S) (hE : Eqm n rk m m') (hn : ∀ i, 0 ≤ i → i < L → 0 ≤ nm i ∧ nm i < n) (e : ∀ i, 0 ≤ i → i < L → nm' i = nm i) : RDN rk (mT m') (mN m) L 0 nm' S K := by
  intro i i0 i1
  have a := h i i0 i1
  refine ⟨?_, a.2⟩
  rw [a.1]
  have ar := h.arg hT i0 i1 (by omega)
  have s := hn i i0 i1
  unfold kv
  rw [e i i0 i1, hE.2.2 _ _ _ s.1 s.2 ar]
theorem place_ref {M1 M MA M' : Mem} {tc k L r : Int} {S K : Int → Int} (hI0 : IB M tc) (hA : ITP M 1 MA) (hI1 : IB M1 tc) (k0 : 0 ≤ k) (k1 : k < tc) (h7 : M1.1 (100 + 12 * k) 7 = 0) (h12 : M1.1 (102 + 12 * k) 12 = 0) (eL : M1.1 3 4 = L) (L1 : 1 ≤ L) (L40 : L ≤ 40) (hT : TRE (rkC M1) L (M1.1 4) (M1.1 5)) (e0 : M1.1 5 0 = L) (o15 : ∀ a, a < 5 → M1.1 a = M.1 a) (eS : MA.1 5 = M1.1 5) (hTK : TRK (M1.1 1 1) (rkC M1) (mch M1 (102 + 12 * k)) L (M1.1 4) (M1.1 5) K) (er : r = ANS M1 (102 + 12 * k) L (M1.1 4) (M1.1 5) K) (hI : IB M' tc) (o : ∀ a, a ≠ 6 → a ≠ 60 → a ≠ 61 → a ≠ 102 + 12 * k → a ≠ 102 + 12 * k + 6 → M'.1 a = M1.1 a) (of : ∀ j, j ≠ 13 → M'.1 (102 + 12 * k) j = M1.1 (102 + 12 * k) j) (e4 : M'.1 62 4 = tc) : ∃ ME MZ, D_M_place 62 k M' = some (r, MZ) ∧ IB ME tc ∧ (∃ MD, KL 16 MD ME ∧ FR M' MD) ∧ FR ME MZ ∧ SB MZ := by
  have t0 := hI.tc_
  have hB := hI.sb
  have mok := TG.mok (hI1.2.2.2.2.2.2.2.2.2.2 k k0 k1) h7 h12
  have it := isTongue_ok hB (by rw [e4]; exact t0) k
  rw [e4, if_pos ⟨k0, k1⟩] at it
  have ckm : ck M' 62 9 54 = some () := by simp [ck, hB.m_]
  -- the row is a tree
  obtain ⟨r1, MD, dD, er1, sD, oD, hBD, hSD⟩ := isTree_q hI0 hA hI (fun a q => by rw [o a (by omega) (by omega) (by omega) (by omega) (by omega)]; exact o15 a q)
  subst er1
  have fD : FR M' MD := FR.of9 sD (fun a q => oD a (by omega) (by omega))
  have hID := fD.ib hI hBD
  have x3 : M'.1 3 = M1.1 3 := o 3 (by omega) (by omega) (by omega) (by omega) (by omega)
  have x4 : M'.1 4 = M1.1 4 := o 4 (by omega) (by omega) (by omega) (by omega) (by omega)
  have x1 : M'.1 1 = M1.1 1 := o 1 (by omega) (by omega) (by omega) (by omega) (by omega)
  have x2 : M'.1 2 = M1.1 2 := o 2 (by omega) (by omega) (by omega) (by omega) (by omega)
  have y62 : MD.1 62 3 = L := by rw [oD 62 (by decide) (by decide), hI.rw_.2.1, x3, eL]
  have ckD : ck MD 62 9 54 = some () := by simp [ck, hBD.m_]
  have g3D : gf MD 62 9 54 3 = some L := by rw [← y62]; simp [gf, hBD.m_]
  have ekD : rkC MD = rkC M1 := rk_c (by rw [oD 1 (by decide) (by decide), x1]) (by rw [oD 2 (by decide) (by decide), x2])
  have emD : mch MD (102 + 12 * k) = mch M1 (102 + 12 * k) := mch_c2 ekD (by rw [oD _ (by omega) (by omega), of 10 (by decide)]) (by rw [oD _ (by omega) (by omega), of 11 (by decide)]) (fun a _ _ => by rw [oD a (by omega) (by omega), o a (by omega) (by omega) (by omega) (by omega) (by omega)])
  -- its machine
  obtain ⟨r2, ME, dE, hIE, hKL, hres⟩ := load_k_ok (m := 16) hID k0 k1 (by rw [oD _ (by omega) (by omega), o _ (by omega) (by omega) (by omega) (by omega) (by omega)]; exact h7) (Or.inl rfl)
  rcases hres with ⟨-, w⟩ | ⟨w1, w2, w3, w4, w5⟩
  · rw [oD _ (by omega) (by omega), of 12 (by decide)] at w; omega
  subst w1
  rw [ekD, emD, oD 1 (by decide) (by decide), x1] at w4
  have hBE := hIE.sb
  have z1 : ME.1 1 = M1.1 1 := by rw [hKL.2.1 1 (by decide) (by decide), oD 1 (by decide) (by decide), x1]
  have z2 : ME.1 2 = M1.1 2 := by rw [hKL.2.1 2 (by decide) (by decide), oD 2 (by decide) (by decide), x2]
  have ekE : rkC ME = rkC M1 := rk_c z1 z2
  have z3 : ME.1 3 = M1.1 3 := by rw [hKL.2.1 3 (by decide) (by decide), oD 3 (by decide) (by decide), x3]
  have z4 : ME.1 4 = M1.1 4 := by rw [hKL.2.1 4 (by decide) (by decide), oD 4 (by decide) (by decide), x4]
  have hrE := hIE.rw_
  have zL : ME.1 62 3 = L := by rw [hrE.2.1, z3, eL]
  have z64 : ∀ i, 0 ≤ i → i < L → ME.1 64 i = M1.1 4 i := fun i a b => by rw [(hrE.2.2 i a (by rw [z3, eL]; exact b)).1, z4]
  have z92 : ∀ i, 0 ≤ i → i < L → ME.1 92 i = M1.1 5 i := fun i a b => by rw [hKL.2.1 92 (by decide) (by decide), hSD rfl i a (by rw [hI.rw_.2.1, x3, eL]; exact b), eS]
  have k6 : 0 ≤ M1.1 (102 + 12 * k) 10 ∧ M1.1 (102 + 12 * k) 10 ≤ 6 := mok.2.2.1.1
  obtain ⟨MF, dF, sF, oF, hBF, hKF⟩ := classify_ok (S := M1.1 5) (K := K) (c := M1.1 (102 + 12 * k) 10) hBE hIE.sg k6.2 (by rw [zL]; omega) (fun i a b => by rw [zL] at b; rw [z64 i a b, z1]; exact hTK.2.2.1 i a b) (by
    intro i a b
    rw [zL] at b
    rw [z64 i a b, ekE, zL]
    exact hT i a b) (by
    rw [ekE, zL]
    exact hTK.2.1.q (c := 0) hT w4 hTK.2.2.1 z64)
  have fF : FR ME MF := FR.of9 sF (fun a q => oF a (by omega) (by omega))
  have ckE : ck ME 62 9 54 = some () := by simp [ck, hBE.m_]
  have ckF : ck MF 62 9 54 = some () := by simp [ck, hBF.m_]
  have v1 : MF.1 1 = M1.1 1 := by rw [oF 1 (by decide) (by decide), z1]
  have v2 : MF.1 2 = M1.1 2 := by rw [oF 2 (by decide) (by decide), z2]
  have ekF : rkC MF = rkC M1 := rk_c v1 v2
  have emF : mchR MF 16 = mchR ME 16 := by
    unfold mchR
    rw [oF 73 (by decide) (by decide), oF 74 (by decide) (by decide), oF 75 (by decide) (by decide), oF 76 (by decide) (by decide), oF 77 (by decide) (by decide), oF 78 (by decide) (by decide), oF 79 (by decide) (by decide)]
  have hE : Eqm (M1.1 1 1) (rkC M1) (mch M1 (102 + 12 * k)) (mchR MF 16) := by rw [emF]; exact w4
  have hWF : MW (MF.1 1 1) (rkC MF) (mchR MF 16) := by rw [v1, ekF]; exact hE.mw mok.2.2.1
  have hgF : SgE MF := hIE.sg.c (oF 1 (by decide) (by decide)) (oF 2 (by decide) (by decide)) (by rw [oF 62 (by decide) (by decide)]) (oF 63 (by decide) (by decide))
  have hAF : BA MF := fun j a b => by rw [oF 75 (by decide) (by decide)]; exact hIE.2.2.2.2.2.2.2.2.1 j a b
  obtain ⟨MG, dG, hRC⟩ := rcountAll_ok hBF hgF hWF
  have oG : ∀ a, a ≠ 93 → MG.1 a = MF.1 a := hRC.2.1
  have hBG := hRC.2.2.1
  have emG : mchR MG 16 = mchR MF 16 := by
    unfold mchR
    rw [oG 73 (by decide), oG 74 (by decide), oG 75 (by decide), oG 76 (by decide), oG 77 (by decide), oG 78 (by decide), oG 79 (by decide)]
  have ekG : rkC MG = rkC M1 := by rw [rk_c (oG 1 (by decide)) (oG 2 (by decide)), ekF]
  have hr : ∀ s, 0 ≤ rkC M1 s ∧ rkC M1 s ≤ 2 := fun s => hI1.sg.1.rk s
  have fq := fb_q mok hE hAF
  have hG : RSt (M1.1 1 1) (rkC M1) (mch M1 (102 + 12 * k)) MG := by
    refine ⟨⟨hBG, hgF.c (oG 1 (by decide)) (oG 2 (by decide)) (by rw [oG 62 (by decide)]) (oG 63 (by decide)), ?_, fun z c a b c0 c1 => ?_, kC_r, kC_0⟩, by rw [oG 1 (by decide), v1], ekG, by rw [emG]; exact hE, mok.2.2.1⟩
    · rw [oG 1 (by decide), v1, ekG, emG]; exact hE.mw mok.2.2.1
    · rw [oG 73 (by decide)] at c1
      rw [hRC.2.2.2 z c a b c0 c1, v1, ekF]
      unfold kC
      rw [tC_q hE hr]
  have hci : ∀ z, 1 ≤ z → z ≤ 40 → D_M_countIn 62 z MG = some (Tq M1 (102 + 12 * k) z, MG) := by
    intro z z0 z1
    have ci := countIn_ok hBF hWF hAF hRC z0 z1
    rw [ci, v1, ekF]
    have := tot_q (z := z) (F := fb M1 (102 + 12 * k)) (F' := fun c => MF.1 75 (96 + c)) hE hr fq
    unfold Tq
    have x : tot (M1.1 1 1) (rkC M1) (mchR MF 16) (fun c => MF.1 75 (96 + c)) z (MF.1 73 16).toNat = tot (M1.1 1 1) (rkC M1) (mch M1 (102 + 12 * k)) (fb M1 (102 + 12 * k)) z (M1.1 (102 + 12 * k) 10).toNat := this.symm
    rw [x]
  have T0 : ∀ z, 0 ≤ Tq M1 (102 + 12 * k) z ∧ Tq M1 (102 + 12 * k) z ≤ FAR := fun z => sat_r (tot_nn _ _)
  have eLG : MG.1 62 3 = L := by rw [oG 62 (by decide), oF 62 (by decide) (by decide), zL]
  have hRR : RRD L (M1.1 4) (M1.1 5) K MG := ⟨eLG, fun i a b => ⟨by rw [oG 64 (by decide), oF 64 (by decide) (by decide)]; exact z64 i a b, by rw [oG 92 (by decide), oF 92 (by decide) (by decide)]; exact z92 i a b, by rw [oG 91 (by decide)]; exact hKF i a (by rw [zL]; exact b)⟩⟩
  have ckG : ck MG 62 9 54 = some () := by simp [ck, hBG.m_]
  have hAG : BA MG := fun j a b => by rw [oG 75 (by decide)]; exact hAF j a b
  obtain ⟨MH, dH, sH, oH, iH, hBH, atH⟩ := layLast_ok hG hAG
  have cH : RWR 0 1000 [] MG MH := ⟨sH, fun a _ _ q => oH a (by omega), fun k _ _ _ => by rw [oH 62 (by decide)], by rw [oH 64 (by decide)]; rfl, by rw [oH 62 (by decide), ln'_0]; omega, fun i q => iH i q, fun a i _ _ _ => by rw [oH a (by omega)], hBH⟩
  have hH := hG.c cH
  have hRH : RRD L (M1.1 4) (M1.1 5) K MH := ⟨by rw [oH 62 (by decide)]; exact hRR.1, fun i a b => by rw [oH 64 (by decide), oH 92 (by decide), oH 91 (by decide)]; exact hRR.2 i a b⟩
  have sr := ssum_r (k := (L - 1).toNat) (f := fun i => Tq M1 (102 + 12 * k) (i + 1)) (fun i _ _ => (T0 _).1)
  have fin : ∃ MZ, L_M_place_51 (fun w2_51 m51 => (ck m51 62 9 54).bind fun _ => (D_M_layLast 62 0 m51).bind fun x79 => L_M_place_85 (fun w2_85 m85 => some (w2_85, m85)) 62 FU w2_51 0 x79) 62 FU 0 1 MG = some (r, MZ) ∧ FR MG MZ ∧ SB MZ := by
    have X := rp51_lp hBG eLG L40 (Tq M1 (102 + 12 * k)) T0 hci (fun o => ∃ MZ, o = some (r, MZ) ∧ FR MG MZ ∧ SB MZ) (fun w2_51 m51 => (ck m51 62 9 54).bind fun _ => (D_M_layLast 62 0 m51).bind fun x79 => L_M_place_85 (fun w2_85 m85 => some (w2_85, m85)) 62 FU w2_51 0 x79)
    refine X ?_ (L - 1).toNat 1 FU rfl (by have := FU_eq; omega) (Int.le_refl 1) L1
    show ∃ MZ, ((ck MG 62 9 54).bind fun _ => (D_M_layLast 62 0 MG).bind fun x79 => L_M_place_85 (fun w2_85 m85 => some (w2_85, m85)) 62 FU (ssum (L - 1).toNat (fun i => Tq M1 (102 + 12 * k) (i + 1))) 0 x79) = some (r, MZ) ∧ FR MG MZ ∧ SB MZ
    rw [ckG, obs, dH, obs]
    have eF : FU = (FU - L.toNat) + (M1.1 5 0).toNat := by rw [e0]; have := FU_eq; omega
    rw [eF]
    have Y := pl85_lp hTK (fun w2_85 m85 => some (w2_85, m85)) (fun o => ∃ MZ, o = some (r, MZ) ∧ FR MG MZ ∧ SB MZ) 40 (M := MH) (W := fb M1 (102 + 12 * k)) (p := 0) (U := ssum (L - 1).toNat (fun i => Tq M1 (102 + 12 * k) (i + 1))) (FU - L.toNat) hH hRH (fb_k mok) (fun c c0 c1 => by rw [atH c c0 c1]; show MG.1 75 (96 + c) = _; rw [oG 75 (by decide)]; exact (fq c c0 c1).symm) (Int.le_refl 0) (by omega) (by omega) sr.1
    rw [sat_i sr.2] at Y
    refine Y (fun MZ fZ => ?_)
    have hBZ := fZ.2.2.2
    have eLZ : MZ.1 62 3 = L := by rw [fZ.2.1 62 (by decide), oH 62 (by decide), eLG]
    have g3Z : gf MZ 62 9 54 3 = some L := by rw [← eLZ]; simp [gf, hBZ.m_]
    have eG : FU - L.toNat = (FU - L.toNat - 1) + 1 := by have := FU_eq; omega
    rw [eG, L_M_place_85]
    dsimp only
    rw [g3Z, obs, if_pos (by rw [e0]; omega)]
    refine ⟨MZ, by rw [er]; rfl, FR.of9 (by rw [fZ.1, sH]) (fun a q => by rw [fZ.2.1 a (by omega), oH a (by omega)]), hBZ⟩
  obtain ⟨MZ, dZ, fZ, hBZ⟩ := fin
  refine ⟨ME, MZ, ?_, hIE, ⟨MD, hKL, fD⟩, (fF.tr (FR.of9 hRC.1 (fun a q => oG a (by omega)))).tr fZ, hBZ⟩
  unfold D_M_place
  rw [ckm, obs, it, obs]
  dsimp only
  rw [if_neg (by decide), ckm, obs, dD, obs]
  dsimp only
  rw [if_neg (by decide), g3D, obs, if_neg (by omega), ckD, obs, dE, obs]
  dsimp only
  rw [if_pos (Int.le_refl 0), ckE, obs, dF, obs, ckF, obs, dG, obs]
  exact dZ
theorem place_both {L : Nat} {xs : Int → Int} {M : Mem} (h : Inv L xs M) (k : Int) : Both L xs (D_T_place 0 k) (D_M_place 62 k) M := by
  have h0 := h
  obtain ⟨tc, hI, e7, e4, hC⟩ := h
  have hB := hI.sb
  have t0 := hI.tc_
  have hrw := hI.rw_
  have fo := find_ok hB hI.sl e7 t0.2 k
  have it := isTongue_ok hB (by rw [e4]; exact t0) k
  rw [e4] at it
  have ckt : ck M 0 8 8 = some () := by simp [ck, hB.t_]
  have g1 : gf M 0 8 8 1 = some 3 := by simp [gf, hB.t_]
  have ckr : ck M 3 4 5 = some () := by simp [ck, hB.r_]
  by_cases qk : 0 ≤ k ∧ k < tc
  · rw [if_pos qk] at fo it
    have nt : ¬ 100 + 12 * k < 0 := by omega
    obtain ⟨r, MA, d1, hA⟩ := isTree_c hB hI.sg.1 hrw.1
    have hA' := hA
    obtain ⟨s1, o1, hB1, hS, hr1⟩ := hA
    have fA := FR.of5 s1 o1
    have hIA := fA.ib hI hB1
    have a7 : MA.1 0 7 = tc := by rw [o1 0 (by decide)]; exact e7
    have a4 : MA.1 62 4 = tc := by rw [o1 62 (by decide)]; exact e4
    have scA := fA.sc hC
    have itA := isTongue_ok hB1 (by rw [a4]; exact t0) k
    rw [a4, if_pos qk] at itA
    have ckA : ck MA 62 9 54 = some () := by simp [ck, hB1.m_]
    have ckAt : ck MA 0 8 8 = some () := by simp [ck, hB1.t_]
    have g1A : gf MA 0 8 8 1 = some 3 := by simp [gf, hB1.t_]
    have g34A : gf MA 3 4 5 4 = some (M.1 3 4) := by
      have e : MA.1 3 4 = M.1 3 4 := by rw [o1 3 (by decide)]
      rw [← e]; simp [gf, hB1.r_]
    rcases hr1 with ⟨u, v⟩ | ⟨u, v⟩
    · subst u
      by_cases q40 : 40 < M.1 3 4
      · obtain ⟨r', MD, dD, er', sD, oD, hBD, -⟩ := isTree_q hI hA' hIA (fun a q => o1 a (by omega))
        subst er'
        have fD : FR MA MD := FR.of9 sD (fun a q => oD a (by omega) (by omega))
        have g3D : gf MD 62 9 54 3 = some (M.1 3 4) := by
          have e : MD.1 62 3 = M.1 3 4 := by rw [oD 62 (by decide) (by decide), hIA.rw_.2.1, o1 3 (by decide)]
          rw [← e]; simp [gf, hBD.m_]
        refine ⟨-1, MA, MD, ?_, ?_, scA, fD.inv hIA a7 a4 scA hBD, hB1⟩
        · unfold D_T_place
          rw [ckt, obs, fo, obs]
          dsimp only
          rw [if_neg nt, g1, obs, ckr, obs, d1, obs]
          dsimp only
          rw [if_neg (by decide), g1A, obs, g34A, obs, if_pos q40]
        · unfold D_M_place
          rw [ckA, obs, itA, obs]
          dsimp only
          rw [if_neg (by decide), ckA, obs, dD, obs]
          dsimp only
          rw [if_neg (by decide), g3D, obs, if_pos q40]
      · obtain ⟨rl, MB, d2, hIB, hF, er, r01, h7, ho, hs⟩ := isLarge_ok hIA qk.1 qk.2
        have hBB := hIB.sb
        have oB : ∀ a, a < 5 → MB.1 a = M.1 a := fun a q => by rw [hF.2 a (by omega), o1 a (by omega)]
        have b7 : MB.1 0 7 = tc := by rw [hF.2 0 (by decide)]; exact a7
        have b4 : MB.1 62 4 = tc := by rw [hF.2 62 (by decide)]; exact a4
        have scB := hF.sc scA
        rcases r01 with z | z
        · subst z
          have n5 : MB.1 5 = MA.1 5 := hF.2 5 (by decide)
          have ek : rkC MB = rkC M := rk_c (oB 1 (by decide)) (oB 2 (by decide))
          have hT0 := TRE.mk hS v.1 v.2
          have hT : TRE (rkC MB) (M.1 3 4) (MB.1 4) (MB.1 5) := by rw [ek, oB 4 (by decide), n5]; exact hT0
          obtain ⟨ra, MC, d3, K, hTK, era, hIC, sC, oC, fC⟩ := aheadOfRow_ok hIB qk.1 qk.2 h7 er.symm (oB 3 (by decide) ▸ rfl : MB.1 3 4 = M.1 3 4) (by omega) (by omega) hT (by rw [n5]; exact v.2)
          have hBC := hIC.sb
          have c4 : MC.1 62 4 = tc := by rw [oC 62 (by omega) (by omega) (by omega) (by omega) (by omega)]; exact b4
          have c7 : MC.1 0 7 = tc := by rw [oC 0 (by omega) (by omega) (by omega) (by omega) (by omega)]; exact b7
          have scC : SC L xs MC := ⟨by rw [sC]; exact scB.1, by rw [oC _ (by omega) (by omega) (by omega) (by omega) (by omega)]; exact scB.2⟩
          obtain ⟨ME, MZ, dZ, hIE, ⟨MD, hKL, fD⟩, fZ, hBZ⟩ := place_ref (S := MB.1 5) hI hA' hIB qk.1 qk.2 h7 er.symm (oB 3 (by decide) ▸ rfl : MB.1 3 4 = M.1 3 4) (by omega) (by omega) hT (by rw [n5]; exact v.2) oB n5.symm hTK era hIC oC fC c4
          have ts := (hIB.sl.at qk.1 qk.2).2.1
          have e102 : 100 + 12 * k + 2 = 102 + 12 * k := by clear ts; omega
          have g6 : gf MB 0 8 8 6 = some 60 := by simp [gf, hBB.t_]
          have gt1 : gf MB (100 + 12 * k) 7 8 1 = some (102 + 12 * k) := by rw [← e102]; simp [gf, ts]
          have ckc : ck MB 60 0 4 = some () := by simp [ck, hBB.c_]
          have e7E : ME.1 0 7 = tc := by rw [hKL.2.1 0 (by decide) (by decide), fD.2.1 0 (by decide) (by decide) (by decide) (by decide) (by decide)]; exact c7
          have e4E : ME.1 62 4 = tc := by rw [hKL.2.2.1 4 (by decide) (by decide) (by decide) (by decide), fD.2.2 4 (by decide) (by decide) (by decide) (by decide) (by decide) (by decide) (by decide) (by decide) (by decide) (by decide)]; exact c4
          refine ⟨ra, MC, MZ, ?_, dZ, scC, fZ.inv hIE e7E e4E (hKL.sc (fD.sc scC)) hBZ, hBC⟩
          unfold D_T_place
          rw [ckt, obs, fo, obs]
          dsimp only
          rw [if_neg nt, g1, obs, ckr, obs, d1, obs]
          dsimp only
          rw [if_neg (by decide), g1A, obs, g34A, obs, if_neg q40, ckAt, obs, d2, obs]
          dsimp only
          rw [if_pos rfl, g6, obs, gt1, obs, ckc, obs, d3, obs]
        · subst z
          obtain ⟨r', MD, dD, er', sD, oD, hBD, -⟩ := isTree_q hI hA' hIB oB
          subst er'
          have fD : FR MB MD := FR.of9 sD (fun a q => oD a (by omega) (by omega))
          have hID := fD.ib hIB hBD
          have g3D : gf MD 62 9 54 3 = some (M.1 3 4) := by
            have e : MD.1 62 3 = M.1 3 4 := by rw [oD 62 (by decide) (by decide), hIB.rw_.2.1, oB 3 (by decide)]
            rw [← e]; simp [gf, hBD.m_]
          have ckD : ck MD 62 9 54 = some () := by simp [ck, hBD.m_]
          obtain ⟨r2, ME, dE, hIE, hKL, hres⟩ := load_k_ok (m := 16) hID qk.1 qk.2 (by rw [oD _ (by omega) (by omega)]; exact h7) (Or.inl rfl)
          rcases hres with ⟨w1, w2⟩ | ⟨w1, w2, -⟩
          · subst w1
            have itB := isTongue_ok hBB (by rw [b4]; exact t0) k
            rw [b4, if_pos qk] at itB
            have ckB : ck MB 62 9 54 = some () := by simp [ck, hBB.m_]
            refine ⟨-1, MB, ME, ?_, ?_, scB, ⟨tc, hIE, ?_, ?_, hKL.sc (fD.sc scB)⟩, hBB⟩
            · unfold D_T_place
              rw [ckt, obs, fo, obs]
              dsimp only
              rw [if_neg nt, g1, obs, ckr, obs, d1, obs]
              dsimp only
              rw [if_neg (by decide), g1A, obs, g34A, obs, if_neg q40, ckAt, obs, d2, obs]
              dsimp only
              rw [if_neg (by decide)]
            · unfold D_M_place
              rw [ckB, obs, itB, obs]
              dsimp only
              rw [if_neg (by decide), ckB, obs, dD, obs]
              dsimp only
              rw [if_neg (by decide), g3D, obs, if_neg q40, ckD, obs, dE, obs]
              dsimp only
              rw [if_neg (by decide)]
            · rw [hKL.2.1 0 (by decide) (by decide), oD 0 (by decide) (by decide)]; exact b7
            · rw [hKL.2.2.1 4 (by decide) (by decide) (by decide) (by decide), oD 62 (by decide) (by decide)]; exact b4
          · rw [oD _ (by omega) (by omega), ← er] at w2; omega
    · subst u
      obtain ⟨r', MD, dD, er', sD, oD, hBD, -⟩ := isTree_q hI hA' hIA (fun a q => o1 a (by omega))
      subst er'
      have fD : FR MA MD := FR.of9 sD (fun a q => oD a (by omega) (by omega))
      refine ⟨-1, MA, MD, ?_, ?_, scA, fD.inv hIA a7 a4 scA hBD, hB1⟩
      · unfold D_T_place
        rw [ckt, obs, fo, obs]
        dsimp only
        rw [if_neg nt, g1, obs, ckr, obs, d1, obs]
        dsimp only
        rw [if_pos rfl]
      · unfold D_M_place
        rw [ckA, obs, itA, obs]
        dsimp only
        rw [if_neg (by decide), ckA, obs, dD, obs]
        dsimp only
        rw [if_pos rfl]
  · rw [if_neg qk] at fo it
    refine ⟨-1, M, M, ?_, ?_, hC, h0, hB⟩
    · unfold D_T_place
      rw [ckt, obs, fo, obs]
      dsimp only
      rw [if_pos (by decide)]
    · unfold D_M_place
      simp [-Option.bind_some, -Option.bind_none, gf, pf, rd, wt, ck, ln, lt, bz, nq, up_1, up_2, obs, obn, hB.m_, it]
