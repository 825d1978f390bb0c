/-! calls: the tree of a number, the call -/
def Tq (M : Mem) (p z : Int) : Int := sat (tot (M.1 1 1) (rkC M) (mch M p) (fb M p) z (M.1 p 10).toNat)
def WNP (M : Mem) (tc p num r : Int) (M' : Mem) : Prop := (nsr (Tq M p) 50 1 num = none ∧ r = -1 ∧ IB M' tc ∧ CNQ M p M') ∨ ∃ z l c q T Mc, nsr (Tq M p) 50 1 num = some (z, l) ∧ (1 ≤ z ∧ z ≤ 40) ∧ (0 ≤ l ∧ l < FAR) ∧ IB Mc tc ∧ CNQ M p Mc ∧ WT (M.1 1 1) (rkC M) (mch M p) 40 (fb M p) z l c q T ∧ r = ln' T ∧ SETW T Mc M'
theorem fb_w {M : Mem} {p : Int} (hM : MOK M p) : ∀ c, 0 ≤ c → c < M.1 p 10 → fb M p c = 0 ∨ fb M p c = 1 := by
  intro c c0 c1
  have k6 : 0 ≤ M.1 p 10 ∧ M.1 p 10 ≤ 6 := hM.2.2.1.1
  have e : fb M p c = iand (ishr (M.1 p 11) c) 1 := rfl
  have ff := hM.2.2.2
  rcases bt_get (z := M.1 p 11) (i := c) ff.1 (by omega) c0 (by omega) with ⟨b1, b2⟩ | ⟨b1, b2⟩
  · exact Or.inr (by rw [e, b2])
  · exact Or.inl (by rw [e, b2])
theorem fb_k {M : Mem} {p : Int} (hM : MOK M p) : WOK (M.1 p 10) (fb M p) := by
  intro c c0 c1
  rw [FAR_e]
  rcases fb_w hM c c0 c1 with w | w <;> rw [w] <;> decide
theorem writeNumber_ok {M : Mem} {tc k num : Int} (hI : IB M tc) (k0 : 0 ≤ k) (k1 : k < tc) (h7 : M.1 (100 + 12 * k) 7 = 0) (h12 : M.1 (102 + 12 * k) 12 = 0) (nr : 0 ≤ num ∧ num < FAR) : OkV (D_Census_writeNumber 60 (102 + 12 * k) num M) (fun r M' => WNP M tc (102 + 12 * k) num r M') := by
  have tg := hI.2.2.2.2.2.2.2.2.2.2 k k0 k1
  have mok := TG.mok tg h7 h12
  have k6 : 0 ≤ M.1 (102 + 12 * k) 10 ∧ M.1 (102 + 12 * k) 10 ≤ 6 := mok.2.2.1.1
  have T0 : ∀ z, 0 ≤ Tq M (102 + 12 * k) z := fun z => (sat_r (tot_nn _ _)).1
  unfold D_Census_writeNumber
  refine wn_lp k0 k1 h7 h12 (fun o => OkV o (fun r M' => WNP M tc (102 + 12 * k) num r M')) (Tq M (102 + 12 * k)) rfl _ 50 1 num FU M hI (CNQ.rf M _) (Int.le_refl 1) nr (by decide) (by have := FU_eq; omega) (fun e N' hI' hc' => ?_) (fun z l N' e hI' hc' hk => ?_)
  · exact OkV.i (Or.inl ⟨e, rfl, hI', hc'⟩)
  · have fr := nsr_f T0 50 1 num e nr.1
    have mw : MW (M.1 1 1) (rkC M) (mch M (102 + 12 * k)) := mok.2.2.1
    have fk := fb_k mok
    have fs := fin_w (n := M.1 1 1) (rk := rkC M) (m := mch M (102 + 12 * k)) (F := fb M (102 + 12 * k)) k6.1 (fb_w mok) z
    obtain ⟨c, q, T, hT⟩ := WT_ex mw (fun s => hI.sg.1.rk s) hI.sg.1.2.1 40 (fb M (102 + 12 * k)) z l fk fr.1.1 fr.1.2 fr.1.2 fr.2.1.1 (by rw [fs]; exact fr.2.2)
    obtain ⟨c1, ek, em, ef⟩ := hc'.same (by omega)
    have tg' := hI'.2.2.2.2.2.2.2.2.2.2 k k0 k1
    have mok' := TG.mok tg' (by rw [hc'.2.1 _ (by omega) (by omega)]; exact h7) (by rw [hc'.2.2 12 (by decide)]; exact h12)
    have cst : CSt (M.1 1 1) (rkC M) (mch M (102 + 12 * k)) (102 + 12 * k) N' := ⟨⟨hI'.sb, hI'.sg.1, mok', fun z c a b c0 c1' => hk z c a b c0 (by rw [hc'.2.2 10 (by decide)] at c1'; exact c1'), kC_r⟩, by rw [c1], ek, em, by rw [hc'.2.2 10 (by decide)]; rfl⟩
    obtain ⟨r, M', d, er, hS⟩ := whit_ok (p := 102 + 12 * k) cst (by rw [ef]; exact fk) fr.1.2 ⟨fr.2.1.1, by omega⟩ (by rw [ef]; exact hT)
    exact ⟨r, M', d, Or.inr ⟨z, l, c, q, T, N', e, fr.1, ⟨fr.2.1.1, by omega⟩, hI', hc', hT, er, hS⟩⟩
/-- the reference is ready: the machine is loaded and counted -/
theorem ready {M1 M2 : Mem} {tc k : Int} (hI1 : IB M1 tc) (k0 : 0 ≤ k) (k1 : k < tc) (h7 : M1.1 (100 + 12 * k) 7 = 0) (h12 : M1.1 (102 + 12 * k) 12 = 0) (hI2 : IW M2 tc) (e1 : M2.1 1 = M1.1 1) (e2 : M2.1 2 = M1.1 2) (em : mch M2 (102 + 12 * k) = mch M1 (102 + 12 * k)) (g7 : M2.1 (100 + 12 * k) 7 = 0) (g12 : M2.1 (102 + 12 * k) 12 = 0) : ∃ M3 M4, D_M_load 62 k 16 M2 = some (0, M3) ∧ SB M3 ∧ D_M_countAll 62 M3 = some M4 ∧ KL 16 M2 M3 ∧ RCN M3 M4 ∧ BA M4 ∧ RSt (M1.1 1 1) (rkC M1) (mch M1 (102 + 12 * k)) M4 ∧ (∀ c, 0 ≤ c → c < M1.1 (102 + 12 * k) 10 → M4.1 75 (96 + c) = fb M1 (102 + 12 * k) c) ∧ ∀ z, 1 ≤ z → z ≤ 40 → D_M_countIn 62 z M4 = some (Tq M1 (102 + 12 * k) z, M4) := by
  have mok := TG.mok (hI1.2.2.2.2.2.2.2.2.2.2 k k0 k1) h7 h12
  have ek : rkC M2 = rkC M1 := rk_c e1 e2
  obtain ⟨r', M3, d3, hI3, hA3, hKL, hres⟩ := loadw_ok (m := 16) hI2 k0 k1 g7 (Or.inl rfl)
  rcases hres with ⟨-, v⟩ | ⟨u, v, hMo, hE, hWm⟩
  · omega
  · subst u
    have hB3 := hI3.1
    have n3 : M3.1 1 = M1.1 1 := by rw [hKL.2.1 1 (by decide) (by decide)]; exact e1
    have ek3 : rkC M3 = rkC M1 := by rw [rk_c (hKL.2.1 1 (by decide) (by decide)) (hKL.2.1 2 (by decide) (by decide))]; exact ek
    rw [e1, ek, em] at hE
    have hW3 : MW (M3.1 1 1) (rkC M3) (mchR M3 16) := by rw [n3, ek3]; exact hE.mw mok.2.2.1
    obtain ⟨M4, d4, hRC⟩ := rcountAll_ok hB3 hI3.2.1 hW3
    have o : ∀ a, a ≠ 93 → M4.1 a = M3.1 a := hRC.2.1
    have n4 : M4.1 1 = M1.1 1 := by rw [o 1 (by decide)]; exact n3
    have ek4 : rkC M4 = rkC M1 := by rw [rk_c (o 1 (by decide)) (o 2 (by decide))]; exact ek3
    have em4 : mchR M4 16 = mchR M3 16 := by
      unfold mchR
      rw [o 73 (by decide), o 74 (by decide), o 75 (by decide), o 76 (by decide), o 77 (by decide), o 78 (by decide), o 79 (by decide)]
    have hr : ∀ s, 0 ≤ rkC M1 s ∧ rkC M1 s ≤ 2 := fun s => hI1.sg.1.rk s
    have fq := fb_q mok hE hA3
    have e73 : M1.1 (102 + 12 * k) 10 = M3.1 73 16 := hE.1
    have k6 : 0 ≤ M1.1 (102 + 12 * k) 10 ∧ M1.1 (102 + 12 * k) 10 ≤ 6 := mok.2.2.1.1
    refine ⟨M3, M4, d3, hB3, d4, hKL, hRC, fun j a b => by rw [o 75 (by decide)]; exact hA3 j a b, ⟨⟨hRC.2.2.1, hI3.2.1.c (o 1 (by decide)) (o 2 (by decide)) (by rw [o 62 (by decide)]) (o 63 (by decide)), by rw [n4, ek4, em4, ← n3, ← ek3]; exact hW3, fun z c a b c0 c1 => ?_, kC_r, kC_0⟩, by rw [n4], ek4, by rw [em4]; exact hE, mok.2.2.1⟩, fun c c0 c1 => by rw [o 75 (by decide)]; exact (fq c c0 c1).symm, fun z z0 z1 => ?_⟩
    · rw [o 73 (by decide)] at c1
      rw [hRC.2.2.2 z c a b c0 c1, n3, ek3]
      unfold kC
      rw [tC_q hE hr]
    · have ci := countIn_ok hB3 hW3 hA3 hRC z0 z1
      rw [ci, n3, ek3]
      have := tot_q (z := z) (F := fb M1 (102 + 12 * k)) (F' := fun c => M3.1 75 (96 + c)) hE hr fq
      unfold Tq
      have x : tot (M1.1 1 1) (rkC M1) (mchR M3 16) (fun c => M3.1 75 (96 + c)) z (M3.1 73 16).toNat = tot (M1.1 1 1) (rkC M1) (mch M1 (102 + 12 * k)) (fb M1 (102 + 12 * k)) z (M1.1 (102 + 12 * k) 10).toNat := this.symm
      rw [x]
theorem tree_both {L : Nat} {xs : Int → Int} {M : Mem} (h : Inv L xs M) (k num : Int) : Both L xs (D_T_tree 0 k num) (D_M_tree 62 k num) M := by
  have h0 := h
  obtain ⟨tc, hI, e7, e4, hC⟩ := h
  have hB := hI.sb
  have t0 := hI.tc_
  have fo := find_ok hB hI.sl e7 t0.2 k
  have it := isTongue_ok hB (by rw [e4]; exact t0) k
  rw [e4] at it
  have ii := fun X : Mem => in_ok num 0 999999999999999999 X
  have ckt : ck M 0 8 8 = some () := by simp [ck, hB.t_]
  have ckm : ck M 62 9 54 = some () := by simp [ck, hB.m_]
  by_cases qk : 0 ≤ k ∧ k < tc
  · rw [if_pos qk] at fo it
    have nt : ¬ 100 + 12 * k < 0 := by omega
    by_cases qz : 0 ≤ num ∧ num ≤ 999999999999999999
    · have l1 : ¬ lc num 0 < 0 := fun w => by have := lc_lt.mp w; omega
      have l2 : lc num 1000000000000000000 < 0 := lc_lt.mpr (by omega)
      obtain ⟨r, M1, d1, hI1, hF, er, r01, h7, ho, hs⟩ := isLarge_ok hI qk.1 qk.2
      have hB1 := hI1.sb
      have sc1 := hF.sc hC
      have a7 : M1.1 0 7 = tc := by rw [hF.2 0 (by decide)]; exact e7
      have a4 : M1.1 62 4 = tc := by rw [hF.2 62 (by decide)]; exact e4
      rcases r01 with y | y
      · subst y
        have mok := TG.mok (hI1.2.2.2.2.2.2.2.2.2.2 k qk.1 qk.2) h7 er.symm
        obtain ⟨rt, M2, d2, hW⟩ := writeNumber_ok (num := num) hI1 qk.1 qk.2 h7 er.symm ⟨qz.1, by rw [FAR_e]; omega⟩
        -- what the class left behind
        have hw : IW M2 tc ∧ M2.1 1 = M1.1 1 ∧ M2.1 2 = M1.1 2 ∧ mch M2 (102 + 12 * k) = mch M1 (102 + 12 * k) ∧ M2.1 (100 + 12 * k) 7 = 0 ∧ M2.1 (102 + 12 * k) 12 = 0 ∧ SC L xs M2 ∧ M2.1 62 4 = tc ∧ SB M2 := by
          rcases hW with ⟨-, -, w1, w2⟩ | ⟨z, l, c, q, T, Mc, -, -, -, w1, w2, -, -, w3⟩
          · obtain ⟨c1, ek, em, -⟩ := w2.same (by omega)
            exact ⟨w1.iw, c1, w2.2.1 2 (by omega) (by omega), em, by rw [w2.2.1 _ (by omega) (by omega)]; exact h7, by rw [w2.2.2 12 (by decide)]; exact er.symm, ⟨by rw [w2.1]; exact sc1.1, by rw [w2.2.1 _ (by omega) (by omega)]; exact sc1.2⟩, by rw [w2.2.1 62 (by omega) (by omega)]; exact a4, w1.sb⟩
          · obtain ⟨c1, ek, em, -⟩ := w2.same (by omega)
            have o : ∀ a, 100 ≤ a → M2.1 a = Mc.1 a := fun a q => w3.2.1 a (by omega) (by omega) (by omega) (by omega)
            have n1 : M2.1 1 = Mc.1 1 := w3.2.1 1 (by decide) (by decide) (by decide) (by decide)
            have n2 : M2.1 2 = Mc.1 2 := w3.2.1 2 (by decide) (by decide) (by decide) (by decide)
            refine ⟨w1.wf w3.rf w3.2.2.2.2 (fun j a b => by rw [w3.2.1 75 (by decide) (by decide) (by decide) (by decide)]; exact w1.2.2.2.2.2.2.2.2.1 j a b), by rw [n1, c1], by rw [n2]; exact w2.2.1 2 (by omega) (by omega), ?_, by rw [o _ (by omega), w2.2.1 _ (by omega) (by omega)]; exact h7, by rw [o _ (by omega), w2.2.2 12 (by decide)]; exact er.symm, ⟨by rw [w3.1, w2.1]; exact sc1.1, by rw [o _ (by omega), w2.2.1 _ (by omega) (by omega)]; exact sc1.2⟩, by rw [w3.2.1 62 (by decide) (by decide) (by decide) (by decide), w2.2.1 62 (by omega) (by omega)]; exact a4, w3.2.2.2.2⟩
            rw [← em]
            exact mch_c (rk_c n1 n2) (fun a a0 a1 => o a (by omega))
        obtain ⟨hI2, n1, n2, em2, g7, g12, sc2, b4, hB2⟩ := hw
        obtain ⟨M3, M4, d3, hB3, d4, hKL, hRC, hA4, hR4, eF, hci⟩ := ready hI1 qk.1 qk.2 h7 er.symm hI2 n1 n2 em2 g7 g12
        have f24 : RFr M2 M4 := (hKL.rf (by decide)).tr hRC.rf
        have hB4 := hRC.2.2.1
        have it2 := isTongue_ok hB2 (by rw [b4]; exact t0) k
        rw [b4, if_pos qk] at it2
        have i2 := ii M2
        rw [if_pos qz] at i2
        have T0 : ∀ z, 0 ≤ Tq M1 (102 + 12 * k) z ∧ Tq M1 (102 + 12 * k) z ≤ FAR := fun z => sat_r (tot_nn _ _)
        have o4 : ∀ a, a = 3 ∨ a = 4 ∨ a = 64 → M4.1 a = M2.1 a := fun a q => by rw [hRC.2.1 a (by omega), hKL.2.1 a (by omega) (by omega)]
        have o43 : M4.1 62 3 = M2.1 62 3 := by rw [hRC.2.1 62 (by decide), hKL.2.2.1 3 (by decide) (by decide) (by decide) (by decide)]
        have lay : ∃ M5, L_M_tree_45 (fun m45 => some ((-1), m45)) 62 FU num 1 M4 = some (rt, M5) ∧ Inv L xs M5 := by
          refine rt_lp (M := M4) (A := M4) (W := fb M1 (102 + 12 * k)) hR4 hA4 (fb_k mok) eF (fun o => ∃ M5, o = some (rt, M5) ∧ Inv L xs M5) (Tq M1 (102 + 12 * k)) T0 hci _ 50 1 num FU (Int.le_refl 1) ⟨qz.1, by rw [FAR_e]; omega⟩ (by decide) (by have := FU_eq; omega) (fun e => ?_) (fun z l e => ?_)
          · rcases hW with ⟨-, w0, w1, w2⟩ | ⟨z, l, c, q, T, Mc, w0, -⟩
            · refine ⟨M4, by rw [w0], tc, w1.fin f24 hB4 hA4 ?_, by rw [f24.2.1 0 (by omega), w2.2.1 0 (by omega) (by omega)]; exact a7, by rw [f24.2.2.2.1]; exact b4, ⟨by rw [f24.1]; exact sc2.1, by rw [f24.2.1 _ (by omega)]; exact sc2.2⟩⟩
              unfold RW
              rw [o4 3 (by omega), o4 4 (by omega), o4 64 (by omega), o43, f24.2.1 1 (by omega)]
              exact w1.rw_
            · rw [w0] at e; cases e
          · rcases hW with ⟨w0, -⟩ | ⟨z', l', c, q, T, Mc, w0, zr, lr, w1, w2, hT, ert, w3⟩
            · rw [w0] at e; cases e
            · rw [w0] at e
              simp only [Option.some.injEq, Prod.mk.injEq] at e
              obtain ⟨x1, x2⟩ := e
              subst x1 x2
              have ck4 : ck M4 62 9 54 = some () := by simp [ck, hB4.m_]
              obtain ⟨r5, M5, d5, e5, hX⟩ := layTree_ok hR4 hA4 (fb_k mok) eF zr.2 lr hT
              have hA5 : BA M5 := fun j a b => by rw [hX.2.1 75 (by decide) (by decide) (by decide)]; exact hA4 j a b
              have fc5 : RFr Mc M5 := (w3.rf.tr f24).tr hX.rf
              have hlen : ln' T = z' := hT.ar.2.2.2
              refine ⟨M5, by rw [ck4, obs, d5, obs, e5, ert], tc, w1.fin fc5 hX.2.2.2.2.2 hA5 ?_, by rw [fc5.2.1 0 (by omega), w2.2.1 0 (by omega) (by omega)]; exact a7, by rw [hX.rf.2.2.2.1, f24.2.2.2.1]; exact b4, ⟨by rw [hX.1, f24.1]; exact sc2.1, by rw [hX.2.1 _ (by decide) (by decide) (by decide), f24.2.1 _ (by omega)]; exact sc2.2⟩⟩
              refine RW.fin (f := Mc.1 4) (g := M4.1 64) (T := T) ?_ ?_ hX.2.2.2.1 hX.2.2.2.2.1 (by omega) (fun x hx => ?_)
              · rw [hX.2.1 4 (by decide) (by decide) (by decide), o4 4 (by omega)]; exact w3.2.2.1
              · rw [hX.2.1 3 (by decide) (by decide) (by decide), o4 3 (by omega)]; exact w3.2.2.2.1
              · rw [fc5.2.1 1 (by omega), w2.2.1 1 (by omega) (by omega)]; exact WT_mem 40 hT x hx
        obtain ⟨M5, d5, hInv⟩ := lay
        have ts := (hI1.sl.at qk.1 qk.2).2.1
        have e102 : 100 + 12 * k + 2 = 102 + 12 * k := by clear ts; omega
        have ckt1 : ck M1 0 8 8 = some () := by simp [ck, hB1.t_]
        have g6 : gf M1 0 8 8 6 = some 60 := by simp [gf, hB1.t_]
        have gt1 : gf M1 (100 + 12 * k) 7 8 1 = some (102 + 12 * k) := by rw [← e102]; simp [gf, ts]
        have ckc : ck M1 60 0 4 = some () := by simp [ck, hB1.c_]
        have ckm2 : ck M2 62 9 54 = some () := by simp [ck, hB2.m_]
        have ckm3 : ck M3 62 9 54 = some () := by simp [ck, hB3.m_]
        refine ⟨rt, M2, M5, ?_, ?_, sc2, hInv, hB2⟩
        · unfold D_T_tree
          rw [ckt, obs, fo, obs]
          dsimp only
          rw [if_neg nt, if_neg l1, if_pos l2, ckt, obs, d1, obs]
          dsimp only
          rw [if_pos rfl, g6, obs, gt1, obs, ckc, obs, d2, obs]
        · unfold D_M_tree
          rw [ckm2, obs, it2, obs]
          dsimp only
          rw [if_neg (by decide), i2, obs]
          dsimp only
          rw [if_neg (by decide), ckm2, obs, d3, obs]
          dsimp only
          rw [if_pos (Int.le_refl 0), ckm3, obs, d4, obs]
          exact d5
      · subst y
        obtain ⟨r', M3, d3, hI3, hKL, hres⟩ := load_k_ok (m := 16) hI1 qk.1 qk.2 h7 (Or.inl rfl)
        rcases hres with ⟨u, v⟩ | ⟨u, v, -⟩
        · subst u
          have it2 := isTongue_ok hB1 (by rw [a4]; exact t0) k
          rw [a4, if_pos qk] at it2
          have i2 := ii M1
          rw [if_pos qz] at i2
          refine ⟨-5, M1, M3, ?_, ?_, sc1, ⟨tc, hI3, ?_, ?_, hKL.sc sc1⟩, hB1⟩
          · unfold D_T_tree
            rw [ckt, obs, fo, obs]
            dsimp only
            rw [if_neg nt, if_neg l1, if_pos l2, ckt, obs, d1, obs]
            dsimp only
            rw [if_neg (by decide)]
          · unfold D_M_tree
            simp [-Option.bind_some, -Option.bind_none, gf, pf, rd, wt, ck, ln, lt, bz, nq, up_1, up_2, obs, obn, hB1.m_, it2, i2, d3]
          · rw [hKL.2.1 0 (by decide) (by decide)]; exact a7
          · rw [hKL.2.2.1 4 (by decide) (by decide) (by decide) (by decide)]; exact a4
        · rw [← er] at v; omega
    · have i2 := ii M
      rw [if_neg qz] at i2
      refine ⟨-2, M, M, ?_, ?_, hC, h0, hB⟩
      · unfold D_T_tree
        rw [ckt, obs, fo, obs]
        dsimp only
        rw [if_neg nt]
        by_cases l1 : lc num 0 < 0
        · rw [if_pos l1]
        · rw [if_neg l1, if_neg (fun w => by have := lc_lt.mp w; have : ¬ num < 0 := fun u => l1 (lc_lt.mpr u); omega)]
      · unfold D_M_tree
        simp [-Option.bind_some, -Option.bind_none, gf, pf, rd, wt, ck, ln, lt, bz, nq, up_1, up_2, obs, obn, hB.m_, it, i2]
  · rw [if_neg qk] at fo it
    refine ⟨-2, M, M, ?_, ?_, hC, h0, hB⟩
    · unfold D_T_tree
      rw [ckt, obs, fo, obs]
      dsimp only
      rw [if_pos (by decide)]
    · unfold D_M_tree
      simp [-Option.bind_some, -Option.bind_none, gf, pf, rd, wt, ck, ln, lt, bz, nq, up_1, up_2, obs, obn, hB.m_, it]
