/-! calls: count -/
theorem cf_q {n : Int} {rk : Int → Int} {m m' : Mch} {t t' : Int → Int → Int} (e : Eqm n rk m m') (hr : ∀ s, 0 ≤ rk s ∧ rk s ≤ 2) (h : ∀ z c, t z c = t' z c) (z c : Int) : cf n rk m t z c = cf n rk m' t' z c := by
  unfold cf
  have eN : mN m' = mN m := e.1.symm
  rw [eN]
  refine sumN_c (fun s s0 s1 => ?_)
  have r := hr s
  by_cases r0 : rk s = 0
  · rw [if_pos r0, if_pos r0, e.2.2 s 0 0 s0 (by omega) (argx (fun w => by omega) (fun w => by omega) (fun _ => rfl) (fun _ => rfl))]
  · rw [if_neg r0, if_neg r0]
    by_cases r1 : rk s = 1
    · rw [if_pos r1, if_pos r1]
      refine sumN_c (fun x x0 x1 => ?_)
      rw [h, e.2.2 s x 0 s0 (by omega) (argx (fun _ => ⟨x0, by omega⟩) (fun w => by omega) (fun w => by omega) (fun _ => rfl))]
    · rw [if_neg r1, if_neg r1]
      refine sumN_c (fun x x0 x1 => sumN_c (fun y y0 y1 => ?_))
      rw [e.2.2 s x y s0 (by omega) (argx (fun _ => ⟨x0, by omega⟩) (fun _ => ⟨y0, by omega⟩) (fun w => by omega) (fun w => by omega))]
      have : sumN (z - 2).toNat (fun i => t (i + 1) x * t (z - 2 - i) y) = sumN (z - 2).toNat (fun i => t' (i + 1) x * t' (z - 2 - i) y) := sumN_c (fun i _ _ => by rw [h, h])
      rw [this]
theorem ctab_q {n : Int} {rk : Int → Int} {m m' : Mch} (e : Eqm n rk m m') (hr : ∀ s, 0 ≤ rk s ∧ rk s ≤ 2) : ∀ (k : Nat) (z c : Int), ctab n rk m k z c = ctab n rk m' k z c := by
  intro k
  induction k with
  | zero => intro z c; rfl
  | succ k ih =>
    intro z c
    show (if z = (k : Int) + 1 then cf n rk m (ctab n rk m k) z c else ctab n rk m k z c) = (if z = (k : Int) + 1 then cf n rk m' (ctab n rk m' k) z c else ctab n rk m' k z c)
    rw [cf_q e hr ih, ih]
theorem tC_q {n : Int} {rk : Int → Int} {m m' : Mch} (e : Eqm n rk m m') (hr : ∀ s, 0 ≤ rk s ∧ rk s ≤ 2) (z c : Int) : tC n rk m z c = tC n rk m' z c := ctab_q e hr 40 z c
theorem CNT.ib' {M M' : Mem} {tc k : Int} (h : CNT M (102 + 12 * k) M') (hI : IB M tc) (k0 : 0 ≤ k) (k1 : k < tc) : IB M' tc := by
  have o : ∀ a, a ≠ 102 + 12 * k → a ≠ 108 + 12 * k → M'.1 a = M.1 a := fun a q r => h.2.1 a q (by omega)
  have c1 := o 1 (by omega) (by omega)
  have c2 := o 2 (by omega) (by omega)
  have ek := rk_c c1 c2
  have em : mch M' (102 + 12 * k) = mch M (102 + 12 * k) := mch_c2 ek (h.2.2.1 10 (by decide)) (h.2.2.1 11 (by decide)) (fun a _ _ => o a (by omega) (by omega))
  refine hI.p k0 k1 h.1 (fun a q r _ => o a q r) h.2.2.1 h.2.2.2.2.1 (fun q => ⟨by rw [c1, ek, em]; exact q.1, Or.inr ⟨h.2.2.2.1, fun z c a b c0 c1' => ?_⟩⟩)
  rw [c1, ek, em]
  rw [h.2.2.1 10 (by decide)] at c1'
  exact h.2.2.2.2.2 z c a b c0 c1'
theorem count_both {L : Nat} {xs : Int → Int} {M : Mem} (h : Inv L xs M) (k z : Int) : Both L xs (D_T_count 0 k z) (D_M_count 62 k z) M := by
  have h0 := h
  obtain ⟨tc, hI, e7, e4, hC⟩ := h
  have hB := hI.sb
  have t0 := hI.tc_
  have fo := find_ok hB hI.sl e7 t0.2 k
  have it := isTongue_ok hB (by rw [e4]; exact t0) k
  rw [e4] at it
  by_cases qk : 0 ≤ k ∧ k < tc
  · rw [if_pos qk] at fo it
    have nt : ¬ 100 + 12 * k < 0 := by omega
    have ii := fun X : Mem => in_ok z 1 40 X
    by_cases qz : 1 ≤ z ∧ z ≤ 40
    · have n1 : ¬ z < 1 := by omega
      have n40 : ¬ 40 < z := by omega
      obtain ⟨r, M1, d1, hI1, hF, er, r01, h7, ho, hs⟩ := isLarge_ok hI qk.1 qk.2
      have hB1 := hI1.sb
      have sc1 := hF.sc hC
      have a7 : M1.1 0 7 = tc := by rw [hF.2 0 (by decide)]; exact e7
      have a4 : M1.1 62 4 = tc := by rw [hF.2 62 (by decide)]; exact e4
      rcases r01 with y | y
      · subst y
        have mok := TG.mok (hI1.2.2.2.2.2.2.2.2.2.2 k qk.1 qk.2) h7 er.symm
        have cv := (hI1.2.2.2.2.2.2.2.2.2.2 k qk.1 qk.2).cv h7 er.symm
        obtain ⟨rt, M2, d2, ert, hCN⟩ := treesOf_ok (z := z) hB1 hI1.sg.1 hI1.2.2.1 mok cv qz.1 qz.2
        have hI2 : IB M2 tc := hCN.ib' hI1 qk.1 qk.2
        have hB2 := hI2.sb
        have o2 : ∀ a, a < 100 → M2.1 a = M1.1 a := fun a q => hCN.2.1 a (by omega) (by omega)
        have o1' : M2.1 1000001 = M1.1 1000001 := hCN.2.1 _ (by omega) (by omega)
        have sc2 : SC L xs M2 := ⟨by rw [hCN.1]; exact sc1.1, by rw [o1']; exact sc1.2⟩
        have b7 : M2.1 0 7 = tc := by rw [o2 0 (by decide)]; exact a7
        have b4 : M2.1 62 4 = tc := by rw [o2 62 (by decide)]; exact a4
        obtain ⟨r', M3, d3, hI3, hKL, hres⟩ := load_k_ok (m := 16) hI2 qk.1 qk.2 (by rw [hCN.2.1 _ (by omega) (by omega)]; exact h7) (Or.inl rfl)
        rcases hres with ⟨u, v⟩ | ⟨u, v, hMo, hE, hWm⟩
        · rw [hCN.2.2.1 12 (by decide), ← er] at v; omega
        · subst u
          have hB3 := hI3.sb
          have n1' : M2.1 1 = M1.1 1 := o2 1 (by decide)
          have ek : rkC M2 = rkC M1 := rk_c n1' (o2 2 (by decide))
          have n3 : M3.1 1 = M1.1 1 := by rw [hKL.2.1 1 (by decide) (by decide)]; exact n1'
          have ek3 : rkC M3 = rkC M1 := by rw [rk_c (hKL.2.1 1 (by decide) (by decide)) (hKL.2.1 2 (by decide) (by decide))]; exact ek
          have em2 : mch M2 (102 + 12 * k) = mch M1 (102 + 12 * k) := mch_c2 ek (hCN.2.2.1 10 (by decide)) (hCN.2.2.1 11 (by decide)) (fun a _ _ => hCN.2.1 a (by omega) (by omega))
          rw [n1', ek, em2] at hE
          have hW3 : MW (M3.1 1 1) (rkC M3) (mchR M3 16) := by rw [n3, ek3]; exact hE.mw mok.2.2.1
          have hA3 : BA M3 := hI3.2.2.2.2.2.2.2.2.1
          obtain ⟨M4, d4, hRC⟩ := rcountAll_ok hB3 hI3.sg hW3
          have ci := countIn_ok hB3 hW3 hA3 hRC qz.1 qz.2
          have hB4 := hRC.2.2.1
          have e73 : M1.1 (102 + 12 * k) 10 = M3.1 73 16 := hE.1
          have k6 : 0 ≤ M1.1 (102 + 12 * k) 10 ∧ M1.1 (102 + 12 * k) 10 ≤ 6 := mok.2.2.1.1
          have ff := mok.2.2.2
          have et : tot (M3.1 1 1) (rkC M3) (mchR M3 16) (fun c => M3.1 75 (96 + c)) z (M3.1 73 16).toNat = tot (M1.1 1 1) (rkC M1) (mch M1 (102 + 12 * k)) (fb M1 (102 + 12 * k)) z (M1.1 (102 + 12 * k) 10).toNat := by
            unfold tot
            rw [← e73, n3, ek3]
            refine sumN_c (fun c c0 c1 => ?_)
            have fi : bt (M1.1 (102 + 12 * k) 11) c ↔ M3.1 75 (96 + c) = 1 := (hE.2.1 c c0 (by show c < M1.1 (102 + 12 * k) 10; omega)).2.2.2.2
            have bg := bt_1 (z := M1.1 (102 + 12 * k) 11) (i := c) ff.1 (by omega) c0 (by omega)
            have fbd : fb M1 (102 + 12 * k) c = iand (ishr (M1.1 (102 + 12 * k) 11) c) 1 := rfl
            rw [fbd]
            by_cases w : M3.1 75 (96 + c) = 1
            · rw [if_pos w, if_pos (bg.mpr (fi.mpr w)), tC_q hE (fun s => hI1.sg.1.rk s)]
            · rw [if_neg w, if_neg (fun u => w (fi.mp (bg.mp u)))]
          rw [et, ← ert] at ci
          have it2 := isTongue_ok hB2 (by rw [b4]; exact t0) k
          rw [b4, if_pos qk] at it2
          have f34 : FR M3 M4 := FR.of9 hRC.1 (fun a q => hRC.2.1 a (by omega))
          have c7 : M3.1 0 7 = tc := by rw [hKL.2.1 0 (by decide) (by decide)]; exact b7
          have c4 : M3.1 62 4 = tc := by rw [hKL.2.2.1 4 (by decide) (by decide) (by decide) (by decide)]; exact b4
          have ts := (hI1.sl.at qk.1 qk.2).2.1
          have e102 : 100 + 12 * k + 2 = 102 + 12 * k := by clear ts; omega
          have i2 := ii M2
          rw [if_pos qz] at i2
          refine ⟨rt, M2, M4, ?_, ?_, sc2, f34.inv hI3 c7 c4 (hKL.sc sc2) hB4, hB2⟩
          · unfold D_T_count
            simp [-Option.bind_some, -Option.bind_none, gf, pf, rd, wt, ck, ln, lt, bz, nq, up_1, up_2, obs, obn, hB.t_, fo, nt, n1, n40, d1, hB1.t_, ts, e102, hB1.c_, d2]
          · unfold D_M_count
            simp [-Option.bind_some, -Option.bind_none, gf, pf, rd, wt, ck, ln, lt, bz, nq, up_1, up_2, obs, obn, hB2.m_, it2, i2, d3, hB3.m_, d4, hB4.m_, ci]
      · subst y
        obtain ⟨r', M3, d3, hI3, hKL, hres⟩ := load_k_ok (m := 16) hI1 qk.1 qk.2 h7 (Or.inl rfl)
        rcases hres with ⟨u, v⟩ | ⟨u, v, -⟩
        · subst u
          have it2 := isTongue_ok hB1 (by rw [a4]; exact t0) k
          rw [a4, if_pos qk] at it2
          have i2 := ii M1
          rw [if_pos qz] at i2
          refine ⟨-1, M1, M3, ?_, ?_, sc1, ⟨tc, hI3, ?_, ?_, hKL.sc sc1⟩, hB1⟩
          · unfold D_T_count
            simp [-Option.bind_some, -Option.bind_none, gf, pf, rd, wt, ck, ln, lt, bz, nq, up_1, up_2, obs, obn, hB.t_, fo, nt, n1, n40, d1]
          · unfold D_M_count
            simp [-Option.bind_some, -Option.bind_none, gf, pf, rd, wt, ck, ln, lt, bz, nq, up_1, up_2, obs, obn, hB1.m_, it2, i2, d3]
          · rw [hKL.2.1 0 (by decide) (by decide)]; exact a7
          · rw [hKL.2.2.1 4 (by decide) (by decide) (by decide) (by decide)]; exact a4
        · rw [← er] at v; omega
    · have i2 := ii M
      rw [if_neg qz] at i2
      refine ⟨-1, M, M, ?_, ?_, hC, h0, hB⟩
      · unfold D_T_count
        by_cases n1 : z < 1
        · simp [-Option.bind_some, -Option.bind_none, gf, pf, rd, wt, ck, ln, lt, bz, nq, up_1, up_2, obs, obn, hB.t_, fo, nt, n1]
        · have n40 : 40 < z := by omega
          simp [-Option.bind_some, -Option.bind_none, gf, pf, rd, wt, ck, ln, lt, bz, nq, up_1, up_2, obs, obn, hB.t_, fo, nt, n1, n40]
      · unfold D_M_count
        simp [-Option.bind_some, -Option.bind_none, gf, pf, rd, wt, ck, ln, lt, bz, nq, up_1, up_2, obs, obn, hB.m_, it, i2]
  · rw [if_neg qk] at fo it
    refine ⟨-1, M, M, ?_, ?_, hC, h0, hB⟩
    · unfold D_T_count
      simp [-Option.bind_some, -Option.bind_none, gf, pf, rd, wt, ck, ln, lt, bz, nq, up_1, up_2, obs, obn, hB.t_, fo]
    · unfold D_M_count
      simp [-Option.bind_some, -Option.bind_none, gf, pf, rd, wt, ck, ln, lt, bz, nq, up_1, up_2, obs, obn, hB.m_, it]
