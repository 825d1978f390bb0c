/-! calls: the least tree -/
/-- the reference's part of the invariant, the row aside -/
def IW (M : Mem) (tc : Int) : Prop := SB M ∧ SgE M ∧ BA M ∧ (0 ≤ tc ∧ tc ≤ 16) ∧ ∀ k, 0 ≤ k → k < tc → TG M k
theorem IB.iw {M : Mem} {tc : Int} (h : IB M tc) : IW M tc := ⟨h.sb, h.sg, h.2.2.2.2.2.2.2.2.1, h.tc_, h.2.2.2.2.2.2.2.2.2.2⟩
theorem KL.sb {m : Int} {M M' : Mem} (h : KL m M M') (hB : SB M) : SB M' := SB_c hB h.1 (fun a k s => by
  by_cases e : a = 62
  · subst e
    unfold stp at s
    exact h.2.2.1 k (by omega) (by omega) (by omega) (by omega)
  · rw [h.2.1 a e (by unfold stp at s; omega)])
theorem KL.iw {m tc : Int} {M M' : Mem} (h : KL m M M') (hI : IW M tc) (hm : tc ≤ m) (hA : BA M') : IW M' tc := by
  have hB := h.sb hI.1
  obtain ⟨h2, ho, hf, h73, h74, h75⟩ := h
  have c1 : M'.1 1 = M.1 1 := ho 1 (by decide) (by decide)
  have c2 : M'.1 2 = M.1 2 := ho 2 (by decide) (by decide)
  refine ⟨hB, hI.2.1.c c1 c2 (hf 0 (by decide) (by decide) (by decide) (by decide)) (ho 63 (by decide) (by decide)), hA, hI.2.2.2.1, fun j j0 j1 => ?_⟩
  exact TG.c ⟨fun a a0 a1 => ⟨ho a (by omega) (by omega), by rw [h2]⟩, by rw [c1], rk_c c1 c2, fun a a0 a1 => by rw [ho a (by omega) (by omega)], fun a i a0 a1 _ _ => by rw [ho a (by omega) (by omega)], h73 j (by omega), fun i i0 i1 => h74 _ (by omega), fun a c a0 a1 c0 c1 => h75 a _ a0 a1 (by omega)⟩ hI.2.1.1.2.1 (hI.2.2.2.2 j j0 j1)
theorem loadw_ok {M : Mem} {tc k m : Int} (hI : IW M tc) (k0 : 0 ≤ k) (k1 : k < tc) (h7 : M.1 (100 + 12 * k) 7 = 0) (hm : m = 16 ∨ m = 17) : OkV (D_M_load 62 k m M) (fun r M' => IW M' tc ∧ LDR M k m r M') := by
  have t16 := hI.2.2.2.1
  obtain ⟨r, M', e, hA', hKL, hres⟩ := load_raw (m := m) hI.1 hI.2.1 hI.2.2.1 (hI.2.2.2.2 k k0 k1) k0 (by omega) h7 hm
  exact ⟨r, M', e, hKL.iw hI (by omega) hA', hA', hKL, hres⟩
/-- what the row and the spare machines may change -/
def RFr (M M' : Mem) : Prop := M'.2 = M.2 ∧ (∀ a, a < 3 ∨ a = 7 ∨ (10 ≤ a ∧ a < 50) ∨ a = 63 ∨ (65 ≤ a ∧ a ≤ 72) ∨ 100 ≤ a → M'.1 a = M.1 a) ∧ M'.1 62 0 = M.1 62 0 ∧ M'.1 62 4 = M.1 62 4 ∧ (∀ k, k < 16 → M'.1 73 k = M.1 73 k) ∧ (∀ k, k < 3456 → M'.1 74 k = M.1 74 k) ∧ ∀ a k, 75 ≤ a → a ≤ 79 → k < 96 → M'.1 a k = M.1 a k
theorem RFr.rf (M : Mem) : RFr M M := ⟨rfl, fun _ _ => rfl, rfl, rfl, fun _ _ => rfl, fun _ _ => rfl, fun _ _ _ _ _ => rfl⟩
theorem RFr.tr {M M' M'' : Mem} (h : RFr M M') (h' : RFr M' M'') : RFr M M'' := ⟨h'.1.trans h.1, fun a q => (h'.2.1 a q).trans (h.2.1 a q), h'.2.2.1.trans h.2.2.1, h'.2.2.2.1.trans h.2.2.2.1, fun k q => (h'.2.2.2.2.1 k q).trans (h.2.2.2.2.1 k q), fun k q => (h'.2.2.2.2.2.1 k q).trans (h.2.2.2.2.2.1 k q), fun a k q r s => (h'.2.2.2.2.2.2 a k q r s).trans (h.2.2.2.2.2.2 a k q r s)⟩
theorem KL.rf {m : Int} {M M' : Mem} (h : KL m M M') (hm : 16 ≤ m) : RFr M M' := ⟨h.1, fun a q => h.2.1 a (by omega) (by omega), h.2.2.1 0 (by decide) (by decide) (by decide) (by decide), h.2.2.1 4 (by decide) (by decide) (by decide) (by decide), fun k q => h.2.2.2.1 k (by omega), fun k q => h.2.2.2.2.1 k (by omega), fun a k q r s => h.2.2.2.2.2 a k q r (by omega)⟩
theorem SETR.rf {T : List Int} {M M' : Mem} (h : SETR T M M') : RFr M M' := by
  have o : ∀ a, a ≠ 3 → a ≠ 4 → M'.1 a = M.1 a := h.2.1
  have o62 := o 62 (by decide) (by decide)
  exact ⟨h.1, fun a q => o a (by omega) (by omega), by rw [o62], by rw [o62], fun k _ => by rw [o 73 (by decide) (by decide)], fun k _ => by rw [o 74 (by decide) (by decide)], fun a k q r _ => by rw [o a (by omega) (by omega)]⟩
theorem RFr.of {M M' : Mem} (h2 : M'.2 = M.2) (o : ∀ a, a ≠ 62 → a ≠ 64 → a ≠ 90 → M'.1 a = M.1 a) (f : ∀ k, k ≠ 3 → M'.1 62 k = M.1 62 k) : RFr M M' := ⟨h2, fun a q => o a (by omega) (by omega) (by omega), f 0 (by decide), f 4 (by decide), fun k _ => by rw [o 73 (by decide) (by decide) (by decide)], fun k _ => by rw [o 74 (by decide) (by decide) (by decide)], fun a k q r _ => by rw [o a (by omega) (by omega) (by omega)]⟩
theorem RFr.tg {M M' : Mem} {k : Int} (f : RFr M M') (k0 : 0 ≤ k) (k1 : k < 16) (n6 : M.1 1 1 ≤ 6) (h : TG M k) : TG M' k := by
  obtain ⟨h2, ho, f0, f4, h73, h74, h75⟩ := f
  have c1 : M'.1 1 = M.1 1 := ho 1 (by omega)
  have c2 : M'.1 2 = M.1 2 := ho 2 (by omega)
  exact TG.c ⟨fun a a0 a1 => ⟨ho a (by omega), by rw [h2]⟩, by rw [c1], rk_c c1 c2, fun a a0 a1 => by rw [ho a (by omega)], fun a i a0 a1 _ _ => by rw [ho a (by omega)], h73 k (by omega), fun i i0 i1 => h74 _ (by omega), fun a c a0 a1 c0 c1 => h75 a _ a0 a1 (by omega)⟩ n6 h
theorem IB.fin {M M' : Mem} {tc : Int} (h : IB M tc) (f : RFr M M') (hB : SB M') (hA : BA M') (hr : RW M') : IB M' tc := by
  have f' := f
  obtain ⟨h2, ho, f0, f4, h73, h74, h75⟩ := f
  have c1 : M'.1 1 = M.1 1 := ho 1 (by omega)
  have c2 : M'.1 2 = M.1 2 := ho 2 (by omega)
  have t0 := h.tc_
  have l10 : ∀ a, 10 ≤ a → a < 50 → M'.1 a = M.1 a := fun a _ _ => ho a (by omega)
  refine ⟨hB, h.sg.c c1 c2 f0 (ho 63 (by omega)), h.2.2.1.c c1 c2, hr, t0, h.sl.c (Int.le_refl _) h2 (ho 7 (by omega)) (fun a _ _ _ k _ => by rw [ho a (by omega)]) (fun a _ _ _ k _ => by rw [ho a (by omega)]), h.2.2.2.2.2.2.1.c l10, h.2.2.2.2.2.2.2.1.c l10, hA, fun j a b => by rw [ho 65 (by omega)]; exact h.2.2.2.2.2.2.2.2.2.1 j a b, fun j j0 j1 => f'.tg j0 (by omega) h.sg.1.2.1 (h.2.2.2.2.2.2.2.2.2.2 j j0 j1)⟩
theorem IB.wset {T : List Int} {M M' : Mem} {tc : Int} (h : IB M tc) (s : SETR T M M') : IW M' tc := by
  have o : ∀ a, a ≠ 3 → a ≠ 4 → M'.1 a = M.1 a := s.2.1
  have t0 := h.tc_
  refine ⟨s.2.2.2.2.2, h.sg.c (o 1 (by decide) (by decide)) (o 2 (by decide) (by decide)) (by rw [o 62 (by decide) (by decide)]) (o 63 (by decide) (by decide)), fun j a b => by rw [o 75 (by decide) (by decide)]; exact h.2.2.2.2.2.2.2.2.1 j a b, t0, fun j j0 j1 => s.rf.tg j0 (by omega) h.sg.1.2.1 (h.2.2.2.2.2.2.2.2.2.2 j j0 j1)⟩
theorem RW.fin {M' : Mem} {T : List Int} {f g : Int → Int} (e4 : M'.1 4 = wq f 0 T) (e34 : M'.1 3 4 = ln' T) (e64 : M'.1 64 = wq g 0 T) (e3 : M'.1 62 3 = ln' T) (l : ln' T ≤ 120) (hT : ∀ x, x ∈ T → 0 ≤ x ∧ x < M'.1 1 1) : RW M' := by
  refine ⟨⟨by rw [e34]; exact ln'_nn T, by rw [e34]; exact l⟩, by rw [e3, e34], fun i a b => ?_⟩
  rw [e34] at b
  have w := wq_in T f g 0 i a (by omega)
  rw [e64, e4]
  exact ⟨w.1.symm, hT _ w.2⟩
theorem HD.q {n : Int} {rk : Int → Int} {m m' : Mch} (h : HD n rk m) (e : Eqm n rk m m') : HD n rk m' := by
  intro c a b
  have b' : c < mN m := by rw [e.1]; exact b
  have hc := h c a b'
  have ec := e.2.1 c a b'
  rw [← ec.2.1, ← ec.2.2.1, ← ec.2.2.2.1]
  exact hc
/-- both sides lay the least tree: from the class's row to the reference's -/
theorem lay_both {L : Nat} {xs : Int → Int} {M1 M2 M3 : Mem} {tc p m r : Int} (hI1 : IB M1 tc) (e7 : M1.1 0 7 = tc) (e4 : M1.1 62 4 = tc) (hC : SC L xs M1) (hm : 16 ≤ m ∧ m ≤ 18) (hM : MOK M1 p) (hH : HD (M1.1 1 1) (rkC M1) (mch M1 p)) (hW : WLP M1 p r M2) (f : RFr M2 M3) (o3 : ∀ a, a = 3 ∨ a = 4 ∨ a = 64 → M3.1 a = M2.1 a) (o62 : M3.1 62 3 = M2.1 62 3) (hB3 : SB M3) (hA3 : BA M3) (hE : Eqm (M1.1 1 1) (rkC M1) (mch M1 p) (mchR M3 m)) : ∃ M4, D_M_layFirst 62 m M3 = some (r, M4) ∧ Inv L xs M4 := by
  have hf2 : RFr M1 M2 := by
    rcases hW with ⟨-, w, -⟩ | ⟨c, -, -, w⟩
    · rw [w]; exact RFr.rf M1
    · exact w.rf
  have f13 := hf2.tr f
  have c1 : M3.1 1 = M1.1 1 := f13.2.1 1 (by omega)
  have c2 : M3.1 2 = M1.1 2 := f13.2.1 2 (by omega)
  have ek : rkC M3 = rkC M1 := rk_c c1 c2
  have hg3 : SgE M3 := hI1.sg.c c1 c2 f13.2.2.1 (f13.2.1 63 (by omega))
  have k6 : 0 ≤ M1.1 p 10 ∧ M1.1 p 10 ≤ 6 := hM.2.2.1.1
  have eN : M1.1 p 10 = M3.1 73 m := hE.1
  obtain ⟨r', M4, d4, hL⟩ := layFirst_ok (m := m) hB3 hg3 ⟨by omega, hm.2⟩ (by rw [c1, ek]; exact hH.q hE) (by omega) hA3
  have sc3 : SC L xs M3 := ⟨by rw [f13.1]; exact hC.1, by rw [f13.2.1 _ (by omega)]; exact hC.2⟩
  rcases hW with ⟨w1, w2, w3⟩ | ⟨c, w1, w2, w3⟩
  · rcases hL with ⟨u1, u2, u3⟩ | ⟨c', u1, u2, -⟩
    · subst u2
      refine ⟨M4, by rw [d4, u1, w1], tc, hI1.fin f13 hB3 hA3 ?_, by rw [f13.2.1 0 (by omega)]; exact e7, by rw [f13.2.2.2.1]; exact e4, sc3⟩
      subst w2
      unfold RW
      rw [o3 3 (by omega), o3 4 (by omega), o3 64 (by omega), o62, c1]
      exact hI1.rw_
    · have := u1.1
      have q : c' < mN (mch M1 p) := by rw [hE.1]; exact this.2
      exact absurd ((hE.2.1 c' this.1 q).2.2.2.2.mpr u1.2.1) (w3 c' this.1 q)
  · rcases hL with ⟨u1, u2, u3⟩ | ⟨c', u1, u2, u3, u4, u5, u6, u7, u8⟩
    · have := w1.1
      exact absurd ((hE.2.1 c this.1 this.2).2.2.2.2.mp w1.2.1) (u3 c this.1 (by rw [← eN]; exact this.2))
    · have ec := FF.u hE w1 u1
      subst ec
      have eT : fst_ (rkC M3) (mchR M3 m) 6 c = fst_ (rkC M1) (mch M1 p) 6 c := by rw [ek]; exact fst_q hH hE 6 c w1.1.1 w1.1.2
      rw [eT] at u2 u6 u7
      have f34 : RFr M3 M4 := RFr.of u3 u4 u5
      have f14 := f13.tr f34
      have hA4 : BA M4 := fun j a b => by rw [u4 75 (by decide) (by decide) (by decide)]; exact hA3 j a b
      refine ⟨M4, by rw [d4, u2, w2], tc, hI1.fin f14 u8 hA4 ?_, by rw [f14.2.1 0 (by omega)]; exact e7, by rw [f14.2.2.2.1]; exact e4, ⟨by rw [f14.1]; exact hC.1, by rw [f14.2.1 _ (by omega)]; exact hC.2⟩⟩
      refine RW.fin (f := M1.1 4) (g := M3.1 64) (T := fst_ (rkC M1) (mch M1 p) 6 c) ?_ ?_ u6 u7 (by have := fst_63 (rkC M1) (mch M1 p) c; omega) (fun x hx => ?_)
      · rw [u4 4 (by decide) (by decide) (by decide), o3 4 (by omega)]; exact w3.2.2.2.1
      · rw [u4 3 (by decide) (by decide) (by decide), o3 3 (by omega)]; exact w3.2.2.2.2.1
      · rw [f14.2.1 1 (by omega)]; exact fst_mem hH 6 c w1.1.1 w1.1.2 x hx
theorem least_both {L : Nat} {xs : Int → Int} {M : Mem} (h : Inv L xs M) (k : Int) : Both L xs (D_T_least 0 k) (D_M_least 62 k) M := by
  have h0 := h
  obtain ⟨tc, hI, e7, e4, hC⟩ := h
  have hB := hI.sb
  have t0 := hI.tc_
  have fo := find_ok hB hI.sl e7 t0.2 k
  have it := isTongue_ok hB (by rw [e4]; exact t0) k
  rw [e4] at it
  by_cases qk : 0 ≤ k ∧ k < tc
  · rw [if_pos qk] at fo it
    have nt : ¬ 100 + 12 * k < 0 := by omega
    have e102 : 100 + 12 * k + 2 = 102 + 12 * k := by omega
    obtain ⟨r, M1, d1, hI1, hF, er, r01, h7, ho, hs⟩ := isLarge_ok hI qk.1 qk.2
    have hB1 := hI1.sb
    have sc1 := hF.sc hC
    have a7 : M1.1 0 7 = tc := by rw [hF.2 0 (by decide)]; exact e7
    have a4 : M1.1 62 4 = tc := by rw [hF.2 62 (by decide)]; exact e4
    rcases r01 with z | z
    · subst z
      have mok := TG.mok (hI1.2.2.2.2.2.2.2.2.2.2 k qk.1 qk.2) h7 er.symm
      have cv := (hI1.2.2.2.2.2.2.2.2.2.2 k qk.1 qk.2).cv h7 er.symm
      have hH := cv.1.hd
      obtain ⟨rw', M2, d2, hW⟩ := writeLeast_ok (p := 102 + 12 * k) hB1 hI1.sg.1 mok hH
      have hw : IW M2 tc ∧ RFr M1 M2 ∧ SC L xs M2 := by
        rcases hW with ⟨-, w, -⟩ | ⟨c, -, -, w⟩
        · rw [w]; exact ⟨hI1.iw, RFr.rf M1, sc1⟩
        · exact ⟨hI1.wset w, w.rf, ⟨by rw [w.1]; exact sc1.1, by rw [w.2.1 _ (by decide) (by decide)]; exact sc1.2⟩⟩
      obtain ⟨hI2, f12, sc2⟩ := hw
      have hB2 := hI2.1
      have p2 : ∀ a, 100 ≤ a → M2.1 a = M1.1 a := fun a q => f12.2.1 a (by omega)
      obtain ⟨r', M3, d3, hI3, hA3, hKL, hres⟩ := loadw_ok (m := 16) hI2 qk.1 qk.2 (by rw [p2 _ (by omega)]; exact h7) (Or.inl rfl)
      have hB3 := hI3.1
      have n1 : M2.1 1 = M1.1 1 := f12.2.1 1 (by omega)
      have ek : rkC M2 = rkC M1 := rk_c n1 (f12.2.1 2 (by omega))
      rcases hres with ⟨u, v⟩ | ⟨u, v, hMo, hE, hWm⟩
      · rw [p2 _ (by omega), ← er] at v; omega
      · subst u
        rw [n1, ek, mch_c ek (fun a a0 a1 => p2 a (by omega))] at hE
        obtain ⟨M4, d4, hInv⟩ := lay_both (m := 16) hI1 a7 a4 sc1 (by decide) mok hH hW (hKL.rf (by decide)) (fun a q => hKL.2.1 a (by omega) (by omega)) (hKL.2.2.1 3 (by decide) (by decide) (by decide) (by decide)) hB3 hA3 hE
        have it2 := isTongue_ok hB2 (by rw [f12.2.2.2.1, a4]; exact t0) k
        rw [f12.2.2.2.1, a4, if_pos qk] at it2
        have ts := (hI1.sl.at qk.1 qk.2).2.1
        refine ⟨rw', M2, M4, ?_, ?_, sc2, hInv, hB2⟩
        · unfold D_T_least
          simp [-Option.bind_some, -Option.bind_none, gf, pf, rd, wt, ck, ln, lt, bz, nq, up_1, up_2, obs, obn, hB.t_, fo, nt, d1, hB1.t_, ts, e102, d2]
        · unfold D_M_least
          simp [-Option.bind_some, -Option.bind_none, gf, pf, rd, wt, ck, ln, lt, bz, nq, up_1, up_2, obs, obn, hB2.m_, it2, d3, hB3.m_, d4]
    · subst z
      obtain ⟨r', M3, d3, hI3, hKL, hres⟩ := load_k_ok (m := 16) hI1 qk.1 qk.2 h7 (Or.inl rfl)
      rcases hres with ⟨u, v⟩ | ⟨u, v, -⟩
      · subst u
        have it2 := isTongue_ok hB1 (by rw [a4]; exact t0) k
        rw [a4, if_pos qk] at it2
        refine ⟨-5, M1, M3, ?_, ?_, sc1, ⟨tc, hI3, ?_, ?_, hKL.sc sc1⟩, hB1⟩
        · unfold D_T_least
          simp [-Option.bind_some, -Option.bind_none, gf, pf, rd, wt, ck, ln, lt, bz, nq, up_1, up_2, obs, obn, hB.t_, fo, nt, d1]
        · unfold D_M_least
          simp [-Option.bind_some, -Option.bind_none, gf, pf, rd, wt, ck, ln, lt, bz, nq, up_1, up_2, obs, obn, hB1.m_, it2, d3]
        · rw [hKL.2.1 0 (by decide) (by decide)]; exact a7
        · rw [hKL.2.2.1 4 (by decide) (by decide) (by decide) (by decide)]; exact a4
      · rw [← er] at v; omega
  · rw [if_neg qk] at fo it
    refine ⟨-2, M, M, ?_, ?_, hC, h0, hB⟩
    · unfold D_T_least
      simp [-Option.bind_some, -Option.bind_none, gf, pf, rd, wt, ck, ln, lt, bz, nq, up_1, up_2, obs, obn, hB.t_, fo]
    · unfold D_M_least
      simp [-Option.bind_some, -Option.bind_none, gf, pf, rd, wt, ck, ln, lt, bz, nq, up_1, up_2, obs, obn, hB.m_, it]
