/-! calls: signs and rows -/
theorem in_ok (a lo hi : Int) (M : Mem) : D_M_in a lo hi M = some (if lo ≤ a ∧ a ≤ hi then 1 else 0, M) := by
  unfold D_M_in
  simp only [lc_lt, lc_gt]
  by_cases q : a < lo
  · rw [if_pos q, if_neg (fun w => by omega)]
  · rw [if_neg q]
    by_cases q2 : hi < a
    · rw [if_pos q2, if_neg (fun w => by omega)]
    · rw [if_neg q2, if_pos (by omega)]
theorem isSign_ok {M : Mem} (hB : SB M) (h : 0 ≤ M.1 62 0 ∧ M.1 62 0 ≤ 6) (s : Int) : D_M_isSign 62 s M = some (if 0 ≤ s ∧ s < M.1 62 0 then 1 else 0, M) := by
  have e1 : wr (M.1 62 0 - 1) = M.1 62 0 - 1 := wr_eq (by omega) (by omega)
  unfold D_M_isSign
  by_cases q : 0 ≤ s ∧ s < M.1 62 0
  · have w : D_M_in s 0 (M.1 62 0 - 1) M = some (1, M) := by rw [in_ok, if_pos (by omega)]
    rw [if_pos q]
    simp [-Option.bind_some, -Option.bind_none, gf, pf, rd, wt, ck, ln, lt, bz, nq, up_1, up_2, obs, obn, hB.m_, e1, w]
  · have w : D_M_in s 0 (M.1 62 0 - 1) M = some (0, M) := by rw [in_ok, if_neg (by omega)]
    rw [if_neg q]
    simp [-Option.bind_some, -Option.bind_none, gf, pf, rd, wt, ck, ln, lt, bz, nq, up_1, up_2, obs, obn, hB.m_, e1, w]
theorem isTongue_ok {M : Mem} (hB : SB M) (h : 0 ≤ M.1 62 4 ∧ M.1 62 4 ≤ 16) (s : Int) : D_M_isTongue 62 s M = some (if 0 ≤ s ∧ s < M.1 62 4 then 1 else 0, M) := by
  have e1 : wr (M.1 62 4 - 1) = M.1 62 4 - 1 := wr_eq (by omega) (by omega)
  unfold D_M_isTongue
  by_cases q : 0 ≤ s ∧ s < M.1 62 4
  · have w : D_M_in s 0 (M.1 62 4 - 1) M = some (1, M) := by rw [in_ok, if_pos (by omega)]
    rw [if_pos q]
    simp [-Option.bind_some, -Option.bind_none, gf, pf, rd, wt, ck, ln, lt, bz, nq, up_1, up_2, obs, obn, hB.m_, e1, w]
  · have w : D_M_in s 0 (M.1 62 4 - 1) M = some (0, M) := by rw [in_ok, if_neg (by omega)]
    rw [if_neg q]
    simp [-Option.bind_some, -Option.bind_none, gf, pf, rd, wt, ck, ln, lt, bz, nq, up_1, up_2, obs, obn, hB.m_, e1, w]
theorem SL.at {M : Mem} {tc : Int} (h : SL M tc) {k : Int} (k0 : 0 ≤ k) (k1 : k < tc) : M.1 7 k = 100 + 12 * k ∧ TS M (100 + 12 * k) ∧ MS M (102 + 12 * k) := by
  obtain ⟨sc, a, b, c, d, e⟩ := h
  exact d k k0 (by omega)
theorem find_ok {M : Mem} {tc : Int} (hB : SB M) (hS : SL M tc) (e7 : M.1 0 7 = tc) (t16 : tc ≤ 16) (a : Int) : D_T_find 0 a M = some (if 0 ≤ a ∧ a < tc then 100 + 12 * a else -1, M) := by
  unfold D_T_find
  by_cases q0 : a < 0
  · rw [if_neg (show ¬ (0 ≤ a ∧ a < tc) by omega)]
    simp [-Option.bind_some, -Option.bind_none, gf, pf, rd, wt, ck, ln, lt, bz, nq, up_1, up_2, obs, obn, q0]
  · by_cases q1 : tc ≤ a
    · rw [if_neg (show ¬ (0 ≤ a ∧ a < tc) by omega)]
      simp [-Option.bind_some, -Option.bind_none, gf, pf, rd, wt, ck, ln, lt, bz, nq, up_1, up_2, obs, obn, q0, hB.t_, e7, q1]
    · have q2 : ¬ 16 ≤ a := by omega
      have h0 : 0 ≤ a := by omega
      have h1 : a < 16 := by omega
      have w := (hS.at h0 (by omega)).1
      rw [if_pos (show 0 ≤ a ∧ a < tc by omega)]
      simp [-Option.bind_some, -Option.bind_none, gf, pf, rd, wt, ck, ln, lt, bz, nq, up_1, up_2, obs, obn, q0, hB.t_, e7, q1, q2, h0, h1, w]
theorem SL.c {M M' : Mem} {tc tc' : Int} (h : SL M tc) (l : tc' ≤ tc) (e2 : M'.2 = M.2) (e7 : M'.1 7 = M.1 7) (es : ∀ a, 100 ≤ a → a < 300 → (a - 100) % 12 = 0 → ∀ k, k < 3 → M'.1 a k = M.1 a k) (em : ∀ a, 100 ≤ a → a < 300 → (a - 102) % 12 = 0 → ∀ k, k < 10 → M'.1 a k = M.1 a k) : SL M' tc' := by
  obtain ⟨sc, a, b, c, d, e⟩ := h
  refine ⟨sc, by omega, b, by rw [e2]; exact c, fun k k0 k1 => ?_, fun k k0 k1 => by rw [e7]; exact e k k0 k1⟩
  obtain ⟨d1, d2, d3⟩ := d k k0 k1
  refine ⟨by rw [e7]; exact d1, ?_, ?_⟩
  · unfold TS
    rw [e2, es _ (by clear d2 d3; omega) (by clear d2 d3; omega) (by clear d2 d3; omega) 0 (by decide), es _ (by clear d2 d3; omega) (by clear d2 d3; omega) (by clear d2 d3; omega) 1 (by decide), es _ (by clear d2 d3; omega) (by clear d2 d3; omega) (by clear d2 d3; omega) 2 (by decide)]
    exact d2
  · have w : ∀ j, j < 10 → M'.1 (102 + 12 * k) j = M.1 (102 + 12 * k) j := em _ (by clear d2 d3; omega) (by clear d2 d3; omega) (by clear d2 d3; omega)
    unfold MS
    rw [e2, w 0 (by decide), w 1 (by decide), w 2 (by decide), w 3 (by decide), w 4 (by decide), w 5 (by decide), w 6 (by decide), w 7 (by decide), w 8 (by decide), w 9 (by decide)]
    exact d3
theorem RB.c {M M' : Mem} (h : RB M) (e : ∀ a, 10 ≤ a → a < 50 → M'.1 a = M.1 a) : RB M' := by
  unfold RB
  rw [e 10 (by decide) (by decide), e 11 (by decide) (by decide), e 14 (by decide) (by decide)]
  exact h
theorem Z0.c {M M' : Mem} (h : Z0 M) (e : ∀ a, 10 ≤ a → a < 50 → M'.1 a = M.1 a) : Z0 M' := by
  intro p p0 p1 p2
  rw [e _ (by omega) (by omega), e _ (by omega) (by omega)]
  exact h p p0 p1 p2
theorem IB.c {M M' : Mem} {tc tc' : Int} (h : IB M tc) (htc : 0 ≤ tc' ∧ tc' ≤ tc) (e2 : M'.2 = M.2) (hB : SB M') (hg : SgE M') (hp : HP M') (hr : RW M') (e7 : M'.1 7 = M.1 7) (e10 : ∀ a, 10 ≤ a → a < 50 → M'.1 a = M.1 a) (es : ∀ a, 100 ≤ a → a < 300 → M'.1 a = M.1 a) (e65 : ∀ a, 65 ≤ a → a ≤ 79 → M'.1 a = M.1 a) (en : tc' = 0 ∨ (M'.1 1 1 = M.1 1 1 ∧ rkC M' = rkC M)) : IB M' tc' := by
  obtain ⟨i1, i2, i3, i4, i5, i6, i7, i8, i9, i10, i11⟩ := h
  refine ⟨hB, hg, hp, hr, by omega, i6.c htc.2 e2 e7 (fun a a0 a1 _ k _ => by rw [es a a0 a1]) (fun a a0 a1 _ k _ => by rw [es a a0 a1]), i7.c e10, i8.c e10, ?_, ?_, fun k k0 k1 => ?_⟩
  · intro k a b
    rw [e65 75 (by decide) (by decide)]; exact i9 k a b
  · intro k a b
    rw [e65 65 (by decide) (by decide)]; exact i10 k a b
  · rcases en with q | q
    · omega
    · refine TG.c ⟨fun a a0 a1 => ⟨es a (by omega) (by omega), by rw [e2]⟩, q.1, q.2, fun a a0 a1 => by rw [e65 a (by omega) (by omega)], fun a i a0 a1 _ _ => by rw [e65 a (by omega) (by omega)], by rw [e65 73 (by decide) (by decide)], fun j _ _ => by rw [e65 74 (by decide) (by decide)], fun a c a0 a1 _ _ => by rw [e65 a (by omega) (by omega)]⟩ i2.1.2.1 (i11 k k0 (by omega))
theorem IB.sb {M : Mem} {tc : Int} (h : IB M tc) : SB M := h.1
theorem IB.sg {M : Mem} {tc : Int} (h : IB M tc) : SgE M := h.2.1
theorem IB.rw_ {M : Mem} {tc : Int} (h : IB M tc) : RW M := h.2.2.2.1
theorem IB.tc_ {M : Mem} {tc : Int} (h : IB M tc) : 0 ≤ tc ∧ tc ≤ 16 := h.2.2.2.2.1
theorem IB.sl {M : Mem} {tc : Int} (h : IB M tc) : SL M tc := h.2.2.2.2.2.1
theorem SgE.c {M M' : Mem} (h : SgE M) (e1 : M'.1 1 = M.1 1) (e2 : M'.1 2 = M.1 2) (e3 : M'.1 62 0 = M.1 62 0) (e4 : M'.1 63 = M.1 63) : SgE M' := by
  unfold SgE SgOk rkC
  rw [e1, e2, e3, e4]
  exact h
theorem HP.c {M M' : Mem} (h : HP M) (e1 : M'.1 1 = M.1 1) (e2 : M'.1 2 = M.1 2) : HP M' := by
  unfold HP rkC
  rw [e1, e2]
  exact h
theorem rk_c {M M' : Mem} (e1 : M'.1 1 = M.1 1) (e2 : M'.1 2 = M.1 2) : rkC M' = rkC M := by
  funext s
  unfold rkC
  rw [e1, e2]
theorem sign_both {L : Nat} {xs : Int → Int} {M : Mem} (h : Inv L xs M) (r : Int) : Both L xs (D_T_sign 0 r) (D_M_sign 62 r) M := by
  obtain ⟨tc, hI, e7, e4, hC⟩ := h
  have hB := hI.sb
  have hg := hI.sg
  have t0 := hI.tc_
  have n06 := hg.1
  have same : ∀ v, D_T_sign 0 r M = some (v, M) → D_M_sign 62 r M = some (v, M) → Both L xs (D_T_sign 0 r) (D_M_sign 62 r) M := fun v a b => ⟨v, M, M, a, b, hC, ⟨tc, hI, e7, e4, hC⟩, hB⟩
  by_cases r0 : 0 ≤ r ∧ r ≤ 2
  · have r1 : ¬ r < 0 := by omega
    by_cases q : tc ≤ 0
    · by_cases n6 : M.1 1 1 < 6
      · have k0 : 0 ≤ M.1 1 1 := n06.1
        have e0 := hg.2.1
        have n6' : ¬ M.1 1 1 = 6 := by omega
        have e1 : wr (M.1 1 1 + 1) = M.1 1 1 + 1 := wr_eq (by omega) (by omega)
        have e1' : wr (M.1 1 1 + 1 - 1) = M.1 1 1 := by rw [wr_eq (by omega) (by omega)]; omega
        have e1'' : wr (M.1 1 1) = M.1 1 1 := wr_eq (by omega) (by omega)
        obtain ⟨hv, hhv, hv01⟩ : ∃ hv : Int, (hv = 1 ↔ M.1 1 2 = 1 ∨ r = 2) ∧ (hv = 0 ∨ hv = 1) := by
          by_cases q : M.1 1 2 = 1 ∨ r = 2
          · exact ⟨1, ⟨fun _ => q, fun _ => rfl⟩, Or.inr rfl⟩
          · exact ⟨0, ⟨fun w => by omega, fun w => absurd w q⟩, Or.inl rfl⟩
        have hp := hI.2.2.1
        have ea : D_T_sign 0 r M = some (M.1 1 1, up (up (up M 2 (M.1 1 1) r) 1 2 hv) 1 1 (M.1 1 1 + 1)) := by
          unfold D_T_sign D_Signs_add
          by_cases p0 : M.1 1 2 = 0
          · by_cases p2 : r = 2
            · have : hv = 1 := hhv.mpr (Or.inr p2)
              subst this
              subst p2
              simp [-Option.bind_some, -Option.bind_none, gf, pf, rd, wt, ck, ln, lt, bz, nq, up_1, up_2, obs, obn, hB.t_, hB.s_, e7, q, n6, k0, p0, e1]
            · have : hv = 0 := by
                rcases hv01 with w | w
                · exact w
                · rcases hhv.mp w with z | z
                  · omega
                  · exact absurd z p2
              subst this
              simp [-Option.bind_some, -Option.bind_none, gf, pf, rd, wt, ck, ln, lt, bz, nq, up_1, up_2, obs, obn, r1, r0, hB.t_, hB.s_, e7, q, n6, k0, p0, p2, e1]
          · have : hv = 1 := hhv.mpr (Or.inl (by rcases hp.1 with w | w; · exact absurd w p0
                                                 · exact w))
            subst this
            simp [-Option.bind_some, -Option.bind_none, gf, pf, rd, wt, ck, ln, lt, bz, nq, up_1, up_2, obs, obn, r1, r0, hB.t_, hB.s_, e7, q, n6, k0, p0, e1]
        have hB1 : SB (up (up (up M 2 (M.1 1 1) r) 1 2 hv) 1 1 (M.1 1 1 + 1)) := SB_up (SB_up (SB_up hB (by unfold stp; omega)) (by decide)) (by decide)
        have eb : D_M_sign 62 r (up (up (up M 2 (M.1 1 1) r) 1 2 hv) 1 1 (M.1 1 1 + 1)) = some (M.1 1 1, up (up (up (up (up M 2 (M.1 1 1) r) 1 2 hv) 1 1 (M.1 1 1 + 1)) 63 (M.1 1 1) r) 62 0 (M.1 1 1 + 1)) := by
          unfold D_M_sign
          simp [-Option.bind_some, -Option.bind_none, gf, pf, rd, wt, ck, ln, lt, bz, nq, up_1, up_2, obs, obn, in_ok, r0, hB.m_, e4, q, e0, n6', k0, n6, e1, e1', e1'']
        refine ⟨_, _, _, ea, eb, ?_, ⟨0, ?_, ?_, ?_, ?_⟩, hB1⟩
        · exact ⟨by rw [up_2, up_2, up_2]; exact hC.1, by rw [up_n (by decide), up_n (by decide), up_n (by decide)]; exact hC.2⟩
        · have tz : tc = 0 := by omega
          generalize hM2 : up (up (up (up (up M 2 (M.1 1 1) r) 1 2 hv) 1 1 (M.1 1 1 + 1)) 63 (M.1 1 1) r) 62 0 (M.1 1 1 + 1) = M2
          have c11 : M2.1 1 1 = M.1 1 1 + 1 := by rw [← hM2]; simp [-Option.bind_some, -Option.bind_none, gf, pf, rd, wt, ck, ln, lt, bz, nq, up_1, up_2, obs, obn]
          have c12 : M2.1 1 2 = hv := by rw [← hM2]; simp [-Option.bind_some, -Option.bind_none, gf, pf, rd, wt, ck, ln, lt, bz, nq, up_1, up_2, obs, obn]
          have c2 : M2.1 2 = ud (M.1 2) (M.1 1 1) r := by rw [← hM2]; simp [up_f]
          have c63 : M2.1 63 = ud (M.1 63) (M.1 1 1) r := by rw [← hM2]; simp [up_f]
          have c620 : M2.1 62 0 = M.1 1 1 + 1 := by rw [← hM2]; simp [-Option.bind_some, -Option.bind_none, gf, pf, rd, wt, ck, ln, lt, bz, nq, up_1, up_2, obs, obn]
          have c623 : M2.1 62 3 = M.1 62 3 := by rw [← hM2]; simp [-Option.bind_some, -Option.bind_none, gf, pf, rd, wt, ck, ln, lt, bz, nq, up_1, up_2, obs, obn]
          have ce : ∀ a, a ≠ 1 → a ≠ 2 → a ≠ 62 → a ≠ 63 → M2.1 a = M.1 a := fun a q1 q2 q3 q4 => by rw [← hM2, up_n q3, up_n q4, up_n q1, up_n q1, up_n q2]
          have cr : ∀ s, 0 ≤ s → s < M.1 1 1 → rkC M2 s = rkC M s := fun s s0 s1 => by
            unfold rkC
            rw [c11, c2, if_pos (by omega), if_pos (by omega), ud_n (by omega)]
          have crn : rkC M2 (M.1 1 1) = r := by
            unfold rkC
            rw [c11, c2, if_pos (by omega), ud_s]
          refine hI.c ⟨Int.le_refl 0, by omega⟩ (by rw [← hM2, up_2, up_2, up_2, up_2, up_2]) ?_ ?_ ?_ ?_ (ce 7 (by decide) (by decide) (by decide) (by decide)) (fun a a0 a1 => ce a (by omega) (by omega) (by omega) (by omega)) (fun a a0 a1 => ce a (by omega) (by omega) (by omega) (by omega)) (fun a a0 a1 => ce a (by omega) (by omega) (by omega) (by omega)) (Or.inl rfl)
          · rw [← hM2]; exact SB_up (SB_up hB1 (by unfold stp; omega)) (by decide)
          · refine ⟨⟨by omega, by omega, fun i i0 i1 => ?_⟩, by rw [c620, c11], fun s s0 s1 => ?_⟩
            · rw [c2]
              by_cases q : i = M.1 1 1
              · rw [q, ud_s]; exact r0
              · rw [ud_n q]; exact n06.2.2 i i0 (by omega)
            · rw [c63]
              by_cases q : s = M.1 1 1
              · rw [q, ud_s, crn]
              · rw [ud_n q, cr s s0 (by omega)]; exact hg.2.2 s s0 (by omega)
          · unfold HP
            rw [c12, c11]
            refine ⟨hv01, hhv.trans ?_⟩
            rw [hp.2]
            constructor
            · intro w
              rcases w with ⟨s, w0, w1⟩ | w
              · exact ⟨s, by omega, by rw [cr s w0.1 w0.2]; exact w1⟩
              · exact ⟨M.1 1 1, by omega, by rw [crn]; exact w⟩
            · intro ⟨s, w0, w1⟩
              by_cases q : s = M.1 1 1
              · rw [q, crn] at w1; exact Or.inr w1
              · rw [cr s w0.1 (by omega)] at w1; exact Or.inl ⟨s, by omega, w1⟩
          · have hr := hI.rw_
            unfold RW
            rw [c623, c11, ce 3 (by decide) (by decide) (by decide) (by decide), ce 4 (by decide) (by decide) (by decide) (by decide), ce 64 (by decide) (by decide) (by decide) (by decide)]
            exact ⟨hr.1, hr.2.1, fun i i0 i1 => by have := hr.2.2 i i0 i1; exact ⟨this.1, this.2.1, by omega⟩⟩
        · rw [up_n (by decide), up_n (by decide), up_n (by decide), up_n (by decide), up_n (by decide)]; omega
        · rw [up_1, if_neg (by decide), up_n (by decide), up_n (by decide), up_n (by decide), up_n (by decide)]; omega
        · exact ⟨by rw [up_2, up_2, up_2, up_2, up_2]; exact hC.1, by rw [up_n (by decide), up_n (by decide), up_n (by decide), up_n (by decide), up_n (by decide)]; exact hC.2⟩
      · have n6' : M.1 62 0 = 6 := by have := hg.2.1; have := n06.2.1; omega
        refine same (-4) ?_ ?_
        · unfold D_T_sign
          simp [-Option.bind_some, -Option.bind_none, gf, pf, rd, wt, ck, ln, lt, bz, nq, up_1, up_2, obs, obn, r1, r0, hB.t_, hB.s_, e7, q, n6]
        · unfold D_M_sign
          simp [-Option.bind_some, -Option.bind_none, gf, pf, rd, wt, ck, ln, lt, bz, nq, up_1, up_2, obs, obn, in_ok, r0, hB.m_, e4, q, n6']
    · refine same (-3) ?_ ?_
      · unfold D_T_sign
        simp [-Option.bind_some, -Option.bind_none, gf, pf, rd, wt, ck, ln, lt, bz, nq, up_1, up_2, obs, obn, r1, r0, hB.t_, e7, q]
      · unfold D_M_sign
        simp [-Option.bind_some, -Option.bind_none, gf, pf, rd, wt, ck, ln, lt, bz, nq, up_1, up_2, obs, obn, in_ok, r0, hB.m_, e4, q]
  · refine same (-2) ?_ ?_
    · unfold D_T_sign
      by_cases q : r < 0
      · simp [-Option.bind_some, -Option.bind_none, gf, pf, rd, wt, ck, ln, lt, bz, nq, up_1, up_2, obs, obn, q]
      · have : ¬ r ≤ 2 := by omega
        simp [-Option.bind_some, -Option.bind_none, gf, pf, rd, wt, ck, ln, lt, bz, nq, up_1, up_2, obs, obn, q, this]
    · unfold D_M_sign
      simp [-Option.bind_some, -Option.bind_none, gf, pf, rd, wt, ck, ln, lt, bz, nq, up_1, up_2, obs, obn, in_ok, r0]
theorem rank_both {L : Nat} {xs : Int → Int} {M : Mem} (h : Inv L xs M) (s : Int) : Both L xs (D_T_rank 0 s) (D_M_rank 62 s) M := by
  have h0 := h
  obtain ⟨tc, hI, e7, e4, hC⟩ := h
  have hB := hI.sb
  have hg := hI.sg
  have n06 := hg.1
  have kn := knows_ok hB.s_ s
  have rko := rankOf_ok hB.s_ n06.2.1 s
  have is := isSign_ok hB (by rw [hg.2.1]; exact ⟨n06.1, n06.2.1⟩) s
  rw [hg.2.1] at is
  by_cases q : 0 ≤ s ∧ s < M.1 1 1
  · rw [if_pos q] at kn is
    have s6 : s < 6 := by have := n06.2.1; omega
    have e63 := hg.2.2 s q.1 q.2
    refine ⟨rkC M s, M, M, ?_, ?_, hC, h0, hB⟩
    · unfold D_T_rank
      simp [-Option.bind_some, -Option.bind_none, gf, pf, rd, wt, ck, ln, lt, bz, nq, up_1, up_2, obs, obn, hB.t_, hB.s_, kn, rko]
    · unfold D_M_rank
      simp [-Option.bind_some, -Option.bind_none, gf, pf, rd, wt, ck, ln, lt, bz, nq, up_1, up_2, obs, obn, hB.m_, is, q, s6, e63]
  · rw [if_neg q] at kn is
    refine ⟨-2, M, M, ?_, ?_, hC, h0, hB⟩
    · unfold D_T_rank
      simp [-Option.bind_some, -Option.bind_none, gf, pf, rd, wt, ck, ln, lt, bz, nq, up_1, up_2, obs, obn, hB.t_, hB.s_, kn]
    · unfold D_M_rank
      simp [-Option.bind_some, -Option.bind_none, gf, pf, rd, wt, ck, ln, lt, bz, nq, up_1, up_2, obs, obn, hB.m_, is]
theorem at_both {L : Nat} {xs : Int → Int} {M : Mem} (h : Inv L xs M) (i : Int) : Both L xs (D_T_at 0 i) (D_M_at 62 i) M := by
  have h0 := h
  obtain ⟨tc, hI, e7, e4, hC⟩ := h
  have hB := hI.sb
  have hr := hI.rw_
  have hr1 := hr.1
  have e1 : wr (M.1 3 4 - 1) = M.1 3 4 - 1 := wr_eq (by omega) (by omega)
  by_cases q : 0 ≤ i ∧ i < M.1 3 4
  · have q0 : ¬ i < 0 := by omega
    have q1 : ¬ M.1 3 4 ≤ i := by omega
    have q2 : 0 ≤ i ∧ i ≤ M.1 3 4 - 1 := by omega
    have i12 : i < 120 := by omega
    have w := (hr.2.2 i q.1 q.2).1
    refine ⟨M.1 4 i, M, M, ?_, ?_, hC, h0, hB⟩
    · unfold D_T_at
      simp [-Option.bind_some, -Option.bind_none, gf, pf, rd, wt, ck, ln, lt, bz, nq, up_1, up_2, obs, obn, q0, hB.t_, hB.r_, q1, q, i12]
    · unfold D_M_at
      have wi : D_M_in i 0 (M.1 3 4 - 1) M = some (1, M) := by rw [in_ok, if_pos q2]
      simp [-Option.bind_some, -Option.bind_none, gf, pf, rd, wt, ck, ln, lt, bz, nq, up_1, up_2, obs, obn, hB.m_, hr.2.1, e1, wi, q, i12, w]
  · refine ⟨-2, M, M, ?_, ?_, hC, h0, hB⟩
    · unfold D_T_at
      by_cases q0 : i < 0
      · simp [-Option.bind_some, -Option.bind_none, gf, pf, rd, wt, ck, ln, lt, bz, nq, up_1, up_2, obs, obn, q0]
      · have q1 : M.1 3 4 ≤ i := by omega
        simp [-Option.bind_some, -Option.bind_none, gf, pf, rd, wt, ck, ln, lt, bz, nq, up_1, up_2, obs, obn, q0, hB.t_, hB.r_, q1]
    · have q2 : ¬ (0 ≤ i ∧ i ≤ M.1 3 4 - 1) := by omega
      unfold D_M_at
      have wi : D_M_in i 0 (M.1 3 4 - 1) M = some (0, M) := by rw [in_ok, if_neg q2]
      simp [-Option.bind_some, -Option.bind_none, gf, pf, rd, wt, ck, ln, lt, bz, nq, up_1, up_2, obs, obn, hB.m_, hr.2.1, e1, wi]
theorem drop_both {L : Nat} {xs : Int → Int} {M : Mem} (h : Inv L xs M) : Both L xs (D_T_drop 0) (D_M_drop 62) M := by
  obtain ⟨tc, hI, e7, e4, hC⟩ := h
  have hB := hI.sb
  have hr := hI.rw_
  have hB1 : SB (up M 3 4 0) := SB_up hB (by decide)
  have hB2 : SB (up (up M 3 4 0) 62 3 0) := SB_up hB1 (by decide)
  refine ⟨M.1 3 4, up M 3 4 0, up (up M 3 4 0) 62 3 0, ?_, ?_, ?_, ⟨tc, ?_, ?_, ?_, ?_⟩, hB1⟩
  · unfold D_T_drop
    simp [-Option.bind_some, -Option.bind_none, gf, pf, rd, wt, ck, ln, lt, bz, nq, up_1, up_2, obs, obn, hB.t_, hB.r_]
  · unfold D_M_drop
    simp [-Option.bind_some, -Option.bind_none, gf, pf, rd, wt, ck, ln, lt, bz, nq, up_1, up_2, obs, obn, hB.m_, hr.2.1]
  · exact ⟨by rw [up_2]; exact hC.1, by rw [up_n (by decide)]; exact hC.2⟩
  · refine hI.c ⟨hI.tc_.1, Int.le_refl _⟩ (by rw [up_2, up_2]) hB2 (hI.sg.c (by simp [up_f]) (by simp [up_f]) (by simp [-Option.bind_some, -Option.bind_none, gf, pf, rd, wt, ck, ln, lt, bz, nq, up_1, up_2, obs, obn]) (by simp [up_f])) (hI.2.2.1.c (by simp [up_f]) (by simp [up_f])) ?_ (by simp [up_f]) (fun a a0 a1 => by rw [up_n (by omega), up_n (by omega)]) (fun a a0 a1 => by rw [up_n (by omega), up_n (by omega)]) (fun a a0 a1 => by rw [up_n (by omega), up_n (by omega)]) (Or.inr ⟨by simp [-Option.bind_some, -Option.bind_none, gf, pf, rd, wt, ck, ln, lt, bz, nq, up_1, up_2, obs, obn], rk_c (by simp [up_f]) (by simp [up_f])⟩)
    have c3 : (up (up M 3 4 0) 62 3 0).1 3 4 = 0 := by simp [-Option.bind_some, -Option.bind_none, gf, pf, rd, wt, ck, ln, lt, bz, nq, up_1, up_2, obs, obn]
    have c62 : (up (up M 3 4 0) 62 3 0).1 62 3 = 0 := by simp [-Option.bind_some, -Option.bind_none, gf, pf, rd, wt, ck, ln, lt, bz, nq, up_1, up_2, obs, obn]
    unfold RW
    rw [c3, c62]
    exact ⟨by decide, rfl, fun i i0 i1 => by omega⟩
  · rw [up_n (by decide), up_n (by decide)]; exact e7
  · rw [up_1, if_neg (by decide), up_n (by decide)]; exact e4
  · exact ⟨by rw [up_2, up_2]; exact hC.1, by rw [up_n (by decide), up_n (by decide)]; exact hC.2⟩
theorem put_both {L : Nat} {xs : Int → Int} {M : Mem} (h : Inv L xs M) (s : Int) : Both L xs (D_T_put 0 s) (D_M_put 62 s) M := by
  have h0 := h
  obtain ⟨tc, hI, e7, e4, hC⟩ := h
  have hB := hI.sb
  have hg := hI.sg
  have hr := hI.rw_
  have n06 := hg.1
  have kn := knows_ok hB.s_ s
  have is := isSign_ok hB (by rw [hg.2.1]; exact ⟨n06.1, n06.2.1⟩) s
  rw [hg.2.1] at is
  by_cases q : 0 ≤ s ∧ s < M.1 1 1
  · rw [if_pos q] at kn is
    by_cases l : M.1 3 4 < 120
    · have l0 := hr.1.1
      have l1 : ¬ 120 ≤ M.1 3 4 := by omega
      have l2 : ¬ M.1 3 4 = 120 := by omega
      have e1 : wr (M.1 3 4 + 1) = M.1 3 4 + 1 := wr_eq (by omega) (by omega)
      have hB1 : SB (up (up M 4 (M.1 3 4) s) 3 4 (M.1 3 4 + 1)) := SB_up (SB_up hB (by unfold stp; omega)) (by decide)
      have is1 := isSign_ok hB1 (by rw [up_n (by decide), up_n (by decide), hg.2.1]; exact ⟨n06.1, n06.2.1⟩) s
      rw [up_n (by decide), up_n (by decide), hg.2.1, if_pos q] at is1
      have ea : D_T_put 0 s M = some (M.1 3 4 + 1, up (up M 4 (M.1 3 4) s) 3 4 (M.1 3 4 + 1)) := by
        unfold D_T_put D_Row_add
        simp [-Option.bind_some, -Option.bind_none, gf, pf, rd, wt, ck, ln, lt, bz, nq, up_1, up_2, obs, obn, hB.t_, hB.s_, hB.r_, kn, l, l1, l0, e1]
      have eb : D_M_put 62 s (up (up M 4 (M.1 3 4) s) 3 4 (M.1 3 4 + 1)) = some (M.1 3 4 + 1, up (up (up (up M 4 (M.1 3 4) s) 3 4 (M.1 3 4 + 1)) 64 (M.1 3 4) s) 62 3 (M.1 3 4 + 1)) := by
        unfold D_M_put
        simp [-Option.bind_some, -Option.bind_none, gf, pf, rd, wt, ck, ln, lt, bz, nq, up_1, up_2, obs, obn, hB.m_, is1, hr.2.1, l2, l0, l, e1]
      refine ⟨_, _, _, ea, eb, ?_, ⟨tc, ?_, ?_, ?_, ?_⟩, hB1⟩
      · exact ⟨by rw [up_2, up_2]; exact hC.1, by rw [up_n (by decide), up_n (by decide)]; exact hC.2⟩
      · refine hI.c ⟨hI.tc_.1, Int.le_refl _⟩ (by rw [up_2, up_2, up_2, up_2]) (SB_up (SB_up hB1 (by unfold stp; omega)) (by decide)) (hg.c (by simp [up_f]) (by simp [up_f]) (by simp [-Option.bind_some, -Option.bind_none, gf, pf, rd, wt, ck, ln, lt, bz, nq, up_1, up_2, obs, obn]) (by simp [up_f])) (hI.2.2.1.c (by simp [up_f]) (by simp [up_f])) ?_ (by simp [up_f]) (fun a a0 a1 => by rw [up_n (by omega), up_n (by omega), up_n (by omega), up_n (by omega)]) (fun a a0 a1 => by rw [up_n (by omega), up_n (by omega), up_n (by omega), up_n (by omega)]) (fun a a0 a1 => by rw [up_n (by omega), up_n (by omega), up_n (by omega), up_n (by omega)]) (Or.inr ⟨by simp [-Option.bind_some, -Option.bind_none, gf, pf, rd, wt, ck, ln, lt, bz, nq, up_1, up_2, obs, obn], rk_c (by simp [up_f]) (by simp [up_f])⟩)
        generalize hM2 : up (up (up (up M 4 (M.1 3 4) s) 3 4 (M.1 3 4 + 1)) 64 (M.1 3 4) s) 62 3 (M.1 3 4 + 1) = M2
        have c3 : M2.1 3 4 = M.1 3 4 + 1 := by rw [← hM2]; simp [-Option.bind_some, -Option.bind_none, gf, pf, rd, wt, ck, ln, lt, bz, nq, up_1, up_2, obs, obn]
        have c62 : M2.1 62 3 = M.1 3 4 + 1 := by rw [← hM2]; simp [-Option.bind_some, -Option.bind_none, gf, pf, rd, wt, ck, ln, lt, bz, nq, up_1, up_2, obs, obn]
        have c4 : M2.1 4 = ud (M.1 4) (M.1 3 4) s := by rw [← hM2]; simp [up_f]
        have c64 : M2.1 64 = ud (M.1 64) (M.1 3 4) s := by rw [← hM2]; simp [up_f]
        have c1 : M2.1 1 1 = M.1 1 1 := by rw [← hM2]; simp [-Option.bind_some, -Option.bind_none, gf, pf, rd, wt, ck, ln, lt, bz, nq, up_1, up_2, obs, obn]
        unfold RW
        rw [c3, c62, c4, c64, c1]
        refine ⟨by omega, rfl, fun i i0 i1 => ?_⟩
        by_cases w : i = M.1 3 4
        · rw [w, ud_s, ud_s]; exact ⟨rfl, q⟩
        · rw [ud_n w, ud_n w]; exact hr.2.2 i i0 (by omega)
      · rw [up_n (by decide), up_n (by decide), up_n (by decide), up_n (by decide)]; exact e7
      · rw [up_1, if_neg (by decide), up_n (by decide), up_n (by decide), up_n (by decide)]; exact e4
      · exact ⟨by rw [up_2, up_2, up_2, up_2]; exact hC.1, by rw [up_n (by decide), up_n (by decide), up_n (by decide), up_n (by decide)]; exact hC.2⟩
    · have l2 : M.1 3 4 = 120 := by have := hr.1.2; omega
      refine ⟨-4, M, M, ?_, ?_, hC, h0, hB⟩
      · unfold D_T_put
        simp [-Option.bind_some, -Option.bind_none, gf, pf, rd, wt, ck, ln, lt, bz, nq, up_1, up_2, obs, obn, hB.t_, hB.s_, hB.r_, kn, l2]
      · unfold D_M_put
        simp [-Option.bind_some, -Option.bind_none, gf, pf, rd, wt, ck, ln, lt, bz, nq, up_1, up_2, obs, obn, hB.m_, is, hr.2.1, l2]
  · rw [if_neg q] at kn is
    refine ⟨-2, M, M, ?_, ?_, hC, h0, hB⟩
    · unfold D_T_put
      simp [-Option.bind_some, -Option.bind_none, gf, pf, rd, wt, ck, ln, lt, bz, nq, up_1, up_2, obs, obn, hB.t_, hB.s_, kn]
    · unfold D_M_put
      simp [-Option.bind_some, -Option.bind_none, gf, pf, rd, wt, ck, ln, lt, bz, nq, up_1, up_2, obs, obn, hB.m_, is]
theorem undo_both {L : Nat} {xs : Int → Int} {M : Mem} (h : Inv L xs M) : Both L xs (D_T_undo 0) (D_M_undo 62) M := by
  have h0 := h
  obtain ⟨tc, hI, e7, e4, hC⟩ := h
  have hB := hI.sb
  have t0 := hI.tc_
  by_cases q : 0 < tc
  · have q' : ¬ tc = 0 := by omega
    have e1 : wr (tc - 1) = tc - 1 := wr_eq (by omega) (by omega)
    have hB1 : SB (up M 0 7 (tc - 1)) := SB_up hB (by decide)
    refine ⟨tc - 1, up M 0 7 (tc - 1), up (up M 0 7 (tc - 1)) 62 4 (tc - 1), ?_, ?_, ?_, ⟨tc - 1, ?_, ?_, ?_, ?_⟩, hB1⟩
    · unfold D_T_undo
      simp [-Option.bind_some, -Option.bind_none, gf, pf, rd, wt, ck, ln, lt, bz, nq, up_1, up_2, obs, obn, hB.t_, e7, q, e1]
    · unfold D_M_undo
      simp [-Option.bind_some, -Option.bind_none, gf, pf, rd, wt, ck, ln, lt, bz, nq, up_1, up_2, obs, obn, hB.m_, e4, q', e1]
    · exact ⟨by rw [up_2]; exact hC.1, by rw [up_n (by decide)]; exact hC.2⟩
    · refine hI.c ⟨by omega, by omega⟩ (by rw [up_2, up_2]) (SB_up hB1 (by decide)) (hI.sg.c (by simp [up_f]) (by simp [up_f]) (by simp [-Option.bind_some, -Option.bind_none, gf, pf, rd, wt, ck, ln, lt, bz, nq, up_1, up_2, obs, obn]) (by simp [up_f])) (hI.2.2.1.c (by simp [up_f]) (by simp [up_f])) ?_ (by simp [up_f]) (fun a a0 a1 => by rw [up_n (by omega), up_n (by omega)]) (fun a a0 a1 => by rw [up_n (by omega), up_n (by omega)]) (fun a a0 a1 => by rw [up_n (by omega), up_n (by omega)]) (Or.inr ⟨by simp [-Option.bind_some, -Option.bind_none, gf, pf, rd, wt, ck, ln, lt, bz, nq, up_1, up_2, obs, obn], rk_c (by simp [up_f]) (by simp [up_f])⟩)
      have hr := hI.rw_
      unfold RW at hr ⊢
      simpa [up_f, up_1, ud_a] using hr
    · simp [-Option.bind_some, -Option.bind_none, gf, pf, rd, wt, ck, ln, lt, bz, nq, up_1, up_2, obs, obn]
    · simp [-Option.bind_some, -Option.bind_none, gf, pf, rd, wt, ck, ln, lt, bz, nq, up_1, up_2, obs, obn]
    · exact ⟨by rw [up_2, up_2]; exact hC.1, by rw [up_n (by decide), up_n (by decide)]; exact hC.2⟩
  · have q' : tc = 0 := by omega
    refine ⟨-3, M, M, ?_, ?_, hC, h0, hB⟩
    · unfold D_T_undo
      simp [-Option.bind_some, -Option.bind_none, gf, pf, rd, wt, ck, ln, lt, bz, nq, up_1, up_2, obs, obn, hB.t_, e7, q]
    · unfold D_M_undo
      simp [-Option.bind_some, -Option.bind_none, gf, pf, rd, wt, ck, ln, lt, bz, nq, up_1, up_2, obs, obn, hB.m_, e4, q']
