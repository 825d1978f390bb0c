/-! calls: tongues that are told -/
theorem IB.mk2 {M M' : Mem} {tc tc' : Int} (h : IB M tc) (htc : 0 ≤ tc' ∧ tc' ≤ 16) (hB : SB M') (e1 : M'.1 1 = M.1 1) (e2 : M'.1 2 = M.1 2) (e3 : M'.1 3 = M.1 3) (e4 : M'.1 4 = M.1 4) (e620 : M'.1 62 0 = M.1 62 0) (e623 : M'.1 62 3 = M.1 62 3) (e63 : M'.1 63 = M.1 63) (e64 : M'.1 64 = M.1 64) (hS : SL M' tc') (hR : RB M') (hZ : Z0 M') (hA : BA M') (h65 : B65 M') (hT : ∀ k, 0 ≤ k → k < tc' → TG M' k) : IB M' tc' := by
  refine ⟨hB, h.sg.c e1 e2 e620 e63, h.2.2.1.c e1 e2, ?_, htc, hS, hR, hZ, hA, h65, hT⟩
  have hr := h.rw_
  unfold RW
  rw [e1, e3, e4, e623, e64]
  exact hr
theorem tongue_both {L : Nat} {xs : Int → Int} {M : Mem} (h : Inv L xs M) (st : Int) : Both L xs (D_T_tongue 0 st) (D_M_tongue 62 st) M := by
  have h0 := h
  obtain ⟨tc, hI, e7, e4, hC⟩ := h
  have hB := hI.sb
  have t0 := hI.tc_
  by_cases r : 1 ≤ st ∧ st ≤ 5
  · have r0 : ¬ st < 1 := by omega
    by_cases q : tc < 16
    · have q' : ¬ tc = 16 := by omega
      obtain ⟨M1, e1, hS1, hB1, o1⟩ := slot_ok hB hI.sl t0.1 q
      obtain ⟨c7, ts1, ms1⟩ := hS1.at (k := tc) t0.1 (by omega)
      have ef := fill_ok (M := M1) (a := 100 + 12 * tc + 1) (n := 150) ts1.2.1 (by decide) 0
      have ew : wr (tc + 1) = tc + 1 := wr_eq (by omega) (by omega)
      have ew' : wr (tc + 1 - 1) = tc := by rw [wr_eq (by omega) (by omega)]; omega
      have ew'' : wr tc = tc := wr_eq (by omega) (by omega)
      have o0 : M1.1 0 7 = tc := by rw [(o1 0 (by decide) (by omega)).1]; exact e7
      have b1 : ∀ a, a ≠ 100 + 12 * tc → a ≠ 100 + 12 * tc + 1 → (sc M1 (100 + 12 * tc + 1) (fun i => if 0 ≤ i ∧ i < (150 : Nat) then 0 else M1.1 (100 + 12 * tc + 1) i)).1 a = M1.1 a := fun a _ z => sc_n z
      have hBs : SB (sc M1 (100 + 12 * tc + 1) (fun i => if 0 ≤ i ∧ i < (150 : Nat) then 0 else M1.1 (100 + 12 * tc + 1) i)) := SB_sc hB1 (fun k => by unfold stp; omega)
      have s2 : (sc M1 (100 + 12 * tc + 1) (fun i => if 0 ≤ i ∧ i < (150 : Nat) then 0 else M1.1 (100 + 12 * tc + 1) i)).2 = M1.2 := sc_2 _ _ _
      have z0 : ∀ i, 0 ≤ i → i < 150 → (sc M1 (100 + 12 * tc + 1) (fun i => if 0 ≤ i ∧ i < (150 : Nat) then 0 else M1.1 (100 + 12 * tc + 1) i)).1 (100 + 12 * tc + 1) i = 0 := fun i a b => by rw [sc_1, if_pos rfl, if_pos ⟨a, by omega⟩]
      have tf : ∀ k, (sc M1 (100 + 12 * tc + 1) (fun i => if 0 ≤ i ∧ i < (150 : Nat) then 0 else M1.1 (100 + 12 * tc + 1) i)).1 (100 + 12 * tc) k = M1.1 (100 + 12 * tc) k := fun k => by rw [sc_n (by clear ts1 ms1; omega)]
      generalize sc M1 (100 + 12 * tc + 1) (fun i => if 0 ≤ i ∧ i < (150 : Nat) then 0 else M1.1 (100 + 12 * tc + 1) i) = Ms at *
      have sh : Ms.2.1 (100 + 12 * tc) = (7, 8) := by rw [s2]; exact ts1.1
      have n0 : ¬ (100 + 12 * tc) = 0 := by clear ts1 ms1; omega
      have n0' : ¬ (0 : Int) = 100 + 12 * tc := by clear ts1 ms1; omega
      have n62 : ¬ (62 : Int) = 100 + 12 * tc := by clear ts1 ms1; omega
      have m07 : Ms.1 0 7 = tc := by rw [b1 0 n0' (by clear ts1 ms1; omega)]; exact o0
      have mr : ∀ a, 62 ≤ a → a ≤ 99 → Ms.1 a = M.1 a := fun a a0 a1 => by rw [b1 a (by clear ts1 ms1; omega) (by clear ts1 ms1; omega), (o1 a (by clear ts1 ms1; omega) (by clear ts1 ms1; omega)).1]
      have ea : D_T_tongue 0 st M = some (tc, up (up (up (up (up (up Ms (100 + 12 * tc) 3 st) (100 + 12 * tc) 4 0) (100 + 12 * tc) 5 0) (100 + 12 * tc) 6 1) (100 + 12 * tc) 7 1) 0 7 (tc + 1)) := by
        unfold D_T_tongue D_Tongue_tell
        simp [-Option.bind_some, -Option.bind_none, gf, pf, rd, wt, ck, ln, lt, bz, nq, up_1, up_2, obs, obn, r0, r, hB.t_, e7, q, e1, ts1, ef, sh, n0, n0', m07, hBs.t_, ew]
      have hB2 : SB (up (up (up (up (up (up Ms (100 + 12 * tc) 3 st) (100 + 12 * tc) 4 0) (100 + 12 * tc) 5 0) (100 + 12 * tc) 6 1) (100 + 12 * tc) 7 1) 0 7 (tc + 1)) := by
        clear ts1 ms1
        exact SB_up (SB_up (SB_up (SB_up (SB_up (SB_up hBs (by unfold stp; omega)) (by unfold stp; omega)) (by unfold stp; omega)) (by unfold stp; omega)) (by unfold stp; omega)) (by decide)
      generalize hMa : up (up (up (up (up (up Ms (100 + 12 * tc) 3 st) (100 + 12 * tc) 4 0) (100 + 12 * tc) 5 0) (100 + 12 * tc) 6 1) (100 + 12 * tc) 7 1) 0 7 (tc + 1) = Ma at *
      have oa : ∀ a, a ≠ 0 → a ≠ 100 + 12 * tc → Ma.1 a = Ms.1 a := fun a a0 a1 => by rw [← hMa, up_n a0, up_n a1, up_n a1, up_n a1, up_n a1, up_n a1]
      have sa : Ma.2 = M1.2 := by rw [← hMa, up_2, up_2, up_2, up_2, up_2, up_2, s2]
      have a3 : Ma.1 (100 + 12 * tc) 3 = st := by rw [← hMa]; simp [-Option.bind_some, -Option.bind_none, gf, pf, rd, wt, ck, ln, lt, bz, nq, up_1, up_2, obs, obn, n0]
      have a4 : Ma.1 (100 + 12 * tc) 4 = 0 := by rw [← hMa]; simp [-Option.bind_some, -Option.bind_none, gf, pf, rd, wt, ck, ln, lt, bz, nq, up_1, up_2, obs, obn, n0]
      have a5 : Ma.1 (100 + 12 * tc) 5 = 0 := by rw [← hMa]; simp [-Option.bind_some, -Option.bind_none, gf, pf, rd, wt, ck, ln, lt, bz, nq, up_1, up_2, obs, obn, n0]
      have a6 : Ma.1 (100 + 12 * tc) 6 = 1 := by rw [← hMa]; simp [-Option.bind_some, -Option.bind_none, gf, pf, rd, wt, ck, ln, lt, bz, nq, up_1, up_2, obs, obn, n0]
      have a7 : Ma.1 (100 + 12 * tc) 7 = 1 := by rw [← hMa]; simp [-Option.bind_some, -Option.bind_none, gf, pf, rd, wt, ck, ln, lt, bz, nq, up_1, up_2, obs, obn, n0]
      have ak : ∀ k, k < 3 → Ma.1 (100 + 12 * tc) k = M1.1 (100 + 12 * tc) k := fun k hk => by
        rw [← hMa]
        rw [up_1, if_neg (by clear ts1 ms1; omega), up_1, if_neg (by clear ts1 ms1; omega), up_1, if_neg (by clear ts1 ms1; omega), up_1, if_neg (by clear ts1 ms1; omega), up_1, if_neg (by clear ts1 ms1; omega), up_1, if_neg (by clear ts1 ms1; omega), tf]
      have a07 : Ma.1 0 7 = tc + 1 := by rw [← hMa]; simp [-Option.bind_some, -Option.bind_none, gf, pf, rd, wt, ck, ln, lt, bz, nq, up_1, up_2, obs, obn]
      have mra : ∀ a, 62 ≤ a → a ≤ 99 → Ma.1 a = M.1 a := fun a a0 a1 => by rw [oa a (by omega) (by clear ts1 ms1; omega)]; exact mr a a0 a1
      have m624 : Ma.1 62 4 = tc := by rw [mra 62 (by decide) (by decide)]; exact e4
      have tcr : 0 ≤ tc := t0.1
      have eb : D_M_tongue 62 st Ma = some (tc, up (up (up (up (up Ma 65 tc 1) 66 tc st) 67 tc 0) 68 tc 0) 62 4 (tc + 1)) := by
        unfold D_M_tongue
        have wi : D_M_in st 1 5 Ma = some (1, Ma) := by rw [in_ok, if_pos r]
        simp [-Option.bind_some, -Option.bind_none, gf, pf, rd, wt, ck, ln, lt, bz, nq, up_1, up_2, obs, obn, wi, hB2.m_, m624, q', tcr, q, ew, ew', ew'']
      have hB3 : SB (up (up (up (up (up Ma 65 tc 1) 66 tc st) 67 tc 0) 68 tc 0) 62 4 (tc + 1)) := SB_up (SB_up (SB_up (SB_up (SB_up hB2 (by unfold stp; omega)) (by unfold stp; omega)) (by unfold stp; omega)) (by unfold stp; omega)) (by decide)
      have sc1 : SC L xs Ma := by
        refine ⟨by rw [sa, (o1 1000001 (by decide) (by clear ts1 ms1; omega)).2]; exact hC.1, ?_⟩
        rw [oa 1000001 (by decide) (by clear ts1 ms1; omega), b1 1000001 (by clear ts1 ms1; omega) (by clear ts1 ms1; omega), (o1 1000001 (by decide) (by clear ts1 ms1; omega)).1]
        exact hC.2
      have ob : ∀ a, a ≠ 7 → a ≠ 0 → (a < 100 + 12 * tc ∨ 112 + 12 * tc ≤ a) → Ma.1 a = M.1 a := fun a z7 z0 z => by
        rw [oa a z0 (by clear ts1 ms1; omega), b1 a (by clear ts1 ms1; omega) (by clear ts1 ms1; omega)]
        exact (o1 a z7 z).1
      refine ⟨tc, Ma, _, ea, eb, sc1, ⟨tc + 1, ?_, ?_, ?_, ?_⟩, hB2⟩
      · generalize hMb : up (up (up (up (up Ma 65 tc 1) 66 tc st) 67 tc 0) 68 tc 0) 62 4 (tc + 1) = Mb at *
        have mb : ∀ a, a ≠ 62 → (a < 65 ∨ 68 < a) → Mb.1 a = Ma.1 a := fun a z0 z1 => by rw [← hMb, up_n z0, up_n (by omega), up_n (by omega), up_n (by omega), up_n (by omega)]
        have sb : Mb.2 = M1.2 := by rw [← hMb, up_2, up_2, up_2, up_2, up_2, sa]
        have m65 : ∀ k, k ≠ tc → ∀ a, 65 ≤ a → a ≤ 68 → Mb.1 a k = M.1 a k := fun k hk a a0 a1 => by
          rw [← hMb, up_1, if_neg (by omega), up_1, if_neg (fun z => hk z.2), up_1, if_neg (fun z => hk z.2), up_1, if_neg (fun z => hk z.2), up_1, if_neg (fun z => hk z.2), mra a (by omega) (by omega)]
        have p65 : Mb.1 65 tc = 1 := by rw [← hMb]; simp [-Option.bind_some, -Option.bind_none, gf, pf, rd, wt, ck, ln, lt, bz, nq, up_1, up_2, obs, obn]
        have p66 : Mb.1 66 tc = st := by rw [← hMb]; simp [-Option.bind_some, -Option.bind_none, gf, pf, rd, wt, ck, ln, lt, bz, nq, up_1, up_2, obs, obn]
        have p67 : Mb.1 67 tc = 0 := by rw [← hMb]; simp [-Option.bind_some, -Option.bind_none, gf, pf, rd, wt, ck, ln, lt, bz, nq, up_1, up_2, obs, obn]
        have p68 : Mb.1 68 tc = 0 := by rw [← hMb]; simp [-Option.bind_some, -Option.bind_none, gf, pf, rd, wt, ck, ln, lt, bz, nq, up_1, up_2, obs, obn]
        have f62 : ∀ k, k ≠ 4 → Mb.1 62 k = M.1 62 k := fun k hk => by rw [← hMb, up_1, if_neg (fun z => hk z.2), up_n (by decide), up_n (by decide), up_n (by decide), up_n (by decide), mra 62 (by decide) (by decide)]
        have low : ∀ a, a ≠ 7 → a ≠ 0 → a ≠ 62 → (a < 65 ∨ 68 < a) → (a < 100 + 12 * tc ∨ 112 + 12 * tc ≤ a) → Mb.1 a = M.1 a := fun a z7 z0 z1 z2 z3 => by rw [mb a z1 z2]; exact ob a z7 z0 z3
        have c1 : Mb.1 1 = M.1 1 := low 1 (by decide) (by decide) (by decide) (by decide) (by clear ts1 ms1; omega)
        have c2 : Mb.1 2 = M.1 2 := low 2 (by decide) (by decide) (by decide) (by decide) (by clear ts1 ms1; omega)
        have l10 : ∀ a, 10 ≤ a → a < 50 → Mb.1 a = M.1 a := fun a a0 a1 => low a (by omega) (by omega) (by omega) (by omega) (by clear ts1 ms1; omega)
        have pa : ∀ a, a ≠ 0 → a ≠ 62 → a ≠ 100 + 12 * tc → a ≠ 100 + 12 * tc + 1 → (a < 65 ∨ 68 < a) → Mb.1 a = M1.1 a := fun a z0 z1 z2 z3 z4 => by rw [mb a z1 z4, oa a z0 z2, b1 a z2 z3]
        have slb : SL Mb (tc + 1) := by
          obtain ⟨sc', u1, u2, u3, u4, u5⟩ := hS1
          refine ⟨sc', u1, u2, by rw [sb]; exact u3, fun k k0 k1 => ?_, fun k k0 k1 => ?_⟩
          · obtain ⟨v1, v2, v3⟩ := u4 k k0 k1
            refine ⟨by rw [pa 7 (by decide) (by decide) (by clear ts1 ms1 v2 v3; omega) (by clear ts1 ms1 v2 v3; omega) (by decide)]; exact v1, ?_, ?_⟩
            · refine TS.c v2 (fun j hj => ?_) (fun a _ _ => by rw [sb])
              by_cases z : k = tc
              · rw [z, mb _ (by clear ts1 ms1 v2 v3; omega) (by clear ts1 ms1 v2 v3; omega)]; exact ak j hj
              · rw [pa _ (by clear ts1 ms1 v2 v3; omega) (by clear ts1 ms1 v2 v3; omega) (by clear ts1 ms1 v2 v3; omega) (by clear ts1 ms1 v2 v3; omega) (by clear ts1 ms1 v2 v3; omega)]
            · refine MS.c v3 (fun j hj => ?_) (fun a _ _ => by rw [sb])
              rw [pa _ (by clear ts1 ms1 v2 v3; omega) (by clear ts1 ms1 v2 v3; omega) (by clear ts1 ms1 v2 v3; omega) (by clear ts1 ms1 v2 v3; omega) (by clear ts1 ms1 v2 v3; omega)]
          · rw [pa 7 (by decide) (by decide) (by clear ts1 ms1; omega) (by clear ts1 ms1; omega) (by decide)]; exact u5 k k0 k1
        refine hI.mk2 ⟨by omega, by omega⟩ hB3 c1 c2 (low 3 (by decide) (by decide) (by decide) (by decide) (by clear ts1 ms1; omega)) (low 4 (by decide) (by decide) (by decide) (by decide) (by clear ts1 ms1; omega)) (f62 0 (by decide)) (f62 3 (by decide)) (low 63 (by decide) (by decide) (by decide) (by decide) (by clear ts1 ms1; omega)) (low 64 (by decide) (by decide) (by decide) (by decide) (by clear ts1 ms1; omega)) slb (hI.2.2.2.2.2.2.1.c l10) (hI.2.2.2.2.2.2.2.1.c l10) ?_ ?_ (fun k k0 k1 => ?_)
        · intro k a b
          rw [low 75 (by decide) (by decide) (by decide) (by decide) (by clear ts1 ms1; omega)]
          exact hI.2.2.2.2.2.2.2.2.1 k a b
        · intro k a b
          by_cases z : k = tc
          · rw [z, p65]; exact Or.inr rfl
          · rw [m65 k z 65 (by decide) (by decide)]; exact hI.2.2.2.2.2.2.2.2.2.1 k a b
        · by_cases z : k = tc
          · subst z
            left
            have tt : Mb.1 (100 + 12 * k) = Ma.1 (100 + 12 * k) := mb _ (by clear ts1 ms1; omega) (by clear ts1 ms1; omega)
            have t1 : ∀ i, 0 ≤ i → i < 150 → Mb.1 (100 + 12 * k + 1) i = 0 := fun i a b => by
              rw [mb _ (by clear ts1 ms1; omega) (by clear ts1 ms1; omega), oa _ (by clear ts1 ms1; omega) (by clear ts1 ms1; omega)]
              exact z0 i a b
            have pp : (0 : Int) < 2 ^ st.toNat := by rw [← p2i]; have := Nat.pow_pos (n := st.toNat) (show 0 < 2 by decide); omega
            refine ⟨p65, by rw [tt]; exact a6, ⟨by clear ts1 ms1; omega, (slb.at k0 (by omega)).2.1, by rw [tt, a3]; exact r, by rw [tt, a5]; decide, fun i a b => by rw [t1 i a b, tt, a3]; exact ⟨Int.le_refl 0, pp⟩⟩, ⟨⟨k0, q⟩, by rw [p68]; decide, by rw [p66]; exact r, by rw [p67]; decide, fun i a b => by rw [p68] at b; omega⟩, by rw [p66, tt, a3], by rw [p67, tt, a5], by rw [p68, tt, a4], ?_, Or.inl (by rw [tt]; exact a7)⟩
            intro s x y q' s0 s1 hA q0
            have n6 := hI.sg.1.2.1
            rw [c1] at s1
            have cr := cel_r5 (r := rkC Mb s) (s := s) (k1 := x) (k2 := y) ⟨s0, by clear ts1 ms1; omega⟩ (fun z => by have := hA.1 z; rw [tt, a3] at this; clear ts1 ms1; omega) (fun z => by have := hA.2.2.1 z; rw [tt, a3] at this; clear ts1 ms1; omega)
            unfold SD
            rw [t1 _ cr.1 cr.2, p68]
            exact ⟨fun w => absurd w (bt_zero q'), fun ⟨i, w, _⟩ => by omega⟩
          · refine TG.c ⟨fun a a0 a1 => ⟨low a (by clear ts1 ms1; omega) (by clear ts1 ms1; omega) (by clear ts1 ms1; omega) (by clear ts1 ms1; omega) (by clear ts1 ms1; omega), by rw [sb, (o1 a (by clear ts1 ms1; omega) (by clear ts1 ms1; omega)).2]⟩, by rw [c1], rk_c c1 c2, m65 k z, fun a i a0 a1 i0 i1 => by rw [low a (by omega) (by omega) (by omega) (by omega) (by clear ts1 ms1; omega)], by rw [low 73 (by decide) (by decide) (by decide) (by decide) (by clear ts1 ms1; omega)], fun j _ _ => by rw [low 74 (by decide) (by decide) (by decide) (by decide) (by clear ts1 ms1; omega)], fun a c a0 a1 _ _ => by rw [low a (by omega) (by omega) (by omega) (by omega) (by clear ts1 ms1; omega)]⟩ hI.sg.1.2.1 (hI.2.2.2.2.2.2.2.2.2.2 k k0 (by omega))
      · rw [up_n (by decide), up_n (by decide), up_n (by decide), up_n (by decide), up_n (by decide)]; exact a07
      · simp [-Option.bind_some, -Option.bind_none, gf, pf, rd, wt, ck, ln, lt, bz, nq, up_1, up_2, obs, obn]
      · exact ⟨by rw [up_2, up_2, up_2, up_2, up_2]; exact sc1.1, by rw [up_n (by decide), up_n (by decide), up_n (by decide), up_n (by decide), up_n (by decide)]; exact sc1.2⟩
    · have q' : tc = 16 := by omega
      refine ⟨-4, M, M, ?_, ?_, hC, h0, hB⟩
      · unfold D_T_tongue
        simp [-Option.bind_some, -Option.bind_none, gf, pf, rd, wt, ck, ln, lt, bz, nq, up_1, up_2, obs, obn, r0, r, hB.t_, e7, q]
      · unfold D_M_tongue
        have wi : D_M_in st 1 5 M = some (1, M) := by rw [in_ok, if_pos r]
        simp [-Option.bind_some, -Option.bind_none, gf, pf, rd, wt, ck, ln, lt, bz, nq, up_1, up_2, obs, obn, wi, hB.m_, e4, q']
  · refine ⟨-2, M, M, ?_, ?_, hC, h0, hB⟩
    · unfold D_T_tongue
      by_cases q : st < 1
      · simp [-Option.bind_some, -Option.bind_none, gf, pf, rd, wt, ck, ln, lt, bz, nq, up_1, up_2, obs, obn, q]
      · have : ¬ st ≤ 5 := by omega
        simp [-Option.bind_some, -Option.bind_none, gf, pf, rd, wt, ck, ln, lt, bz, nq, up_1, up_2, obs, obn, q, this]
    · unfold D_M_tongue
      have wi : D_M_in st 1 5 M = some (0, M) := by rw [in_ok, if_neg r]
      simp [-Option.bind_some, -Option.bind_none, gf, pf, rd, wt, ck, ln, lt, bz, nq, up_1, up_2, obs, obn, wi]
