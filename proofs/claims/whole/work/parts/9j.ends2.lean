/-! calls: ends -/
def ENP (M : Mem) (r : Int) (M' : Mem) : Prop := O84 M M' ∧ SB M' ∧ ((r = 0 ∧ Endl (M.1 1 1) (rkC M) (mchR M 16)) ∨ (r = 1 ∧ ¬ Endl (M.1 1 1) (rkC M) (mchR M 16)))
theorem en42_lp {M : Mem} (hB : SB M) (hW : MW (M.1 1 1) (rkC M) (mchR M 16)) (v2 : Int) (k : Mem → Option (Int × Mem)) (P : Option (Int × Mem) → Prop) (h2 : ∀ M', O84 M M' → (∀ d, 0 ≤ d → d < M.1 73 16 → M'.1 84 d = 0) → P (k M')) : P (L_M_ends_42 k 62 v2 (M.1 73 16) FU 0 M) := by
  have k6 : 0 ≤ M.1 73 16 ∧ M.1 73 16 ≤ 6 := hW.1
  refine lq1 (n := FU) (a := 0) (M := M) (fun n v M' => L_M_ends_42 k 62 v2 (M.1 73 16) n v M') (fun v M' => (0 ≤ v ∧ v ≤ M.1 73 16) ∧ O84 M M' ∧ ∀ d, 0 ≤ d → d < v → M'.1 84 d = 0) (fun v => (M.1 73 16 - v).toNat) P ?_ ⟨⟨Int.le_refl 0, k6.1⟩, ⟨rfl, fun _ _ => rfl⟩, fun d _ _ => by omega⟩ (by have := FU_eq; omega)
  intro n v M' ⟨vr, ho, hz⟩ ih
  show P (L_M_ends_42 k 62 v2 (M.1 73 16) (n + 1) v M')
  have hB' := ho.sb hB
  have g31 : gf M' 62 9 54 31 = some 84 := by simp [gf, hB'.m_]
  have ew : wr (v + 1) = v + 1 := wr_eq (by omega) (by omega)
  rw [L_M_ends_42]
  dsimp only
  by_cases q : M.1 73 16 ≤ v
  · rw [if_pos q]
    exact h2 M' ho (fun d d0 d1 => hz d d0 (by omega))
  · rw [if_neg q]
    have eW : wt M' 10 84 v 0 = some (up M' 84 v 0) := wt_v (n := 512) (by simp [hB'.m_]) vr.1 (by omega)
    rw [g31, obs, eW, obs, ew]
    refine ih (v + 1) _ ⟨⟨by omega, by omega⟩, ⟨by rw [up_2]; exact ho.1, fun a w => by rw [up_n w]; exact ho.2 a w⟩, fun d d0 d1 => ?_⟩ (by omega)
    rw [up_1]
    by_cases z : d = v
    · rw [if_pos ⟨rfl, z⟩]
    · rw [if_neg (fun w => z w.2)]; exact hz d d0 (by omega)
theorem en226_lp {M M1 : Mem} {u : Int} (hB : SB M) (hW : MW (M.1 1 1) (rkC M) (mchR M 16)) (ho : O84 M M1) (hS : UNS (M.1 1 1) (rkC M) (mchR M 16) (M1.1 84)) (hC : ∀ c, 0 ≤ c → c < M.1 73 16 → UNC (M.1 1 1) (rkC M) (mchR M 16) (M1.1 84) c) (ur : 0 ≤ u ∧ u < 64) (hu : ∀ c, 0 ≤ c → c < M.1 73 16 → (bt u c ↔ Lv (M.1 1 1) (rkC M) (mchR M 16) c)) : OkV (L_M_ends_226 (fun m226 => some (1, m226)) 62 u (M.1 73 16) FU 0 M1) (fun r M' => ENP M r M') := by
  have k6 : 0 ≤ M.1 73 16 ∧ M.1 73 16 ≤ 6 := hW.1
  have hB1 := ho.sb hB
  have g31 : gf M1 62 9 54 31 = some 84 := by simp [gf, hB1.m_]
  refine lq1 (n := FU) (a := 0) (M := M1) (fun n v M' => L_M_ends_226 (fun m226 => some (1, m226)) 62 u (M.1 73 16) n v M') (fun w M' => M' = M1 ∧ (0 ≤ w ∧ w ≤ M.1 73 16) ∧ ∀ c, 0 ≤ c → c < w → ¬ (Lv (M.1 1 1) (rkC M) (mchR M 16) c ∧ Tc (M.1 1 1) (rkC M) (mchR M 16) c c)) (fun w => (M.1 73 16 - w).toNat) (fun o => OkV o (fun r M' => ENP M r M')) ?_ ⟨rfl, ⟨Int.le_refl 0, k6.1⟩, fun c _ _ => by omega⟩ (by have := FU_eq; omega)
  intro n w M' ⟨e, wr', hw⟩ ih
  subst e
  show OkV (L_M_ends_226 _ 62 u (M.1 73 16) (n + 1) w M') _
  have ew : wr (w + 1) = w + 1 := wr_eq (by omega) (by omega)
  rw [L_M_ends_226]
  dsimp only
  by_cases q' : M.1 73 16 ≤ w
  · rw [if_pos q']
    exact OkV.i ⟨ho, hB1, Or.inr ⟨rfl, fun ⟨c, u1, u2⟩ => hw c u1.r.1 (by have : c < M.1 73 16 := u1.r.2; omega) ⟨u1, u2⟩⟩⟩
  · rw [if_neg q']
    have w6 : w < 6 := by omega
    have w1 : w < M.1 73 16 := by omega
    have rr := hS.1 w wr'.1 w1
    have tcw : bt (M'.1 84 w) w ↔ Tc (M.1 1 1) (rkC M) (mchR M 16) w w := ⟨hS.2 w w wr'.1 w1 wr'.1, fun h => (hC w wr'.1 w1).all h⟩
    have eR : rd M' 10 84 w = some (M'.1 84 w) := rd_v (n := 512) (by simp [hB1.m_]) wr'.1 (by omega)
    have nx : ¬ (Lv (M.1 1 1) (rkC M) (mchR M 16) w ∧ Tc (M.1 1 1) (rkC M) (mchR M 16) w w) → OkV (L_M_ends_226 (fun m226 => some (1, m226)) 62 u (M.1 73 16) n (w + 1) M') (fun r M' => ENP M r M') := fun g => ih (w + 1) M' ⟨rfl, ⟨by omega, by omega⟩, fun c c0 c1 => by
      by_cases z : c = w
      · rw [z]; exact g
      · exact hw c c0 (by omega)⟩ (by omega)
    simp only [g31, obs, eR, ew]
    rcases bt_get (z := u) (i := w) ur.1 (by omega) wr'.1 (by omega) with ⟨b1, b2⟩ | ⟨b1, b2⟩
    · rw [if_pos b2]
      rcases bt_get (z := M'.1 84 w) (i := w) rr.1 (by omega) wr'.1 (by omega) with ⟨b3, b4⟩ | ⟨b3, b4⟩
      · rw [if_pos b4, obs, if_neg (by decide)]
        exact OkV.i ⟨ho, hB1, Or.inl ⟨rfl, w, (hu w wr'.1 w1).mp b1, tcw.mp b3⟩⟩
      · rw [if_neg (by omega), obs, if_pos rfl]
        exact nx (fun t => b3 (tcw.mpr t.2))
    · rw [if_neg (by omega), obs, if_pos rfl]
      exact nx (fun t => b1 ((hu w wr'.1 w1).mpr t.1))
theorem Endl.q {n : Int} {rk : Int → Int} {m m' : Mch} (e : Eqm n rk m m') (h : Endl n rk m) : Endl n rk m' := by
  obtain ⟨c, a, b⟩ := h
  exact ⟨c, a.q e, b.q e⟩
theorem ends_both {L : Nat} {xs : Int → Int} {M : Mem} (h : Inv L xs M) (k : Int) : Both L xs (D_T_ends 0 k) (D_M_ends 62 k) M := by
  have h0 := h
  obtain ⟨tc, hI, e7, e4, hC⟩ := h
  have hB := hI.sb
  have t0 := hI.tc_
  have fo := find_ok hB hI.sl e7 t0.2 k
  have it := isTongue_ok hB (by rw [e4]; exact t0) k
  rw [e4] at it
  by_cases qk : 0 ≤ k ∧ k < tc
  · rw [if_pos qk] at fo it
    have nt : ¬ 100 + 12 * k < 0 := by omega
    obtain ⟨r, M1, d1, hI1, hF, er, r01, h7, ho, hs⟩ := isLarge_ok hI qk.1 qk.2
    have hB1 := hI1.sb
    have sc1 := hF.sc hC
    have a7 : M1.1 0 7 = tc := by rw [hF.2 0 (by decide)]; exact e7
    have a4 : M1.1 62 4 = tc := by rw [hF.2 62 (by decide)]; exact e4
    rcases r01 with z | z
    · subst z
      have mok := TG.mok (hI1.2.2.2.2.2.2.2.2.2.2 k qk.1 qk.2) h7 er.symm
      obtain ⟨re, M2, d2, hO, hB2, hre⟩ := endless_ok hB1 hI1.sg.1 mok
      have hI2 : IB M2 tc := hI1.p7 qk.1 qk.2 hO.1 hO.2 hB2
      have o2 : ∀ a, a ≠ 102 + 12 * k + 7 → M2.1 a = M1.1 a := hO.2
      have sc2 : SC L xs M2 := ⟨by rw [hO.1]; exact sc1.1, by rw [o2 _ (by omega)]; exact sc1.2⟩
      have b7 : M2.1 0 7 = tc := by rw [o2 0 (by omega)]; exact a7
      have b4 : M2.1 62 4 = tc := by rw [o2 62 (by omega)]; exact a4
      obtain ⟨r', M3, d3, hI3, hKL, hres⟩ := load_k_ok (m := 16) hI2 qk.1 qk.2 (by rw [o2 _ (by omega)]; exact h7) (Or.inl rfl)
      rcases hres with ⟨u, v⟩ | ⟨u, v, hMo, hE, hWm⟩
      · rw [o2 _ (by omega), ← er] at v; omega
      · subst u
        have hB3 := hI3.sb
        have n1 : M2.1 1 = M1.1 1 := o2 1 (by omega)
        have ek : rkC M2 = rkC M1 := rk_c n1 (o2 2 (by omega))
        have n3 : M3.1 1 = M1.1 1 := by rw [hKL.2.1 1 (by decide) (by decide)]; exact n1
        have ek3 : rkC M3 = rkC M1 := by rw [rk_c (hKL.2.1 1 (by decide) (by decide)) (hKL.2.1 2 (by decide) (by decide))]; exact ek
        rw [n1, ek, mch_c ek (fun a a0 a1 => o2 a (by omega))] at hE
        have hW3 : MW (M3.1 1 1) (rkC M3) (mchR M3 16) := by rw [n3, ek3]; exact hE.mw mok.2.2.1
        obtain ⟨us, M3', d4, e3', ur, hu⟩ := useful_ok hB3 hI3.sg hI3.2.2.2.2.2.2.2.2.1 hW3
        subst e3'
        have fin : OkV (L_M_ends_42 (fun m42 => L_M_ends_65 (fun m65 => L_M_ends_226 (fun m226 => some (1, m226)) 62 us (M3'.1 73 16) FU 0 m65) 62 us (M3'.1 73 16) FU 0 m42) 62 us (M3'.1 73 16) FU 0 M3') (fun r M' => ENP M3' r M') := by
          refine en42_lp hB3 hW3 us _ (fun o => OkV o (fun r M' => ENP M3' r M')) (fun N oN hz => ?_)
          refine en65_lp hB3 hI3.sg hW3 us _ (fun o => OkV o (fun r M' => ENP M3' r M')) oN ⟨fun d d0 d1 => by rw [hz d d0 d1]; decide, fun d c d0 d1 c0 w => by rw [hz d d0 d1] at w; exact absurd w (bt_zero c)⟩ (fun N' oN' hS hC' => ?_)
          exact en226_lp hB3 hW3 oN' hS hC' ur hu
        obtain ⟨rr, M4, d5, o4, hB4, hrr⟩ := fin
        have it2 := isTongue_ok hB2 (by rw [b4]; exact t0) k
        rw [b4, if_pos qk] at it2
        have d73 : rd M3' 10 73 16 = some (M3'.1 73 16) := rd_v (n := 19) (by simp [hB3.m_]) (by decide) (by decide)
        have f34 : FR M3' M4 := ⟨o4.1, fun a _ _ _ _ q => o4.2 a (by omega), fun k _ _ _ _ _ _ _ _ _ _ => by rw [o4.2 62 (by decide)]⟩
        have c7 : M3'.1 0 7 = tc := by rw [hKL.2.1 0 (by decide) (by decide)]; exact b7
        have c4 : M3'.1 62 4 = tc := by rw [hKL.2.2.1 4 (by decide) (by decide) (by decide) (by decide)]; exact b4
        rw [n3, ek3] at hrr
        have ts := (hI1.sl.at qk.1 qk.2).2.1
        have e102 : 100 + 12 * k + 2 = 102 + 12 * k := by clear ts; omega
        have g102 : M1.2.1 (102 + 12 * k) = (1, 14) := mok.1.1
        have key : ∃ v, (re = 0 ∧ v = 1 ∨ re = 1 ∧ v = 0) ∧ rr = v := by
          rcases hre with ⟨w1, w2⟩ | ⟨w1, w2⟩ <;> rcases hrr with ⟨w3, w4⟩ | ⟨w3, w4⟩
          · exact ⟨0, Or.inr ⟨w1, rfl⟩, w3⟩
          · exact absurd (w2.q hE) w4
          · exact absurd (w4.q hE.sy) w2
          · exact ⟨1, Or.inl ⟨w1, rfl⟩, w3⟩
        obtain ⟨v, hv, erv⟩ := key
        subst erv
        refine ⟨rr, M2, M4, ?_, ?_, sc2, f34.inv hI3 c7 c4 (hKL.sc sc2) hB4, hB2⟩
        · unfold D_T_ends
          rcases hv with ⟨w1, w2⟩ | ⟨w1, w2⟩
          · subst w1; subst w2
            simp [-Option.bind_some, -Option.bind_none, gf, pf, rd, wt, ck, ln, lt, bz, nq, up_1, up_2, obs, obn, hB.t_, fo, nt, d1, ts, e102, g102, d2]
          · subst w1; subst w2
            simp [-Option.bind_some, -Option.bind_none, gf, pf, rd, wt, ck, ln, lt, bz, nq, up_1, up_2, obs, obn, hB.t_, fo, nt, d1, ts, e102, g102, d2]
        · unfold D_M_ends
          have q1 : ck M2 62 9 54 = some () := by simp [ck, hB2.m_]
          have q3 : ck M3' 62 9 54 = some () := by simp [ck, hB3.m_]
          have q4 : gf M3' 62 9 54 13 = some 73 := by simp [gf, hB3.m_]
          simp only [q1, obs, it2, d3, q3, d4, q4, d73]
          rw [if_neg (by decide), if_pos (by decide)]
          exact d5
    · subst z
      obtain ⟨r', M3, d3, hI3, hKL, hres⟩ := load_k_ok (m := 16) hI1 qk.1 qk.2 h7 (Or.inl rfl)
      rcases hres with ⟨u, v⟩ | ⟨u, v, -⟩
      · subst u
        have it2 := isTongue_ok hB1 (by rw [a4]; exact t0) k
        rw [a4, if_pos qk] at it2
        refine ⟨-5, M1, M3, ?_, ?_, sc1, ⟨tc, hI3, ?_, ?_, hKL.sc sc1⟩, hB1⟩
        · unfold D_T_ends
          simp [-Option.bind_some, -Option.bind_none, gf, pf, rd, wt, ck, ln, lt, bz, nq, up_1, up_2, obs, obn, hB.t_, fo, nt, d1]
        · unfold D_M_ends
          simp [-Option.bind_some, -Option.bind_none, gf, pf, rd, wt, ck, ln, lt, bz, nq, up_1, up_2, obs, obn, hB1.m_, it2, d3]
        · rw [hKL.2.1 0 (by decide) (by decide)]; exact a7
        · rw [hKL.2.2.1 4 (by decide) (by decide) (by decide) (by decide)]; exact a4
      · rw [← er] at v; omega
  · rw [if_neg qk] at fo it
    refine ⟨-2, M, M, ?_, ?_, hC, h0, hB⟩
    · unfold D_T_ends
      simp [-Option.bind_some, -Option.bind_none, gf, pf, rd, wt, ck, ln, lt, bz, nq, up_1, up_2, obs, obn, hB.t_, fo]
    · unfold D_M_ends
      simp [-Option.bind_some, -Option.bind_none, gf, pf, rd, wt, ck, ln, lt, bz, nq, up_1, up_2, obs, obn, hB.m_, it]
