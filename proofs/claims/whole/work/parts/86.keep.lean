/-! what stands in the net becomes the next tongue -/
theorem Env.c {M M' : Mem} (E : Env M) (hB : SB M') (e1 : M'.1 1 = M.1 1) (e2 : M'.1 2 = M.1 2) (e8 : M'.1 8 = M.1 8) (e9 : M'.1 9 = M.1 9) : Env M' ∧ dN M' = dN M ∧ acN M' = acN M ∧ rkC M' = rkC M := by
  have ek : rkC M' = rkC M := rk_c e1 e2
  have ed : dN M' = dN M := by
    funext s x y
    unfold dN imgA imgB
    rw [ek, e8, e9]
  have ea : acN M' = acN M := by
    funext z
    unfold acN
    rw [e8]
  refine ⟨⟨?_, ?_, ?_, hB⟩, ed, ea, ek⟩
  · have := E.1
    unfold NtOk at this ⊢
    rw [e8, e9]; exact this
  · have := E.2.1
    unfold SgOk at this ⊢
    rw [e1, e2]; exact this
  · have := E.2.2.1
    unfold RN at this ⊢
    rw [e1, ek, ed]; exact this
/-- what a new tongue leaves of the class's memory -/
def FK (tc : Int) (M M' : Mem) : Prop := (∀ a, a < 100 ∨ 300 ≤ a → M'.2.1 a = M.2.1 a) ∧ (∀ a, (1 ≤ a ∧ a < 7) ∨ (62 ≤ a ∧ a < 100) ∨ 300 ≤ a → M'.1 a = M.1 a) ∧ ∀ j, 0 ≤ j → j < tc → ∀ a, 100 + 12 * j ≤ a → a ≤ 111 + 12 * j → M'.1 a = M.1 a
def KPP (M0 M : Mem) (tc r : Int) (M' : Mem) : Prop := IB M' tc ∧ SL M' (tc + 1) ∧ FK tc M0 M' ∧ ((r = -5 ∧ M'.1 0 7 = tc ∧ Lg (M0.1 1 1) (rkC M0) (dN M) (fun z => acN M z = 1)) ∨ (r = tc ∧ M'.1 0 7 = tc + 1 ∧ M'.1 (100 + 12 * tc) 6 = 0 ∧ M'.1 (100 + 12 * tc) 7 = 0 ∧ M'.1 (102 + 12 * tc) 12 = 0 ∧ M'.1 (102 + 12 * tc) 13 = 0 ∧ MOK M' (102 + 12 * tc) ∧ Can (M0.1 1 1) (rkC M0) (dN M) (fun z => acN M z = 1) (mch M' (102 + 12 * tc))))
theorem keep_ok {M0 M : Mem} {tc : Int} (hI : IB M0 tc) (hN : Nf M0 M) (E : Env M) (e7 : M0.1 0 7 = tc) (t16 : tc < 16) : OkV (D_T_keep 0 M) (fun r M' => KPP M0 M tc r M') := by
  have t0 := hI.tc_
  have hB := hN.2.2
  have e07 : M.1 0 7 = tc := by rw [hN.2.1 0 (by decide) (by decide)]; exact e7
  have hSL : SL M tc := by
    refine hI.sl.c (Int.le_refl _) hN.1 (hN.2.1 7 (by decide) (by decide)) (fun a a0 a1 _ k _ => by rw [hN.2.1 a (by omega) (by omega)]) (fun a a0 a1 _ k _ => by rw [hN.2.1 a (by omega) (by omega)])
  obtain ⟨M1, e1, hS1, hB1, o1⟩ := slot_ok hB hSL t0.1 t16
  obtain ⟨c7, ts1, ms1⟩ := hS1.at (k := tc) t0.1 (by omega)
  have e102 : 100 + 12 * tc + 2 = 102 + 12 * tc := by clear ts1 ms1; omega
  have n07 : ¬ (0 : Int) = 100 + 12 * tc := by clear ts1 ms1; omega
  have ts3 : M1.1 (100 + 12 * tc) 1 = 102 + 12 * tc := by rw [← e102]; exact ts1.2.2.2.1
  -- the memory that the reducer sees
  have hB2 : SB (up (up M1 (100 + 12 * tc) 6 0) (100 + 12 * tc) 7 0) := by
    clear ts1 ms1
    exact SB_up (SB_up hB1 (by unfold stp; omega)) (by unfold stp; omega)
  have o2 : ∀ a, a ≠ 100 + 12 * tc → (up (up M1 (100 + 12 * tc) 6 0) (100 + 12 * tc) 7 0).1 a = M1.1 a := fun a q => by rw [up_n q, up_n q]
  have s2 : (up (up M1 (100 + 12 * tc) 6 0) (100 + 12 * tc) 7 0).2 = M1.2 := by rw [up_2, up_2]
  have p6 : (up (up M1 (100 + 12 * tc) 6 0) (100 + 12 * tc) 7 0).1 (100 + 12 * tc) 6 = 0 := by simp [-Option.bind_some, -Option.bind_none, gf, pf, rd, wt, ck, ln, lt, bz, nq, up_1, up_2, obs, obn]
  have p7 : (up (up M1 (100 + 12 * tc) 6 0) (100 + 12 * tc) 7 0).1 (100 + 12 * tc) 7 = 0 := by simp [-Option.bind_some, -Option.bind_none, gf, pf, rd, wt, ck, ln, lt, bz, nq, up_1, up_2, obs, obn]
  have p1 : ∀ j, j < 3 → (up (up M1 (100 + 12 * tc) 6 0) (100 + 12 * tc) 7 0).1 (100 + 12 * tc) j = M1.1 (100 + 12 * tc) j := fun j hj => by rw [up_1, if_neg (by clear ts1 ms1; omega), up_1, if_neg (by clear ts1 ms1; omega)]
  have ts1' : M1.2.1 (100 + 12 * tc) = (7, 8) := ts1.1
  have pre : D_T_keep 0 M = ((gf (up (up M1 (100 + 12 * tc) 6 0) (100 + 12 * tc) 7 0) 0 8 8 4).bind fun g20 => (gf (up (up M1 (100 + 12 * tc) 6 0) (100 + 12 * tc) 7 0) (100 + 12 * tc) 7 8 1).bind fun g24 => (ck (up (up M1 (100 + 12 * tc) 6 0) (100 + 12 * tc) 7 0) g20 3 17).bind fun _ => (D_Reducer_reduceTo g20 g24 (up (up M1 (100 + 12 * tc) 6 0) (100 + 12 * tc) 7 0)).bind fun x27 => (gf x27 (100 + 12 * tc) 7 8 1).bind fun g31 => (gf x27 g31 1 14 12).bind fun g34 => if g34 = 0 then ((gf x27 0 8 8 7).bind fun g47 => (pf x27 0 8 8 7 (wr (g47 + 1))).bind fun m53 => some (g47, m53)) else (some ((-5), x27))) := by
    unfold D_T_keep
    have g7 : gf M 0 8 8 7 = some tc := by simp [gf, hB.t_, e07]
    have c0 : ck M 0 8 8 = some () := by simp [ck, hB.t_]
    have q1 : pf M1 (100 + 12 * tc) 7 8 6 0 = some (up M1 (100 + 12 * tc) 6 0) := by simp [pf, ts1']
    have q2 : pf (up M1 (100 + 12 * tc) 6 0) (100 + 12 * tc) 7 8 7 0 = some (up (up M1 (100 + 12 * tc) 6 0) (100 + 12 * tc) 7 0) := by simp [pf, ts1', up_2]
    rw [g7, obs, c0, obs, e1, obs]
    dsimp only
    rw [q1, obs, q2, obs]
  rw [pre]
  clear pre
  generalize hM2 : up (up M1 (100 + 12 * tc) 6 0) (100 + 12 * tc) 7 0 = M2 at *
  have oa : ∀ a, a ≠ 7 → (a < 100 + 12 * tc ∨ 112 + 12 * tc ≤ a) → M2.1 a = M.1 a := fun a q q' => by rw [o2 a (by clear ts1 ms1; omega), (o1 a q q').1]
  obtain ⟨E2, ed, ea, ek⟩ := E.c hB2 (oa 1 (by decide) (by clear ts1 ms1; omega)) (oa 2 (by decide) (by clear ts1 ms1; omega)) (oa 8 (by decide) (by clear ts1 ms1; omega)) (oa 9 (by decide) (by clear ts1 ms1; omega))
  have l10 : ∀ a, 10 ≤ a → a < 50 → M2.1 a = M0.1 a := fun a a0 a1 => by rw [oa a (by omega) (by clear ts1 ms1; omega), hN.2.1 a (by omega) (by omega)]
  have ms2 : MS M2 (102 + 12 * tc) := MS.c ms1 (fun j _ => by rw [o2 _ (by clear ts1 ms1; omega)]) (fun _ _ _ => by rw [s2])
  obtain ⟨M3, e3, hR, h13, hres⟩ := reduceTo_ok (p := 102 + 12 * tc) E2 (hI.2.2.2.2.2.2.1.c l10) (hI.2.2.2.2.2.2.2.1.c l10) ms2 (Or.inr (by clear ts1 ms1 ms2; omega))
  clear ts1 ms1 ms2
  have hB3 := hR.2.2.2.1
  have o3 : ∀ a, a < 8 ∨ (50 ≤ a ∧ (a < 102 + 12 * tc ∨ 111 + 12 * tc < a)) → M3.1 a = M2.1 a := fun a q => hR.2.1 a (by omega)
  have s3 : M3.2 = M1.2 := hR.1.trans s2
  have t1 : M2.1 (100 + 12 * tc) 1 = 102 + 12 * tc := by rw [p1 1 (by decide)]; exact ts3
  have t1' : M3.1 (100 + 12 * tc) 1 = 102 + 12 * tc := by rw [o3 _ (by omega)]; exact t1
  have r2 : M2.2.1 (100 + 12 * tc) = (7, 8) := by rw [s2]; exact ts1'
  have r3 : M3.2.1 (100 + 12 * tc) = (7, 8) := by rw [s3]; exact ts1'
  have r3' : M3.2.1 (102 + 12 * tc) = (1, 14) := hR.2.2.2.2.2.2.1
  have m07 : M3.1 0 7 = tc := by rw [o3 0 (by omega), oa 0 (by decide) (by omega)]; exact e07
  have ew : wr (tc + 1) = tc + 1 := wr_eq (by omega) (by omega)
  have n1 : M2.1 1 1 = M0.1 1 1 := by rw [oa 1 (by decide) (by omega), hN.2.1 1 (by decide) (by decide)]
  have ek0 : rkC M2 = rkC M0 := ek.trans hN.rk
  -- the invariant for all memories that end it
  have fin : ∀ M4 : Mem, M4.2 = M3.2 → SB M4 → (∀ a, a ≠ 0 → M4.1 a = M3.1 a) → IB M4 tc ∧ SL M4 (tc + 1) ∧ FK tc M0 M4 := by
    intro M4 s4 hB4 o4
    have low : ∀ a, (1 ≤ a ∧ a < 7) ∨ (62 ≤ a ∧ a < 100) ∨ 300 ≤ a → M4.1 a = M0.1 a := fun a q => by rw [o4 a (by omega), o3 a (by omega), oa a (by omega) (by omega), hN.2.1 a (by omega) (by omega)]
    have slo : ∀ j, 0 ≤ j → j < tc → ∀ a, 100 + 12 * j ≤ a → a ≤ 111 + 12 * j → M4.1 a = M0.1 a := fun j j0 j1 a a0 a1 => by rw [o4 a (by omega), o3 a (by omega), oa a (by omega) (by omega), hN.2.1 a (by omega) (by omega)]
    have c7' : M4.1 7 = M1.1 7 := by rw [o4 7 (by decide), o3 7 (by omega), o2 7 (by omega)]
    have sl4 : SL M4 (tc + 1) := by
      obtain ⟨sc', u1, u2, u3, u4, u5⟩ := hS1
      refine ⟨sc', u1, u2, by rw [s4, s3]; exact u3, fun k k0 k1 => ?_, fun k k0 k1 => by rw [c7']; exact u5 k k0 k1⟩
      obtain ⟨v1, v2, v3⟩ := u4 k k0 k1
      refine ⟨by rw [c7']; exact v1, ?_, ?_⟩
      · refine TS.c v2 (fun j hj => ?_) (fun a _ _ => by rw [s4, s3])
        by_cases z : k = tc
        · rw [z, o4 _ (by clear v2 v3; omega), o3 _ (by clear v2 v3; omega)]; exact p1 j hj
        · rw [o4 _ (by clear v2 v3; omega), o3 _ (by clear v2 v3; omega), o2 _ (by clear v2 v3; omega)]
      · refine MS.c v3 (fun j hj => ?_) (fun a _ _ => by rw [s4, s3])
        by_cases z : k = tc
        · rw [z, o4 _ (by clear v2 v3; omega), hR.2.2.1 j hj, o2 _ (by clear v2 v3; omega)]
        · rw [o4 _ (by clear v2 v3; omega), o3 _ (by clear v2 v3; omega), o2 _ (by clear v2 v3; omega)]
    have sh : ∀ a, a < 100 + 12 * tc ∨ 112 + 12 * tc ≤ a → M4.2.1 a = M0.2.1 a := fun a q => by
      rw [s4, s3]
      by_cases z : a = 7
      · rw [z, hB1.t_.2.1, hI.sb.t_.2.1]
      · rw [(o1 a z q).2, hN.1]
    have c1 : M4.1 1 = M0.1 1 := low 1 (by decide)
    have c2 : M4.1 2 = M0.1 2 := low 2 (by decide)
    have lr : ∀ a, 62 ≤ a → a < 100 → M4.1 a = M0.1 a := fun a a0 a1 => low a (by omega)
    refine ⟨?_, sl4, fun a q => sh a (by omega), low, slo⟩
    refine hI.mk2 t0 hB4 c1 c2 (low 3 (by decide)) (low 4 (by decide)) (by rw [lr 62 (by decide) (by decide)]) (by rw [lr 62 (by decide) (by decide)]) (lr 63 (by decide) (by decide)) (lr 64 (by decide) (by decide)) ?_ ?_ ?_ ?_ ?_ (fun j j0 j1 => ?_)
    · obtain ⟨sc', u1, u⟩ := sl4
      exact ⟨sc', by omega, u⟩
    · exact hR.2.2.2.2.1.c (fun a a0 a1 => o4 a (by omega))
    · exact hR.2.2.2.2.2.1.c (fun a a0 a1 => o4 a (by omega))
    · intro j a b
      rw [lr 75 (by decide) (by decide)]; exact hI.2.2.2.2.2.2.2.2.1 j a b
    · intro j a b
      rw [lr 65 (by decide) (by decide)]; exact hI.2.2.2.2.2.2.2.2.2.1 j a b
    · refine TG.c ⟨fun a a0 a1 => ⟨slo j j0 j1 a a0 a1, sh a (by omega)⟩, by rw [c1], rk_c c1 c2, fun a a0 a1 => by rw [lr a (by omega) (by omega)], fun a i a0 a1 _ _ => by rw [lr a (by omega) (by omega)], by rw [lr 73 (by decide) (by decide)], fun i _ _ => by rw [lr 74 (by decide) (by decide)], fun a c a0 a1 _ _ => by rw [lr a (by omega) (by omega)]⟩ hI.sg.1.2.1 (hI.2.2.2.2.2.2.2.2.2.2 j j0 j1)
  rw [n1, ek0, ed, ea] at hres
  rcases hres with ⟨h12, hL⟩ | ⟨h12, fr, hCan, hW⟩
  · have h12' : ¬ M3.1 (102 + 12 * tc) 12 = 0 := by omega
    simp [-Option.bind_some, -Option.bind_none, gf, pf, rd, wt, ck, ln, lt, bz, nq, up_1, up_2, obs, obn, hB2.t_, r2, t1, hB2.d_, e3, r3, t1', r3', h12']
    have f := fin M3 rfl hB3 (fun _ _ => rfl)
    unfold LgN at hL
    rw [n1, ek0, ed, ea] at hL
    exact OkV.i ⟨f.1, f.2.1, f.2.2, Or.inl ⟨rfl, m07, hL⟩⟩
  · simp [-Option.bind_some, -Option.bind_none, gf, pf, rd, wt, ck, ln, lt, bz, nq, up_1, up_2, obs, obn, hB2.t_, r2, t1, hB2.d_, e3, r3, t1', r3', h12, hB3.t_, m07, ew]
    have hB4 : SB (up M3 0 7 (tc + 1)) := SB_up hB3 (by decide)
    have o4 : ∀ a, a ≠ 0 → (up M3 0 7 (tc + 1)).1 a = M3.1 a := fun a q => up_n q
    have s4 : (up M3 0 7 (tc + 1)).2 = M3.2 := up_2 _ _ _ _
    have z7 : (up M3 0 7 (tc + 1)).1 0 7 = tc + 1 := by simp [-Option.bind_some, -Option.bind_none, gf, pf, rd, wt, ck, ln, lt, bz, nq, up_1, up_2, obs, obn]
    generalize up M3 0 7 (tc + 1) = M4 at *
    have f := fin M4 s4 hB4 o4
    have ek4 : rkC M4 = rkC M3 := rk_c (o4 1 (by decide)) (o4 2 (by decide))
    have ek3 : rkC M3 = rkC M0 := (rk_c (o3 1 (by omega)) (o3 2 (by omega))).trans ek0
    have em : mch M4 (102 + 12 * tc) = mch M3 (102 + 12 * tc) := mch_c ek4 (fun a a0 a1 => o4 a (by omega))
    have n4 : M4.1 1 1 = M0.1 1 1 := by rw [o4 1 (by decide), o3 1 (by omega)]; exact n1
    refine OkV.i ⟨f.1, f.2.1, f.2.2, Or.inr ⟨rfl, z7, ?_, ?_, by rw [o4 _ (by omega)]; exact h12, by rw [o4 _ (by omega)]; exact h13, ⟨?_, Or.inr (by omega), ?_, by rw [o4 _ (by omega)]; exact fr⟩, by rw [em]; exact hCan⟩⟩
    · rw [o4 _ (by omega), o3 _ (by omega)]; exact p6
    · rw [o4 _ (by omega), o3 _ (by omega)]; exact p7
    · exact MS.c hR.2.2.2.2.2.2 (fun j _ => by rw [o4 _ (by omega)]) (fun _ _ _ => by rw [s4])
    · rw [n4, ek4.trans ek3, em]; exact hW
