/-! a tongue's machine is brought up to date -/
theorem canT_c {M M' : Mem} {k : Int} (en : M'.1 1 1 = M.1 1 1) (ek : rkC M' = rkC M) (e0 : nx0 M' k = nx0 M k) (ef : M'.1 67 k = M.1 67 k) : (∀ m, CanT M' k m = CanT M k m) ∧ LgT M' k = LgT M k := by
  have er : rX M' (nx0 M' k) = rX M (nx0 M k) := by
    rw [e0]
    unfold rX
    rw [ek]
  have e1 : fn0 M' k = fn0 M k := by
    funext z
    unfold fn0
    rw [ef]
  refine ⟨fun m => ?_, ?_⟩
  · unfold CanT
    rw [en, ek, er, e1]
  · unfold LgT LgX
    rw [en, ek, er, e1]
/-- only class cells outside the row have changed -/
def FQ (M M' : Mem) : Prop := M'.2 = M.2 ∧ ∀ a, a < 8 ∨ (62 ≤ a ∧ a < 100) ∨ 300 ≤ a → M'.1 a = M.1 a
theorem FQ.rf (M : Mem) : FQ M M := ⟨rfl, fun _ _ => rfl⟩
theorem FQ.tr {M M' M'' : Mem} (h : FQ M M') (h' : FQ M' M'') : FQ M M'' := ⟨h'.1.trans h.1, fun a q => (h'.2 a q).trans (h.2 a q)⟩
theorem FQ.sc {L : Nat} {xs : Int → Int} {M M' : Mem} (h : FQ M M') (q : SC L xs M) : SC L xs M' := ⟨by rw [h.1]; exact q.1, by rw [h.2 _ (by omega)]; exact q.2⟩
theorem nx0_e {M M' : Mem} {k : Int} (ek : rkC M' = rkC M) (h : ∀ a, 66 ≤ a → a ≤ 72 → M'.1 a = M.1 a) : nx0 M' k = nx0 M k := by
  funext s x y
  unfold nx0 Vr
  rw [ek, h 68 (by decide) (by decide), h 69 (by decide) (by decide), h 70 (by decide) (by decide), h 71 (by decide) (by decide), h 72 (by decide) (by decide)]
theorem large_told {M : Mem} {tc k : Int} (hI : IB M tc) (k0 : 0 ≤ k) (k1 : k < tc) (a1 : M.1 65 k = 1) (a3 : TOK M (100 + 12 * k)) (a4 : RV M k) (a5 : M.1 66 k = M.1 (100 + 12 * k) 3) (a6 : M.1 67 k = M.1 (100 + 12 * k) 5) (a8 : TR M M (100 + 12 * k) k) : ∃ M1 M2, D_Net_setTold 8 (100 + 12 * k) M = some M1 ∧ D_Reducer_reduceTo 10 (102 + 12 * k) M1 = some M2 ∧ SB M1 ∧ SB M2 ∧ RB M2 ∧ Z0 M2 ∧ M2.2 = M.2 ∧ (∀ a, a < 8 ∨ (50 ≤ a ∧ (a < 102 + 12 * k ∨ 111 + 12 * k < a)) → M2.1 a = M.1 a) ∧ (∀ a, a < 8 ∨ 10 ≤ a → M1.1 a = M.1 a) ∧ M1.2 = M.2 ∧ (∀ j, j < 10 → M2.1 (102 + 12 * k) j = M.1 (102 + 12 * k) j) ∧ MS M2 (102 + 12 * k) ∧ M2.1 (102 + 12 * k) 13 = 0 ∧ ((M2.1 (102 + 12 * k) 12 = 1 ∧ ∀ m, mN m ≤ 6 → ¬ CanT M k m) ∨ (M2.1 (102 + 12 * k) 12 = 0 ∧ (0 ≤ M2.1 (102 + 12 * k) 11 ∧ M2.1 (102 + 12 * k) 11 < 64) ∧ MW (M.1 1 1) (rkC M) (mch M2 (102 + 12 * k)) ∧ ¬ LgT M k ∧ Num (M.1 1 1) (rkC M) (mch M2 (102 + 12 * k)) ∧ ∀ m, CanT M k m → Eqm (M.1 1 1) (rkC M) (mch M2 (102 + 12 * k)) m)) := by
  have hB := hI.sb
  have hg := hI.sg
  have t16 := hI.tc_
  have k5 := a3.2.2.1
  have ff := a3.2.2.2.1
  obtain ⟨-, -, ms⟩ := hI.sl.at k0 k1
  obtain ⟨M1, e1, hN⟩ := setTold_ok hB hg.1 a3
  have hE := hN.env6 hg.1 (by omega) (by omega) (by decide) (by decide)
  have o1 : ∀ a, a < 8 ∨ 10 ≤ a → M1.1 a = M.1 a := fun a z => hN.2.1 a (by omega) (by omega)
  have l10 : ∀ a, 10 ≤ a → a < 50 → M1.1 a = M.1 a := fun a z _ => o1 a (by omega)
  have ms1 : MS M1 (102 + 12 * k) := MS.c ms (fun j _ => by rw [o1 _ (by clear ms; omega)]) (fun _ _ _ => by rw [hN.1])
  obtain ⟨M2, e2, hR, h13, hres⟩ := reduceTo_ok (p := 102 + 12 * k) hE (hI.2.2.2.2.2.2.1.c l10) (hI.2.2.2.2.2.2.2.1.c l10) ms1 (Or.inr (by clear ms ms1; omega))
  clear ms ms1
  have hJ : ∀ a b, Jn (M.1 1 1) (rkC M) (dN M1) (rX M (nx0 M k)) a b → (acN M1 a = 1 ↔ fn0 M k b = 1) := by
    intro a b j
    obtain ⟨e, v⟩ := joint0 hg.1 a3 hE.1 a4 a5 a8 hN rfl j
    have r := vs_4096 hE.1 v
    rw [ac_10 r.1 r.2 hN.2.2.2.1.2.2.1 hN.2.2.2.1.2.2.2, hN.2.2.2.1.2.1, ← e, ← a6]
    unfold fn0
    by_cases z : iand a (M.1 67 k) = 0
    · rw [if_pos z]; exact ⟨fun w => absurd z w, fun w => by omega⟩
    · rw [if_neg z]; exact ⟨fun _ => rfl, fun _ => z⟩
  rw [hN.n1, hN.rk] at hres
  refine ⟨M1, M2, e1, e2, hN.2.2.1, hR.2.2.2.1, hR.2.2.2.2.1, hR.2.2.2.2.2.1, hR.1.trans hN.1, fun a z => ?_, o1, hN.1, fun j hj => ?_, hR.2.2.2.2.2.2, h13, ?_⟩
  · rw [hR.2.1 a (by omega), o1 a (by omega)]
  · rw [hR.2.2.1 j hj, o1 _ (by omega)]
  · rcases hres with ⟨h12, hL⟩ | ⟨h12, fr, hCan, hW⟩
    · left
      refine ⟨h12, fun m hm hc => ?_⟩
      unfold LgN at hL
      rw [hN.n1, hN.rk] at hL
      exact hc.noLg hm hL (fun a b j => (hJ b a j.sw).symm)
    · right
      refine ⟨h12, fr, hW, fun hL => hCan.noLg hW.1.2 hL hJ, hCan.2.1, fun m hc => hCan.uniq hc hJ⟩
def ILP (M : Mem) (tc k r : Int) (M' : Mem) : Prop := IB M' tc ∧ FQ M M' ∧ r = M'.1 (102 + 12 * k) 12 ∧ (r = 0 ∨ r = 1) ∧ M'.1 (100 + 12 * k) 7 = 0 ∧ (∀ j, j ≠ k → 0 ≤ j → ∀ a, 100 + 12 * j ≤ a → a ≤ 111 + 12 * j → M'.1 a = M.1 a) ∧ (M.1 (100 + 12 * k) 7 = 0 → M' = M)
theorem isLarge_ok {M : Mem} {tc k : Int} (hI : IB M tc) (k0 : 0 ≤ k) (k1 : k < tc) : OkV (D_T_isLarge 0 (100 + 12 * k) M) (fun r M' => ILP M tc k r M') := by
  have hB := hI.sb
  have t16 := hI.tc_
  obtain ⟨c7, ts, ms⟩ := hI.sl.at k0 k1
  have hT := hI.2.2.2.2.2.2.2.2.2.2 k k0 k1
  have e102 : 100 + 12 * k + 2 = 102 + 12 * k := by clear ts ms; omega
  have ts3 : M.1 (100 + 12 * k) 1 = 102 + 12 * k := by rw [← e102]; exact ts.2.2.2.1
  have ts1 : M.2.1 (100 + 12 * k) = (7, 8) := ts.1
  have ms1 : M.2.1 (102 + 12 * k) = (1, 14) := ms.1
  unfold D_T_isLarge
  -- a machine that is up to date
  have fresh : M.1 (100 + 12 * k) 7 = 0 → (M.1 (102 + 12 * k) 12 = 0 ∨ M.1 (102 + 12 * k) 12 = 1) := by
    intro z
    rcases hT with ⟨-, -, -, -, -, -, -, -, w⟩ | ⟨-, -, -, w, -⟩
    · rcases w with w | ⟨-, w⟩
      · clear ts ms; omega
      · rcases w with w | w
        · exact Or.inr w.1
        · exact Or.inl w.1
    · exact Or.inl w
  by_cases z : M.1 (100 + 12 * k) 7 = 0
  · have f := fresh z
    simp [-Option.bind_some, -Option.bind_none, gf, pf, rd, wt, ck, ln, lt, bz, nq, up_1, up_2, obs, obn, ts1, z, ts3, ms1, f]
    exact OkV.i ⟨hI, FQ.rf M, rfl, f, z, fun _ _ _ _ _ _ => rfl, fun _ => rfl⟩
  · rcases hT with ⟨a1, a2, a3, a4, a5, a6, a7, a8, a9⟩ | ⟨-, -, w, -⟩
    · obtain ⟨M1, M2, e1, e2, hB1, hB2, hR2, hZ2, s2, o2, o1, s1, f2, ms2, h13, hres⟩ := large_told hI k0 k1 a1 a3 a4 a5 a6 a8
      clear c7 ts ms
      have q1 : M1.1 (100 + 12 * k) 1 = 102 + 12 * k := by rw [o1 _ (by omega)]; exact ts3
      have q2 : M2.1 (100 + 12 * k) 1 = 102 + 12 * k := by rw [o2 _ (by clear ms2; omega)]; exact ts3
      have r1 : M1.2.1 (100 + 12 * k) = (7, 8) := by rw [s1]; exact ts1
      have r2 : M2.2.1 (100 + 12 * k) = (7, 8) := by rw [s2]; exact ts1
      have r2' : M2.2.1 (102 + 12 * k) = (1, 14) := by rw [s2]; exact ms1
      have n1 : ¬ 102 + 12 * k = 100 + 12 * k := by clear ms2; omega
      have f01 : M2.1 (102 + 12 * k) 12 = 0 ∨ M2.1 (102 + 12 * k) 12 = 1 := by
        rcases hres with w | w
        · exact Or.inr w.1
        · exact Or.inl w.1
      simp [-Option.bind_some, -Option.bind_none, gf, pf, rd, wt, ck, ln, lt, bz, nq, up_1, up_2, obs, obn, ts1, z, hB.t_, hB.n_, e1, hB1.t_, r1, q1, hB1.d_, e2, r2, q2, r2', n1, f01]
      have hB3 : SB (up M2 (100 + 12 * k) 7 0) := SB_up hB2 (by clear ms2; unfold stp; omega)
      have o3 : ∀ a, a ≠ 100 + 12 * k → (up M2 (100 + 12 * k) 7 0).1 a = M2.1 a := fun a w => up_n w
      have t3 : ∀ j, j ≠ 7 → (up M2 (100 + 12 * k) 7 0).1 (100 + 12 * k) j = M.1 (100 + 12 * k) j := fun j w => by rw [up_1, if_neg (fun y => w y.2), o2 _ (by clear ms2; omega)]
      have t7 : (up M2 (100 + 12 * k) 7 0).1 (100 + 12 * k) 7 = 0 := by rw [up_1, if_pos ⟨rfl, rfl⟩]
      have s3 : (up M2 (100 + 12 * k) 7 0).2 = M.2 := by rw [up_2]; exact s2
      generalize up M2 (100 + 12 * k) 7 0 = M3 at *
      have low : ∀ a, a < 8 ∨ (50 ≤ a ∧ a ≠ 100 + 12 * k ∧ (a < 102 + 12 * k ∨ 111 + 12 * k < a)) → M3.1 a = M.1 a := fun a w => by rw [o3 a (by clear ms2; omega)]; exact o2 a (by clear ms2; omega)
      have pq : ∀ a, 102 + 12 * k ≤ a → a ≤ 111 + 12 * k → M3.1 a = M2.1 a := fun a w0 w1 => o3 a (by clear ms2; omega)
      have c1 : M3.1 1 = M.1 1 := low 1 (by clear ms2; omega)
      have c2 : M3.1 2 = M.1 2 := low 2 (by clear ms2; omega)
      have ek : rkC M3 = rkC M := rk_c c1 c2
      have ek2 : rkC M2 = rkC M := rk_c (o2 1 (by clear ms2; omega)) (o2 2 (by clear ms2; omega))
      have lr : ∀ a, 62 ≤ a → a < 100 → M3.1 a = M.1 a := fun a w0 w1 => low a (by clear ms2; omega)
      have em : mch M3 (102 + 12 * k) = mch M2 (102 + 12 * k) := mch_c (ek.trans ek2.symm) (fun a w0 w1 => pq a w0 (by clear ms2; omega))
      have ct := canT_c (k := k) (M := M) (M' := M3) (by rw [c1]) ek (nx0_e ek (fun a w0 w1 => lr a (by omega) (by omega))) (by rw [lr 67 (by decide) (by decide)])
      have ms3 : MS M3 (102 + 12 * k) := MS.c ms2 (fun j _ => by rw [pq _ (by clear ms2; omega) (by clear ms2; omega)]) (fun _ _ _ => by rw [s3, s2])
      have hMK : MK M3 (102 + 12 * k) k := by
        rcases hres with ⟨w1, w2⟩ | ⟨w1, w2, w3, w4, w6, w5⟩
        · left
          exact ⟨by rw [pq _ (by clear ms2 ms3; omega) (by clear ms2 ms3; omega)]; exact w1, fun m hm => by rw [ct.1]; exact w2 m hm⟩
        · right
          refine ⟨by rw [pq _ (by clear ms2 ms3; omega) (by clear ms2 ms3; omega)]; exact w1, ⟨ms3, Or.inr (by clear ms2 ms3; omega), by rw [c1, ek, em]; exact w3, by rw [pq _ (by clear ms2 ms3; omega) (by clear ms2 ms3; omega)]; exact w2⟩, ⟨by rw [c1, ek, em]; exact w6, Or.inl (by rw [pq _ (by clear ms2 ms3; omega) (by clear ms2 ms3; omega)]; exact h13)⟩, by rw [ct.2]; exact w4, fun m hm => ?_⟩
          rw [ct.1] at hm
          rw [c1, ek, em]
          exact w5 m hm
      have hTG : TG M3 k := by
        left
        refine ⟨by rw [lr 65 (by decide) (by decide)]; exact a1, by rw [t3 6 (by decide)]; exact a2, ?_, ?_, by rw [lr 66 (by decide) (by decide), t3 3 (by decide)]; exact a5, by rw [lr 67 (by decide) (by decide), t3 5 (by decide)]; exact a6, by rw [lr 68 (by decide) (by decide), t3 4 (by decide)]; exact a7, ?_, Or.inr ⟨t7, hMK⟩⟩
        · refine ⟨a3.1, TS.c a3.2.1 (fun j hj => t3 j (by clear ms2 ms3; omega)) (fun _ _ _ => by rw [s3]), by rw [t3 3 (by decide)]; exact a3.2.2.1, by rw [t3 5 (by decide)]; exact a3.2.2.2.1, ?_⟩
          rw [low (100 + 12 * k + 1) (by clear ms2 ms3; omega), t3 3 (by decide)]
          exact a3.2.2.2.2
        · exact a4.c (by rw [c1]) ek (fun a w0 w1 => by rw [lr a (by clear ms2 ms3; omega) (by clear ms2 ms3; omega)]) (fun a i w0 w1 _ _ => by rw [lr a (by clear ms2 ms3; omega) (by clear ms2 ms3; omega)])
        · have esd : SD M3 (100 + 12 * k) = SD M (100 + 12 * k) := by
            funext s x y
            unfold SD
            rw [ek, low (100 + 12 * k + 1) (by clear ms2 ms3; omega)]
          unfold TR at a8 ⊢
          rw [c1, ek, t3 3 (by decide), esd, lr 68 (by decide) (by decide), lr 69 (by decide) (by decide), lr 70 (by decide) (by decide), lr 71 (by decide) (by decide), lr 72 (by decide) (by decide)]
          exact a8
      have oth : ∀ j, j ≠ k → 0 ≤ j → ∀ a, 100 + 12 * j ≤ a → a ≤ 111 + 12 * j → M3.1 a = M.1 a := fun j jk j0 a w0 w1 => low a (by clear ms2 ms3; omega)
      refine OkV.i ⟨?_, ⟨s3, fun a w => low a (by clear ms2 ms3; omega)⟩, by rw [pq _ (by clear ms2 ms3; omega) (by clear ms2 ms3; omega)], f01, t7, oth, fun w => absurd w z⟩
      refine hI.mk2 t16 hB3 c1 c2 (low 3 (by clear ms2; omega)) (low 4 (by clear ms2; omega)) (by rw [lr 62 (by decide) (by decide)]) (by rw [lr 62 (by decide) (by decide)]) (lr 63 (by decide) (by decide)) (lr 64 (by decide) (by decide)) (hI.sl.c (Int.le_refl _) s3 (low 7 (by clear ms2; omega)) (fun a w0 w1 w2 j hj => ?_) (fun a w0 w1 w2 j hj => ?_)) ?_ ?_ ?_ ?_ (fun j j0 j1 => ?_)
      · by_cases y : a = 100 + 12 * k
        · rw [y]; exact t3 j (by clear ms2 ms3; omega)
        · rw [low a (by clear ms2 ms3; omega)]
      · by_cases y : a = 102 + 12 * k
        · rw [y, pq _ (by clear ms2 ms3; omega) (by clear ms2 ms3; omega)]; exact f2 j hj
        · rw [low a (by clear ms2 ms3; omega)]
      · exact hR2.c (fun a w0 w1 => o3 a (by clear ms2 ms3; omega))
      · exact hZ2.c (fun a w0 w1 => o3 a (by clear ms2 ms3; omega))
      · intro j w0 w1
        rw [lr 75 (by decide) (by decide)]; exact hI.2.2.2.2.2.2.2.2.1 j w0 w1
      · intro j w0 w1
        rw [lr 65 (by decide) (by decide)]; exact hI.2.2.2.2.2.2.2.2.2.1 j w0 w1
      · by_cases y : j = k
        · rw [y]; exact hTG
        · refine TG.c ⟨fun a w0 w1 => ⟨oth j y j0 a w0 w1, by rw [s3]⟩, by rw [c1], ek, fun a w0 w1 => by rw [lr a (by clear ms2 ms3; omega) (by clear ms2 ms3; omega)], fun a i w0 w1 _ _ => by rw [lr a (by clear ms2 ms3; omega) (by clear ms2 ms3; omega)], by rw [lr 73 (by decide) (by decide)], fun i _ _ => by rw [lr 74 (by decide) (by decide)], fun a c w0 w1 _ _ => by rw [lr a (by clear ms2 ms3; omega) (by clear ms2 ms3; omega)]⟩ hI.sg.1.2.1 (hI.2.2.2.2.2.2.2.2.2.2 j j0 j1)
    · exact absurd w z
