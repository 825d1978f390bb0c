/-! calls: rules and final states -/
theorem cel_inj5 {r s k1 k2 r' s' k1' k2' : Int} (hr : s = s' → r = r') (a1 : 0 ≤ k1 ∧ k1 < 5) (a2 : 0 ≤ k2 ∧ k2 < 5) (b1 : 0 ≤ k1' ∧ k1' < 5) (b2 : 0 ≤ k2' ∧ k2' < 5) (e : cel r s k1 k2 5 = cel r' s' k1' k2' 5) : s = s' ∧ (1 ≤ r → k1 = k1') ∧ (2 ≤ r → k2 = k2') := by
  unfold cel at e
  have c1 : 0 ≤ (if 0 < r then k1 else 0) ∧ (if 0 < r then k1 else 0) < 5 := by split <;> omega
  have c2 : 0 ≤ (if 1 < r then k2 else 0) ∧ (if 1 < r then k2 else 0) < 5 := by split <;> omega
  have c3 : 0 ≤ (if 0 < r' then k1' else 0) ∧ (if 0 < r' then k1' else 0) < 5 := by split <;> omega
  have c4 : 0 ≤ (if 1 < r' then k2' else 0) ∧ (if 1 < r' then k2' else 0) < 5 := by split <;> omega
  have hs : s = s' := by omega
  have := hr hs
  subst this
  refine ⟨hs, fun q => ?_, fun q => ?_⟩
  · rw [if_pos (show 0 < r by omega), if_pos (show 0 < r by omega)] at e
    rw [if_pos (show 0 < r by omega)] at c1 c3
    omega
  · rw [if_pos (show 1 < r by omega), if_pos (show 1 < r by omega)] at e
    rw [if_pos (show 1 < r by omega)] at c2 c4
    omega
theorem hasState_ok {M : Mem} {t q : Int} (hS : M.2.1 t = (7, 8)) : D_Tongue_hasState t q M = some (if 0 ≤ q ∧ q < M.1 t 3 then 1 else 0, M) := by
  unfold D_Tongue_hasState
  by_cases q0 : q < 0
  · rw [if_neg (show ¬ (0 ≤ q ∧ q < M.1 t 3) by omega)]
    simp [-Option.bind_some, -Option.bind_none, gf, pf, rd, wt, ck, ln, lt, bz, nq, up_1, up_2, obs, obn, q0]
  · by_cases q1 : M.1 t 3 ≤ q
    · rw [if_neg (show ¬ (0 ≤ q ∧ q < M.1 t 3) by omega)]
      simp [-Option.bind_some, -Option.bind_none, gf, pf, rd, wt, ck, ln, lt, bz, nq, up_1, up_2, obs, obn, q0, hS, q1]
    · rw [if_pos (show 0 ≤ q ∧ q < M.1 t 3 by omega)]
      simp [-Option.bind_some, -Option.bind_none, gf, pf, rd, wt, ck, ln, lt, bz, nq, up_1, up_2, obs, obn, q0, hS, q1]
/-- one tongue, its cells and its rules have changed -/
theorem IB.tell {M M' : Mem} {tc k : Int} (h : IB M tc) (k0 : 0 ≤ k) (k1 : k < tc) (hB : SB M') (e2 : M'.2 = M.2) (eo : ∀ a, a ≠ 100 + 12 * k → a ≠ 101 + 12 * k → (a < 67 ∨ 72 < a) → M'.1 a = M.1 a) (et : ∀ j, j < 3 → M'.1 (100 + 12 * k) j = M.1 (100 + 12 * k) j) (e67 : ∀ a j, 67 ≤ a → a ≤ 68 → j ≠ k → M'.1 a j = M.1 a j) (e69 : ∀ a j, 69 ≤ a → a ≤ 72 → ¬ (40 * k ≤ j ∧ j < 40 * k + 40) → M'.1 a j = M.1 a j) (hT : TG M' k) : IB M' tc := by
  have t16 := h.tc_
  have c1 : M'.1 1 = M.1 1 := eo 1 (by omega) (by omega) (by decide)
  have c2 : M'.1 2 = M.1 2 := eo 2 (by omega) (by omega) (by decide)
  have c62 : M'.1 62 = M.1 62 := eo 62 (by omega) (by omega) (by decide)
  have l10 : ∀ a, 10 ≤ a → a < 50 → M'.1 a = M.1 a := fun a a0 a1 => eo a (by omega) (by omega) (by omega)
  refine h.mk2 t16 hB c1 c2 (eo 3 (by omega) (by omega) (by decide)) (eo 4 (by omega) (by omega) (by decide)) (by rw [c62]) (by rw [c62]) (eo 63 (by omega) (by omega) (by decide)) (eo 64 (by omega) (by omega) (by decide)) (h.sl.c (Int.le_refl _) e2 (eo 7 (by omega) (by omega) (by decide)) (fun a a0 a1 a2 j hj => ?_) (fun a a0 a1 a2 j hj => ?_)) (h.2.2.2.2.2.2.1.c l10) (h.2.2.2.2.2.2.2.1.c l10) ?_ ?_ (fun j j0 j1 => ?_)
  · by_cases z : a = 100 + 12 * k
    · rw [z]; exact et j hj
    · rw [eo a z (by omega) (by omega)]
  · rw [eo a (by omega) (by omega) (by omega)]
  · intro j a b
    rw [eo 75 (by omega) (by omega) (by decide)]; exact h.2.2.2.2.2.2.2.2.1 j a b
  · intro j a b
    rw [eo 65 (by omega) (by omega) (by decide)]; exact h.2.2.2.2.2.2.2.2.2.1 j a b
  · by_cases z : j = k
    · rw [z]; exact hT
    · refine TG.c ⟨fun a a0 a1 => ⟨eo a (by omega) (by omega) (by omega), by rw [e2]⟩, by rw [c1], rk_c c1 c2, fun a a0 a1 => ?_, fun a i a0 a1 i0 i1 => e69 a _ a0 a1 (by omega), by rw [eo 73 (by omega) (by omega) (by decide)], fun i _ _ => by rw [eo 74 (by omega) (by omega) (by decide)], fun a c a0 a1 _ _ => by rw [eo a (by omega) (by omega) (by omega)]⟩ h.sg.1.2.1 (h.2.2.2.2.2.2.2.2.2.2 j j0 j1)
      by_cases y : a < 67
      · rw [eo a (by omega) (by omega) (by omega)]
      · exact e67 a j (by omega) (by omega) z
theorem rule_tg {M M2 : Mem} {k s x y q c : Int} (hg : SgE M) (s0 : 0 ≤ s) (s1 : s < M.1 1 1) (bx : 1 ≤ rkC M s → 0 ≤ x ∧ x < M.1 (100 + 12 * k) 3) (by' : 2 ≤ rkC M s → 0 ≤ y ∧ y < M.1 (100 + 12 * k) 3) (bq : 0 ≤ q ∧ q < M.1 (100 + 12 * k) 3) (hc : c = cel (rkC M s) s (if 1 ≤ rkC M s then x else 0) (if 2 ≤ rkC M s then y else 0) 5) (a1 : M.1 65 k = 1) (a2 : M.1 (100 + 12 * k) 6 = 1) (a3 : TOK M (100 + 12 * k)) (a4 : RV M k) (a5 : M.1 66 k = M.1 (100 + 12 * k) 3) (a6 : M.1 67 k = M.1 (100 + 12 * k) 5) (a7 : M.1 68 k = M.1 (100 + 12 * k) 4) (a8 : TR M M (100 + 12 * k) k) (full : M.1 (100 + 12 * k) 4 < 40) (e2 : M2.2 = M.2) (b1 : M2.1 1 = M.1 1) (b2 : M2.1 2 = M.1 2) (bt1 : M2.1 (100 + 12 * k + 1) = ud (M.1 (100 + 12 * k + 1)) c (ior (M.1 (100 + 12 * k + 1) c) (ishl 1 q))) (bt : ∀ j, j ≠ 4 → j ≠ 7 → M2.1 (100 + 12 * k) j = M.1 (100 + 12 * k) j) (b4 : M2.1 (100 + 12 * k) 4 = M.1 (100 + 12 * k) 4 + 1) (b7 : M2.1 (100 + 12 * k) 7 = 1) (b65 : M2.1 65 k = M.1 65 k) (b66 : M2.1 66 k = M.1 66 k) (b67 : M2.1 67 k = M.1 67 k) (b68 : M2.1 68 k = M.1 68 k + 1) (b69 : M2.1 69 = ud (M.1 69) (40 * k + M.1 68 k) s) (b70 : M2.1 70 = ud (M.1 70) (40 * k + M.1 68 k) x) (b71 : M2.1 71 = ud (M.1 71) (40 * k + M.1 68 k) y) (b72 : M2.1 72 = ud (M.1 72) (40 * k + M.1 68 k) q) : TG M2 k := by
  left
  have ek : rkC M2 = rkC M := rk_c b1 b2
  have n6 := hg.1.2.1
  have k5 := a3.2.2.1
  have r40 := a4.2.1
  have oldr : ∀ i, i < M.1 68 k → M2.1 69 (40 * k + i) = M.1 69 (40 * k + i) ∧ M2.1 70 (40 * k + i) = M.1 70 (40 * k + i) ∧ M2.1 71 (40 * k + i) = M.1 71 (40 * k + i) ∧ M2.1 72 (40 * k + i) = M.1 72 (40 * k + i) := fun i hi => by
    rw [b69, b70, b71, b72, ud_n (by omega), ud_n (by omega), ud_n (by omega), ud_n (by omega)]
    exact ⟨rfl, rfl, rfl, rfl⟩
  have newr : M2.1 69 (40 * k + M.1 68 k) = s ∧ M2.1 70 (40 * k + M.1 68 k) = x ∧ M2.1 71 (40 * k + M.1 68 k) = y ∧ M2.1 72 (40 * k + M.1 68 k) = q := by
    rw [b69, b70, b71, b72, ud_s, ud_s, ud_s, ud_s]
    exact ⟨rfl, rfl, rfl, rfl⟩
  have ix : 0 ≤ (if 1 ≤ rkC M s then x else 0) ∧ (if 1 ≤ rkC M s then x else 0) < 5 := by
    split
    · have := bx (by assumption); omega
    · omega
  have iy : 0 ≤ (if 2 ≤ rkC M s then y else 0) ∧ (if 2 ≤ rkC M s then y else 0) < 5 := by
    split
    · have := by' (by assumption); omega
    · omega
  have cr := cel_r5 (r := rkC M s) (s := s) (k1 := if 1 ≤ rkC M s then x else 0) (k2 := if 2 ≤ rkC M s then y else 0) ⟨s0, by omega⟩ (fun _ => ix) (fun _ => iy)
  rw [← hc] at cr
  have oc := a3.2.2.2.2 c cr.1 cr.2
  have qr := ishl1_r (j := (M.1 (100 + 12 * k) 3).toNat) (k := q) bq.1 (by omega) (by omega)
  have ir := ior_r (k := (M.1 (100 + 12 * k) 3).toNat) (by omega) oc.1 oc.2 qr.1 qr.2
  have p12' := p12 (b := (M.1 (100 + 12 * k) 3).toNat) (by omega)
  refine ⟨by rw [b65]; exact a1, by rw [bt 6 (by decide) (by decide)]; exact a2, ⟨a3.1, TS.c a3.2.1 (fun j hj => bt j (by omega) (by omega)) (fun _ _ _ => by rw [e2]), by rw [bt 3 (by decide) (by decide)]; exact k5, by rw [bt 5 (by decide) (by decide)]; exact a3.2.2.2.1, fun i i0 i1 => ?_⟩, ⟨a4.1, by rw [b68]; omega, by rw [b66]; exact a4.2.2.1, by rw [b67]; exact a4.2.2.2.1, fun i i0 i1 => ?_⟩, by rw [b66, bt 3 (by decide) (by decide)]; exact a5, by rw [b67, bt 5 (by decide) (by decide)]; exact a6, by rw [b68, b4, a7], ?_, Or.inl b7⟩
  · rw [bt1, bt 3 (by decide) (by decide)]
    by_cases z : i = c
    · rw [z, ud_s]; exact ir
    · rw [ud_n z]; exact a3.2.2.2.2 i i0 i1
  · rw [b68] at i1
    rw [b66, ek, b1]
    by_cases z : i = M.1 68 k
    · rw [z, newr.1, newr.2.1, newr.2.2.1, newr.2.2.2, a5]
      exact ⟨⟨s0, s1⟩, bx, by', bq⟩
    · have o := oldr i (by omega)
      rw [o.1, o.2.1, o.2.2.1, o.2.2.2]
      exact a4.2.2.2.2 i i0 (by omega)
  · intro s' x0 y0 q' t0 t1 hA q0
    rw [b1] at t1
    rw [ek, bt 3 (by decide) (by decide)] at hA
    have old := a8 s' x0 y0 q' t0 t1 hA q0
    have b5 : (0 ≤ x0 ∧ x0 < 5) ∧ (0 ≤ y0 ∧ y0 < 5) := by
      have nn := hA.nn
      refine ⟨⟨nn.1, ?_⟩, nn.2, ?_⟩
      · by_cases w : 1 ≤ rkC M s'
        · have := hA.1 w; omega
        · have := hA.2.1 w; omega
      · by_cases w : 2 ≤ rkC M s'
        · have := hA.2.2.1 w; omega
        · have := hA.2.2.2 w; omega
    have split1 : (∃ i, (0 ≤ i ∧ i < M2.1 68 k) ∧ M2.1 69 (40 * k + i) = s' ∧ (1 ≤ rkC M s' → M2.1 70 (40 * k + i) = x0) ∧ (2 ≤ rkC M s' → M2.1 71 (40 * k + i) = y0) ∧ q' = M2.1 72 (40 * k + i)) ↔ (∃ i, (0 ≤ i ∧ i < M.1 68 k) ∧ M.1 69 (40 * k + i) = s' ∧ (1 ≤ rkC M s' → M.1 70 (40 * k + i) = x0) ∧ (2 ≤ rkC M s' → M.1 71 (40 * k + i) = y0) ∧ q' = M.1 72 (40 * k + i)) ∨ (s = s' ∧ (1 ≤ rkC M s' → x = x0) ∧ (2 ≤ rkC M s' → y = y0) ∧ q' = q) := by
      rw [b68]
      constructor
      · intro ⟨i, hi, w⟩
        by_cases z : i = M.1 68 k
        · rw [z, newr.1, newr.2.1, newr.2.2.1, newr.2.2.2] at w; exact Or.inr w
        · have o := oldr i (by omega)
          rw [o.1, o.2.1, o.2.2.1, o.2.2.2] at w
          exact Or.inl ⟨i, by omega, w⟩
      · intro w
        rcases w with ⟨i, hi, w⟩ | w
        · have o := oldr i hi.2
          refine ⟨i, by omega, ?_⟩
          rw [o.1, o.2.1, o.2.2.1, o.2.2.2]; exact w
        · refine ⟨M.1 68 k, by omega, ?_⟩
          rw [newr.1, newr.2.1, newr.2.2.1, newr.2.2.2]; exact w
    rw [ek, split1, ← old]
    unfold SD
    rw [ek, bt1]
    by_cases z : cel (rkC M s') s' x0 y0 5 = c
    · rw [z, ud_s, bt_or oc.1 (by omega) qr.1 (by omega), bt_shl bq.1 (by omega) q0]
      rw [hc] at z
      obtain ⟨i1, i2, i3⟩ := cel_inj5 (fun w => by rw [w]) b5.1 b5.2 ix iy z
      subst i1
      refine or_congr Iff.rfl ⟨fun w => ⟨rfl, fun r => ?_, fun r => ?_, w⟩, fun w => w.2.2.2⟩
      · rw [i2 r, if_pos r]
      · rw [i3 r, if_pos r]
    · rw [ud_n z]
      refine ⟨fun w => Or.inl w, fun w => ?_⟩
      rcases w with w | ⟨w1, w2, w3, -⟩
      · exact w
      · exfalso
        refine z ?_
        subst w1
        rw [hc]
        exact cel_c (fun r => by rw [if_pos r, w2 r]) (fun r => by rw [if_pos r, w3 r]) 5
theorem rule_both {L : Nat} {xs : Int → Int} {M : Mem} (h : Inv L xs M) (k s x y q : Int) : Both L xs (D_T_rule 0 k s x y q) (D_M_rule 62 k s x y q) M := by
  have h0 := h
  obtain ⟨tc, hI, e7, e4, hC⟩ := h
  have hB := hI.sb
  have hg := hI.sg
  have n06 := hg.1
  have n0 := n06.1
  have n6 := n06.2.1
  have t0 := hI.tc_
  have fo := find_ok hB hI.sl e7 t0.2 k
  have it := isTongue_ok hB (by rw [e4]; exact t0) k
  rw [e4] at it
  have kn := knows_ok hB.s_ s
  have is := isSign_ok hB (by rw [hg.2.1]; exact ⟨n0, n6⟩) s
  rw [hg.2.1] at is
  have same : ∀ v, D_T_rule 0 k s x y q M = some (v, M) → D_M_rule 62 k s x y q M = some (v, M) → Both L xs (D_T_rule 0 k s x y q) (D_M_rule 62 k s x y q) M := fun v a b => ⟨v, M, M, a, b, hC, h0, hB⟩
  by_cases qk : 0 ≤ k ∧ k < tc
  · rw [if_pos qk] at fo it
    have k0 := qk.1
    have k16 : k < 16 := by omega
    have nt : ¬ 100 + 12 * k < 0 := by omega
    obtain ⟨c7, ts, ms⟩ := hI.sl.at qk.1 qk.2
    clear c7 ms
    by_cases qs : 0 ≤ s ∧ s < M.1 1 1
    · rw [if_pos qs] at kn is
      have s0 := qs.1
      have s6 : s < 6 := by clear ts; omega
      have rko := rankOf_ok hB.s_ n6 s
      have r63 := hg.2.2 s qs.1 qs.2
      have rg := n06.rk s
      rcases hI.2.2.2.2.2.2.2.2.2.2 k qk.1 qk.2 with ⟨a1, a2, a3, a4, a5, a6, a7, a8, a9⟩ | ⟨a1, a2, -⟩
      · have hS1 := hasState_ok (q := if 1 ≤ rkC M s then x else 0) ts.1
        have hS2 := hasState_ok (q := if 2 ≤ rkC M s then y else 0) ts.1
        have hS3 := hasState_ok (q := q) ts.1
        have k5 := a3.2.2.1
        have f1 : (if rkC M s ≤ 0 then some 0 else some x) = some (if 1 ≤ rkC M s then x else 0) := by
          by_cases w : 1 ≤ rkC M s
          · rw [if_neg (show ¬ rkC M s ≤ 0 by clear ts; omega), if_pos w]
          · rw [if_pos (show rkC M s ≤ 0 by clear ts; omega), if_neg w]
        have f2 : (if rkC M s ≤ 1 then some 0 else some y) = some (if 2 ≤ rkC M s then y else 0) := by
          by_cases w : 2 ≤ rkC M s
          · rw [if_neg (show ¬ rkC M s ≤ 1 by clear ts; omega), if_pos w]
          · rw [if_pos (show rkC M s ≤ 1 by clear ts; omega), if_neg w]
        have ew : wr (M.1 (100 + 12 * k) 3 - 1) = M.1 (100 + 12 * k) 3 - 1 := wr_eq (by clear ts; omega) (by clear ts; omega)
        have ix := in_ok x 0 (M.1 (100 + 12 * k) 3 - 1) M
        have iy := in_ok y 0 (M.1 (100 + 12 * k) 3 - 1) M
        have iq := in_ok q 0 (M.1 (100 + 12 * k) 3 - 1) M
        by_cases bx : 0 ≤ (if 1 ≤ rkC M s then x else 0) ∧ (if 1 ≤ rkC M s then x else 0) < M.1 (100 + 12 * k) 3
        · rw [if_pos bx] at hS1
          have tx : (if rkC M s ≤ 0 then some (0, M) else ((D_M_in x 0 (M.1 (100 + 12 * k) 3 - 1) M).bind fun x56 => if x56.1 = 0 then some ((1 : Int), x56.2) else some (0, x56.2))) = some (0, M) := by
            by_cases w : 1 ≤ rkC M s
            · rw [if_pos w] at bx
              rw [if_neg (show ¬ rkC M s ≤ 0 by clear ts; omega), ix, if_pos (by clear ts; omega), obs]; rfl
            · rw [if_pos (show rkC M s ≤ 0 by clear ts; omega)]
          by_cases by' : 0 ≤ (if 2 ≤ rkC M s then y else 0) ∧ (if 2 ≤ rkC M s then y else 0) < M.1 (100 + 12 * k) 3
          · rw [if_pos by'] at hS2
            have ty : (if rkC M s ≤ 1 then some (0, M) else ((D_M_in y 0 (M.1 (100 + 12 * k) 3 - 1) M).bind fun x56 => if x56.1 = 0 then some ((1 : Int), x56.2) else some (0, x56.2))) = some (0, M) := by
              by_cases w : 2 ≤ rkC M s
              · rw [if_pos w] at by'
                rw [if_neg (show ¬ rkC M s ≤ 1 by clear ts; omega), iy, if_pos (by clear ts; omega), obs]; rfl
              · rw [if_pos (show rkC M s ≤ 1 by clear ts; omega)]
            by_cases bq : 0 ≤ q ∧ q < M.1 (100 + 12 * k) 3
            · rw [if_pos bq] at hS3
              rw [if_pos (show 0 ≤ q ∧ q ≤ M.1 (100 + 12 * k) 3 - 1 by clear ts; omega)] at iq
              have r40 := a4.2.1
              by_cases full : M.1 (100 + 12 * k) 4 < 40
              · have t0' : ¬ (100 + 12 * k) = 0 := by clear ts; omega
                have x5 : 0 ≤ (if 1 ≤ rkC M s then x else 0) ∧ (if 1 ≤ rkC M s then x else 0) < 5 := by clear ts; omega
                have y5 : 0 ≤ (if 2 ≤ rkC M s then y else 0) ∧ (if 2 ≤ rkC M s then y else 0) < 5 := by clear ts; omega
                have ce := cell_ok hB.s_ n6 (s := s) (x := if 1 ≤ rkC M s then x else 0) (y := if 2 ≤ rkC M s then y else 0) (w := 5) ⟨s0, s6⟩ (by decide) (fun _ => by clear ts; omega) (fun _ => by clear ts; omega)
                have cr := cel_r5 (r := rkC M s) (s := s) (k1 := if 1 ≤ rkC M s then x else 0) (k2 := if 2 ≤ rkC M s then y else 0) ⟨s0, s6⟩ (fun _ => x5) (fun _ => y5)
                generalize hc : cel (rkC M s) s (if 1 ≤ rkC M s then x else 0) (if 2 ≤ rkC M s then y else 0) 5 = c at *
                have e1 : wr (M.1 (100 + 12 * k) 4 + 1) = M.1 (100 + 12 * k) 4 + 1 := wr_eq (by clear ts; omega) (by clear ts; omega)
                have ea : D_T_rule 0 k s x y q M = some (M.1 (100 + 12 * k) 4 + 1, up (up (up M (100 + 12 * k + 1) c (ior (M.1 (100 + 12 * k + 1) c) (ishl 1 q))) (100 + 12 * k) 4 (M.1 (100 + 12 * k) 4 + 1)) (100 + 12 * k) 7 1) := by
                  unfold D_T_rule D_Tongue_addRule
                  simp [-Option.bind_some, -Option.bind_none, gf, pf, rd, wt, ck, ln, lt, bz, nq, up_1, up_2, obs, obn, hB.t_, hB.s_, fo, nt, kn, ts, a2, rko, f1, f2, hS1, hS2, hS3, full, ce, cr, pa1, pa2, pa3, e1]
                have hB1 : SB (up (up (up M (100 + 12 * k + 1) c (ior (M.1 (100 + 12 * k + 1) c) (ishl 1 q))) (100 + 12 * k) 4 (M.1 (100 + 12 * k) 4 + 1)) (100 + 12 * k) 7 1) := by
                  clear ts
                  exact SB_up (SB_up (SB_up hB (by unfold stp; omega)) (by unfold stp; omega)) (by unfold stp; omega)
                generalize hM1 : up (up (up M (100 + 12 * k + 1) c (ior (M.1 (100 + 12 * k + 1) c) (ishl 1 q))) (100 + 12 * k) 4 (M.1 (100 + 12 * k) 4 + 1)) (100 + 12 * k) 7 1 = M1 at *
                have o1 : ∀ a, a ≠ 100 + 12 * k → a ≠ 100 + 12 * k + 1 → M1.1 a = M.1 a := fun a z1 z2 => by rw [← hM1, up_n z1, up_n z1, up_n z2]
                have o2 : M1.2 = M.2 := by rw [← hM1, up_2, up_2, up_2]
                have or' : ∀ a, a < 100 → M1.1 a = M.1 a := fun a z => o1 a (by clear ts; omega) (by clear ts; omega)
                have it1 := isTongue_ok hB1 (by rw [or' 62 (by decide), e4]; exact t0) k
                rw [or' 62 (by decide), e4, if_pos qk] at it1
                have is1 := isSign_ok hB1 (by rw [or' 62 (by decide), hg.2.1]; exact ⟨n0, n6⟩) s
                rw [or' 62 (by decide), hg.2.1, if_pos qs] at is1
                have ix1 := in_ok x 0 (M.1 (100 + 12 * k) 3 - 1) M1
                have iy1 := in_ok y 0 (M.1 (100 + 12 * k) 3 - 1) M1
                have iq1 := in_ok q 0 (M.1 (100 + 12 * k) 3 - 1) M1
                rw [if_pos (show 0 ≤ q ∧ q ≤ M.1 (100 + 12 * k) 3 - 1 by clear ts; omega)] at iq1
                have tx1 : (if rkC M s ≤ 0 then some (0, M1) else ((D_M_in x 0 (M.1 (100 + 12 * k) 3 - 1) M1).bind fun x56 => if x56.1 = 0 then some ((1 : Int), x56.2) else some (0, x56.2))) = some (0, M1) := by
                  by_cases w : 1 ≤ rkC M s
                  · rw [if_pos w] at bx
                    rw [if_neg (show ¬ rkC M s ≤ 0 by clear ts; omega), ix1, if_pos (by clear ts; omega), obs]; rfl
                  · rw [if_pos (show rkC M s ≤ 0 by clear ts; omega)]
                have ty1 : (if rkC M s ≤ 1 then some (0, M1) else ((D_M_in y 0 (M.1 (100 + 12 * k) 3 - 1) M1).bind fun x56 => if x56.1 = 0 then some ((1 : Int), x56.2) else some (0, x56.2))) = some (0, M1) := by
                  by_cases w : 2 ≤ rkC M s
                  · rw [if_pos w] at by'
                    rw [if_neg (show ¬ rkC M s ≤ 1 by clear ts; omega), iy1, if_pos (by clear ts; omega), obs]; rfl
                  · rw [if_pos (show rkC M s ≤ 1 by clear ts; omega)]
                have m65 : M1.1 65 k = 1 := by rw [or' 65 (by decide)]; exact a1
                have m66 : M1.1 66 k = M.1 (100 + 12 * k) 3 := by rw [or' 66 (by decide)]; exact a5
                have m63 : M1.1 63 s = rkC M s := by rw [or' 63 (by decide)]; exact r63
                have m68 : M1.1 68 k = M.1 (100 + 12 * k) 4 := by rw [or' 68 (by decide)]; exact a7
                have nf : ¬ M.1 (100 + 12 * k) 4 = 40 := by clear ts; omega
                have w40 : wr (wr (40 * k) + M.1 (100 + 12 * k) 4) = 40 * k + M.1 (100 + 12 * k) 4 := by rw [wr_eq (z := 40 * k) (by clear ts; omega) (by clear ts; omega), wr_eq (by clear ts; omega) (by clear ts; omega)]
                have j0 : 0 ≤ 40 * k + M.1 (100 + 12 * k) 4 := by clear ts; omega
                have j1 : 40 * k + M.1 (100 + 12 * k) 4 < 640 := by clear ts; omega
                have eb : D_M_rule 62 k s x y q M1 = some (M.1 (100 + 12 * k) 4 + 1, up (up (up (up (up M1 69 (40 * k + M.1 (100 + 12 * k) 4) s) 70 (40 * k + M.1 (100 + 12 * k) 4) x) 71 (40 * k + M.1 (100 + 12 * k) 4) y) 72 (40 * k + M.1 (100 + 12 * k) 4) q) 68 k (M.1 (100 + 12 * k) 4 + 1)) := by
                  unfold D_M_rule
                  simp [-Option.bind_some, -Option.bind_none, gf, pf, rd, wt, ck, ln, lt, bz, nq, up_1, up_2, obs, obn, hB1.m_, it1, is1, k0, k16, m65, m66, ew, s0, s6, m63, tx1, ty1, iq1, m68, nf, w40, j0, j1, e1]
                have sc1 : SC L xs M1 := ⟨by rw [o2]; exact hC.1, by rw [o1 1000001 (by clear ts; omega) (by clear ts; omega)]; exact hC.2⟩
                refine ⟨_, M1, _, ea, eb, sc1, ⟨tc, ?_, ?_, ?_, ?_⟩, hB1⟩
                · have hB2 : SB (up (up (up (up (up M1 69 (40 * k + M.1 (100 + 12 * k) 4) s) 70 (40 * k + M.1 (100 + 12 * k) 4) x) 71 (40 * k + M.1 (100 + 12 * k) 4) y) 72 (40 * k + M.1 (100 + 12 * k) 4) q) 68 k (M.1 (100 + 12 * k) 4 + 1)) := by
                    clear ts
                    exact SB_up (SB_up (SB_up (SB_up (SB_up hB1 (by unfold stp; omega)) (by unfold stp; omega)) (by unfold stp; omega)) (by unfold stp; omega)) (by unfold stp; omega)
                  have tj : ∀ j, j ≠ 4 → j ≠ 7 → M1.1 (100 + 12 * k) j = M.1 (100 + 12 * k) j := fun j z4 z7 => by rw [← hM1, up_1, if_neg (fun w => z7 w.2), up_1, if_neg (fun w => z4 w.2), up_n (by clear ts; omega)]
                  have t4 : M1.1 (100 + 12 * k) 4 = M.1 (100 + 12 * k) 4 + 1 := by rw [← hM1, up_1, if_neg (by clear ts; omega), up_1, if_pos ⟨rfl, rfl⟩]
                  have t7 : M1.1 (100 + 12 * k) 7 = 1 := by rw [← hM1, up_1, if_pos ⟨rfl, rfl⟩]
                  have tt1 : M1.1 (100 + 12 * k + 1) = ud (M.1 (100 + 12 * k + 1)) c (ior (M.1 (100 + 12 * k + 1) c) (ishl 1 q)) := by rw [← hM1, up_n (by clear ts; omega), up_n (by clear ts; omega), up_f, if_pos rfl]
                  generalize hM2 : up (up (up (up (up M1 69 (40 * k + M.1 (100 + 12 * k) 4) s) 70 (40 * k + M.1 (100 + 12 * k) 4) x) 71 (40 * k + M.1 (100 + 12 * k) 4) y) 72 (40 * k + M.1 (100 + 12 * k) 4) q) 68 k (M.1 (100 + 12 * k) 4 + 1) = M2 at *
                  have p1 : ∀ a, (a < 68 ∨ 72 < a) → M2.1 a = M1.1 a := fun a z => by rw [← hM2, up_n (by omega), up_n (by omega), up_n (by omega), up_n (by omega), up_n (by omega)]
                  have p2 : M2.2 = M.2 := by rw [← hM2, up_2, up_2, up_2, up_2, up_2, o2]
                  have p68 : M2.1 68 = ud (M.1 68) k (M.1 68 k + 1) := by rw [← hM2, ← or' 68 (by decide), ← a7, ← or' 68 (by decide)]; simp [up_f]
                  have p69 : M2.1 69 = ud (M.1 69) (40 * k + M.1 68 k) s := by rw [← hM2, a7, ← or' 69 (by decide)]; simp [up_f]
                  have p70 : M2.1 70 = ud (M.1 70) (40 * k + M.1 68 k) x := by rw [← hM2, a7, ← or' 70 (by decide)]; simp [up_f]
                  have p71 : M2.1 71 = ud (M.1 71) (40 * k + M.1 68 k) y := by rw [← hM2, a7, ← or' 71 (by decide)]; simp [up_f]
                  have p72 : M2.1 72 = ud (M.1 72) (40 * k + M.1 68 k) q := by rw [← hM2, a7, ← or' 72 (by decide)]; simp [up_f]
                  have pt : M2.1 (100 + 12 * k) = M1.1 (100 + 12 * k) := p1 _ (by clear ts; omega)
                  have hTG : TG M2 k := rule_tg hg qs.1 qs.2 (fun w => by rw [if_pos w] at bx; exact bx) (fun w => by rw [if_pos w] at by'; exact by') bq hc.symm a1 a2 a3 a4 a5 a6 a7 a8 full p2 (by rw [p1 1 (by decide), or' 1 (by decide)]) (by rw [p1 2 (by decide), or' 2 (by decide)]) (by rw [p1 _ (by clear ts; omega)]; exact tt1) (fun j z4 z7 => by rw [pt]; exact tj j z4 z7) (by rw [pt]; exact t4) (by rw [pt]; exact t7) (by rw [p1 65 (by decide), or' 65 (by decide)]) (by rw [p1 66 (by decide), or' 66 (by decide)]) (by rw [p1 67 (by decide), or' 67 (by decide)]) (by rw [p68, ud_s]) p69 p70 p71 p72
                  refine hI.tell qk.1 qk.2 hB2 p2 (fun a z1 z2 z3 => ?_) (fun j hj => ?_) (fun a j z0 z1 z2 => ?_) (fun a j z0 z1 z2 => ?_) hTG
                  · rw [p1 a (by clear ts; omega)]; exact o1 a z1 (by clear ts; omega)
                  · rw [pt]; exact tj j (by clear ts; omega) (by clear ts; omega)
                  · by_cases z : a = 68
                    · rw [z, p68, ud_n z2]
                    · rw [p1 a (by clear ts; omega), or' a (by clear ts; omega)]
                  · have z : a = 69 ∨ a = 70 ∨ a = 71 ∨ a = 72 := by clear ts; omega
                    rcases z with z | z | z | z <;> subst z
                    · rw [p69, ud_n (by clear ts; omega)]
                    · rw [p70, ud_n (by clear ts; omega)]
                    · rw [p71, ud_n (by clear ts; omega)]
                    · rw [p72, ud_n (by clear ts; omega)]
                · rw [up_n (by decide), up_n (by decide), up_n (by decide), up_n (by decide), up_n (by decide), or' 0 (by decide)]; exact e7
                · rw [up_n (by decide), up_n (by decide), up_n (by decide), up_n (by decide), up_n (by decide), or' 62 (by decide)]; exact e4
                · exact ⟨by rw [up_2, up_2, up_2, up_2, up_2]; exact sc1.1, by rw [up_n (by decide), up_n (by decide), up_n (by decide), up_n (by decide), up_n (by decide)]; exact sc1.2⟩
              · have f40 : M.1 68 k = 40 := by clear ts; omega
                refine same (-4) ?_ ?_
                · unfold D_T_rule
                  simp [-Option.bind_some, -Option.bind_none, gf, pf, rd, wt, ck, ln, lt, bz, nq, up_1, up_2, obs, obn, hB.t_, hB.s_, fo, nt, kn, ts, a2, rko, f1, f2, hS1, hS2, hS3, full]
                · unfold D_M_rule
                  simp [-Option.bind_some, -Option.bind_none, gf, pf, rd, wt, ck, ln, lt, bz, nq, up_1, up_2, obs, obn, hB.m_, it, is, k0, k16, a1, a5, ew, s0, s6, r63, tx, ty, iq, f40]
            · rw [if_neg bq] at hS3
              rw [if_neg (show ¬ (0 ≤ q ∧ q ≤ M.1 (100 + 12 * k) 3 - 1) by clear ts; omega)] at iq
              refine same (-2) ?_ ?_
              · unfold D_T_rule
                simp [-Option.bind_some, -Option.bind_none, gf, pf, rd, wt, ck, ln, lt, bz, nq, up_1, up_2, obs, obn, hB.t_, hB.s_, fo, nt, kn, ts, a2, rko, f1, f2, hS1, hS2, hS3]
              · unfold D_M_rule
                simp [-Option.bind_some, -Option.bind_none, gf, pf, rd, wt, ck, ln, lt, bz, nq, up_1, up_2, obs, obn, hB.m_, it, is, k0, k16, a1, a5, ew, s0, s6, r63, tx, ty, iq]
          · rw [if_neg by'] at hS2
            have w : 2 ≤ rkC M s := by
              refine Classical.byContradiction fun w => by' ?_
              rw [if_neg w]
              clear ts; omega
            rw [if_pos w] at by'
            have ty : (if rkC M s ≤ 1 then some (0, M) else ((D_M_in y 0 (M.1 (100 + 12 * k) 3 - 1) M).bind fun x56 => if x56.1 = 0 then some ((1 : Int), x56.2) else some (0, x56.2))) = some (1, M) := by
              rw [if_neg (show ¬ rkC M s ≤ 1 by clear ts; omega), iy, if_neg (by clear ts; omega), obs]; rfl
            refine same (-2) ?_ ?_
            · unfold D_T_rule
              simp [-Option.bind_some, -Option.bind_none, gf, pf, rd, wt, ck, ln, lt, bz, nq, up_1, up_2, obs, obn, hB.t_, hB.s_, fo, nt, kn, ts, a2, rko, f1, f2, hS1, hS2]
            · unfold D_M_rule
              simp [-Option.bind_some, -Option.bind_none, gf, pf, rd, wt, ck, ln, lt, bz, nq, up_1, up_2, obs, obn, hB.m_, it, is, k0, k16, a1, a5, ew, s0, s6, r63, tx, ty]
        · rw [if_neg bx] at hS1
          have w : 1 ≤ rkC M s := by
            refine Classical.byContradiction fun w => bx ?_
            rw [if_neg w]
            clear ts; omega
          rw [if_pos w] at bx
          have tx : (if rkC M s ≤ 0 then some (0, M) else ((D_M_in x 0 (M.1 (100 + 12 * k) 3 - 1) M).bind fun x56 => if x56.1 = 0 then some ((1 : Int), x56.2) else some (0, x56.2))) = some (1, M) := by
            rw [if_neg (show ¬ rkC M s ≤ 0 by clear ts; omega), ix, if_neg (by clear ts; omega), obs]; rfl
          refine same (-2) ?_ ?_
          · unfold D_T_rule
            simp [-Option.bind_some, -Option.bind_none, gf, pf, rd, wt, ck, ln, lt, bz, nq, up_1, up_2, obs, obn, hB.t_, hB.s_, fo, nt, kn, ts, a2, rko, f1, f2, hS1]
          · unfold D_M_rule
            simp [-Option.bind_some, -Option.bind_none, gf, pf, rd, wt, ck, ln, lt, bz, nq, up_1, up_2, obs, obn, hB.m_, it, is, k0, k16, a1, a5, ew, s0, s6, r63, tx]
      · refine same (-3) ?_ ?_
        · unfold D_T_rule
          simp [-Option.bind_some, -Option.bind_none, gf, pf, rd, wt, ck, ln, lt, bz, nq, up_1, up_2, obs, obn, hB.t_, hB.s_, fo, nt, kn, ts, a2]
        · unfold D_M_rule
          simp [-Option.bind_some, -Option.bind_none, gf, pf, rd, wt, ck, ln, lt, bz, nq, up_1, up_2, obs, obn, hB.m_, it, is, k0, k16, a1]
    · rw [if_neg qs] at kn is
      refine same (-2) ?_ ?_
      · unfold D_T_rule
        simp [-Option.bind_some, -Option.bind_none, gf, pf, rd, wt, ck, ln, lt, bz, nq, up_1, up_2, obs, obn, hB.t_, hB.s_, fo, nt, kn]
      · unfold D_M_rule
        simp [-Option.bind_some, -Option.bind_none, gf, pf, rd, wt, ck, ln, lt, bz, nq, up_1, up_2, obs, obn, hB.m_, it, is]
  · rw [if_neg qk] at fo it
    refine same (-2) ?_ ?_
    · unfold D_T_rule
      simp [-Option.bind_some, -Option.bind_none, gf, pf, rd, wt, ck, ln, lt, bz, nq, up_1, up_2, obs, obn, hB.t_, fo]
    · unfold D_M_rule
      simp [-Option.bind_some, -Option.bind_none, gf, pf, rd, wt, ck, ln, lt, bz, nq, up_1, up_2, obs, obn, hB.m_, it]
