/-! how much is ahead of a tree: the class's recursion -/
theorem ow_l {n : Int} {rk : Int → Int} {m : Mch} {L : Int} {nm S : Int → Int} {W : Int → Int} {i : Int} (hT : TRE rk L nm S) (hr : ∀ s, 0 ≤ rk s ∧ rk s ≤ 2) (i0 : 0 ≤ i) (i1 : i < L) : 0 + (sumN (nm i).toNat (fun t => shA n rk m W (S i) (0 + t)) + sumN ((if rk (nm i) ≤ 0 then 0 else S (i + 1)) - 1 - lst rk (nm i) (S i) + 1).toNat (fun t => shP rk m (kC n rk m) W (nm i) (S i) (lst rk (nm i) (S i) + t))) = ow n rk m W (nm i) (S i) (S (i + 1)) := by
  have rs := hr (nm i)
  have t := hT i i0 i1
  unfold ow
  rw [Int.zero_add]
  congr 1
  · exact sumN_c (fun j _ _ => by rw [Int.zero_add])
  · by_cases q0 : rk (nm i) = 0
    · have e1 : lst rk (nm i) (S i) = 0 := by unfold lst; rw [if_pos q0]
      rw [e1, if_pos (by omega), if_neg (by omega)]
      rfl
    · rw [if_neg (show ¬ rk (nm i) ≤ 0 by omega)]
      by_cases q1 : rk (nm i) = 1
      · have e1 : lst rk (nm i) (S i) = S i - 1 := by unfold lst; rw [if_neg q0, if_pos q1]
        have e2 := t.2.2.2.2
        rw [if_neg (by omega), if_pos (by omega)] at e2
        rw [e1, if_neg (by omega), show (S (i + 1) - 1 - (S i - 1) + 1).toNat = 0 by omega]
        rfl
      · have e1 : lst rk (nm i) (S i) = 1 := by unfold lst; rw [if_neg q0, if_neg q1]
        rw [e1, if_pos (by omega), show (S (i + 1) - 1 - 1 + 1).toNat = (S (i + 1) - 1).toNat by omega]
theorem aP_s {n : Int} {rk : Int → Int} {m : Mch} {nm S K : Int → Int} (j : Nat) (i : Int) (W : Int → Int) : aP n rk m nm S K (j + 1) i W = ow n rk m W (nm i) (S i) (S (i + 1)) + (if 1 ≤ rk (nm i) then aP n rk m nm S K j (i + 1) (w1P rk m (kC n rk m) W (nm i) (S i) (S (i + 1))) else 0) + (if 2 ≤ rk (nm i) then aP n rk m nm S K j (i + 1 + S (i + 1)) (fun y => W (mT m (nm i) (K (i + 1)) y)) else 0) := rfl
theorem ahead_ok {n : Int} {rk : Int → Int} {m : Mch} {p L : Int} {nm S K : Int → Int} (hK : TRK n rk m L nm S K) : ∀ (j : Nat) {M : Mem} {W : Int → Int} {i lv : Int} {N : Nat}, CSt n rk m p M → WOK (mN m) W → AtL lv (mN m) W M → M.1 3 4 = L → M.1 4 = nm → M.1 5 = S → M.1 6 = K → 0 ≤ i → i < L → S i ≤ j → 0 ≤ lv → lv + S i ≤ 40 → j ≤ N → OkV (D_Census_ahead N 60 p i lv M) (fun r M' => r = sat (aP n rk m nm S K j i W) ∧ CWR (lv * 6 + 6) [] M M') := by
  have hT := hK.1
  have hD := hK.2.1
  have hn := hK.2.2.1
  have L40 := hK.2.2.2
  intro j
  induction j with
  | zero => intro M W i lv N _ _ _ _ _ _ _ i0 i1 sj; have := (hT i i0 i1).1; omega
  | succ j ih =>
    intro M W i lv N h hw hl eL e4 e5 e6 i0 i1 sj l0 lz jN
    obtain ⟨hW, hr, n6⟩ := h.mw
    have N6 := hW.1
    cases N with
    | zero => omega
    | succ N =>
    have hB := h.1.1
    have t := hT i i0 i1
    have sr := hn i i0 i1
    have rs := hr (nm i)
    have z1 := t.1
    show OkV (B_Census_ahead (D_Census_ahead N) 60 p i lv M) _
    unfold B_Census_ahead
    have g1 : ∀ {A : Mem}, SB A → gf A 60 0 4 1 = some 3 ∧ gf A 60 0 4 0 = some 1 ∧ gf A 3 4 5 4 = some (A.1 3 4) ∧ gf A 3 4 5 2 = some 5 ∧ gf A 3 4 5 1 = some 4 ∧ gf A 3 4 5 3 = some 6 ∧ ck A 1 5 3 = some () ∧ ck A 60 0 4 = some () := by
      intro A hA
      exact ⟨by simp [gf, hA.c_], by simp [gf, hA.c_], by simp [gf, hA.r_], by simp [gf, hA.r_], by simp [gf, hA.r_], by simp [gf, hA.r_], by simp [ck, hA.s_], by simp [ck, hA.c_]⟩
    obtain ⟨b1, b2, b3, b4, b5, b6, b7, b8⟩ := g1 hB
    rw [eL] at b3
    have r5 : ∀ x, 0 ≤ x → x < L → rd M 10 5 x = some (S x) := fun x x0 x1 => by rw [rd_v (n := 120) (by simp [hB.r_]) x0 (by omega), e5]
    have r4 : rd M 10 4 i = some (nm i) := by rw [rd_v (n := 120) (by simp [hB.r_]) i0 (by omega), e4]
    have wi : wr (i + 1) = i + 1 := wr_eq (by omega) (by omega)
    have rko := rankOf_ok hB.s_ h.1.2.1.2.1 (nm i)
    rw [h.2.2.1] at rko
    have tA : (if L ≤ i + 1 then (some (0, M)) else ((gf M 60 0 4 0).bind fun g55 => (ck M g55 5 3).bind fun _ => (D_Signs_rankOf g55 (nm i) M).bind fun x60 => some (x60.1, x60.2))) = some (rk (nm i), M) := by
      by_cases q : L ≤ i + 1
      · rw [if_pos q]
        have : ¬ 1 ≤ rk (nm i) := fun w => by have := t.2.2.1 w; omega
        rw [show rk (nm i) = 0 by omega]
      · rw [if_neg q, b2, obs, b7, obs, rko, obs]
    have tB : (if rk (nm i) ≤ 0 then (some 0) else ((gf M 60 0 4 1).bind fun g75 => (gf M g75 4 5 2).bind fun g78 => (rd M 10 g78 (i + 1)).bind fun e84 => some e84) : Option Int) = some (if rk (nm i) ≤ 0 then 0 else S (i + 1)) := by
      by_cases q : rk (nm i) ≤ 0
      · rw [if_pos q, if_pos q]
      · rw [if_neg q, if_neg q, b1, obs, b4, obs, r5 (i + 1) (by omega) (t.2.2.1 (by omega)), obs]
    rw [if_neg (by omega), b1, obs, b3, obs, if_pos i1]
    rw [obs, b4, obs, r5 i i0 i1, obs, obs, b5, obs, r4, obs, obs, b3, obs, wi, tA, obs]
    dsimp only
    rw [tB, obs]
    have st0 : sat 0 = 0 := sat_i (by rw [FAR_e]; decide)
    have T1 : 1 ≤ rk (nm i) → 1 ≤ S (i + 1) := fun w => (hT (i + 1) (by omega) (t.2.2.1 w)).1
    have vf : 0 ≤ (if rk (nm i) ≤ 0 then 0 else S (i + 1)) ∧ (if rk (nm i) ≤ 0 then 0 else S (i + 1)) ≤ S i := by
      by_cases q : rk (nm i) ≤ 0
      · rw [if_pos q]; omega
      · rw [if_neg q]
        have e2 := t.2.2.2.2
        have := T1 (by omega)
        rw [if_neg q] at e2
        by_cases q1 : rk (nm i) ≤ 1
        · rw [if_pos q1] at e2; omega
        · rw [if_neg q1] at e2
          have := (hT (i + 1 + S (i + 1)) (by omega) (t.2.2.2.1 (by omega))).1
          omega
    have main : ∀ (k : Int → Mem → Option (Int × Mem)), (∀ M'', CWR (lv * 6 + 6) [] M M'' → OkV (k (sat (ow n rk m W (nm i) (S i) (S (i + 1)))) M'') (fun r M' => r = sat (aP n rk m nm S K (j + 1) i W) ∧ CWR (lv * 6 + 6) [] M M')) → OkV (L_Census_ahead_97 (D_Census_ahead N) k 60 p i lv (S i) (nm i) (rk (nm i)) (if rk (nm i) ≤ 0 then 0 else S (i + 1)) FU 0 0 M) (fun r M' => r = sat (aP n rk m nm S K (j + 1) i W) ∧ CWR (lv * 6 + 6) [] M M') := by
      intro k hk
      have := ah97_lp (s := nm i) (z := S i) (v2 := i) (v6 := rk (nm i)) (v7 := if rk (nm i) ≤ 0 then 0 else S (i + 1)) h hw hl l0 (by omega) z1 (by omega) sr.1 sr.2 vf (D_Census_ahead N) k (fun o => OkV o (fun r M' => r = sat (aP n rk m nm S K (j + 1) i W) ∧ CWR (lv * 6 + 6) [] M M')) (nm i).toNat 0 0 FU M (by omega) (by have := FU_eq; omega) (Int.le_refl 0) sr.1 (Int.le_refl 0) (CWR.rf _ hB) (fun M'' hc => by rw [ow_l hT hr i0 i1]; exact hk M'' hc)
      rw [st0] at this
      exact this
    refine main _ (fun M1 c1 => ?_)
    clear main tA tB
    have on := ow_nn (z := S i) (f := S (i + 1)) hW hr hw sr.1 sr.2
    have h1 := h.c c1
    have hB1 := h1.1.1
    by_cases q0 : rk (nm i) ≤ 0
    · rw [if_pos q0, obs, if_pos (by omega), obs]
      refine OkV.i ⟨?_, c1⟩
      rw [aP_s, if_neg (by omega), if_neg (by omega), Int.add_zero, Int.add_zero]
    · have q1 : 1 ≤ rk (nm i) := by omega
      have s1 := T1 q1
      have i1' := t.2.2.1 q1
      have e2 := t.2.2.2.2
      rw [if_neg q0] at e2
      have zf : S (i + 1) < S i := by
        by_cases u : rk (nm i) ≤ 1
        · rw [if_pos u] at e2; omega
        · rw [if_neg u] at e2
          have := (hT (i + 1 + S (i + 1)) (by omega) (t.2.2.2.1 (by omega))).1
          omega
      have wl' : wr (lv + 1) = lv + 1 := wr_eq (by omega) (by omega)
      have ck1 := (g1 hB1).2.2.2.2.2.2.2
      obtain ⟨r2, M2, d2, -, c2, at2⟩ := shareQ_ok (s := nm i) (z := S i) (f := S (i + 1)) h1 hw (hl.c c1 N6.2 (Int.le_refl _)) l0 (by omega) sr.1 sr.2 z1 (by omega) (by omega) zf
      have c02 := c1.tr c2 (Int.le_refl _)
      have h2 := h.c c02
      have hB2 := h2.1.1
      have ck2 := (g1 hB2).2.2.2.2.2.2.2
      have row : ∀ {A : Mem}, CWR (lv * 6 + 6) [] M A → A.1 3 4 = L ∧ A.1 4 = nm ∧ A.1 5 = S ∧ A.1 6 = K := fun cw => ⟨by rw [cw.2.2.2.2.1, eL, ln'_0]; omega, by rw [cw.2.2.2.1, e4]; rfl, by rw [cw.2.1 5 (by decide) (by decide) (by decide) (by decide)]; exact e5, by rw [cw.2.1 6 (by decide) (by decide) (by decide) (by decide)]; exact e6⟩
      have w1 : WOK (mN m) (w1P rk m (kC n rk m) W (nm i) (S i) (S (i + 1))) := fun x x0 x1 => w1P_r hW kC_r hw sr.1 sr.2 q1 rs.2 x0 x1
      obtain ⟨x1, x2, x3, x4⟩ := row c02
      obtain ⟨r3, M3, d3, e3, c3⟩ := ih (i := i + 1) (lv := lv + 1) (N := N) h2 w1 (at2 q1) x1 x2 x3 x4 (by omega) i1' (by omega) (by omega) (by omega) (by omega)
      have c3' : CWR (lv * 6 + 6) [] M2 M3 := ⟨c3.1, c3.2.1, c3.2.2.1, c3.2.2.2.1, c3.2.2.2.2.1, c3.2.2.2.2.2.1, fun i w => c3.2.2.2.2.2.2.1 i (by omega), c3.2.2.2.2.2.2.2⟩
      have c03 := c02.tr c3' (Int.le_refl _)
      have n3 := aP_nn hK hW hr j (i + 1) _ (by omega) i1' w1
      have pl3 := plusC_ok (M := M3) (sat_r on).1 (sat_r on).2 (sat_r n3).1 (sat_r n3).2
      rw [if_neg q0, if_neg q0, ck1, obs, d2, obs]
      dsimp only
      rw [ck2, obs, wl', d3, obs]
      dsimp only
      rw [e3, pl3, obs, obs, sat_add on n3]
      dsimp only
      by_cases u1 : rk (nm i) ≤ 1
      · rw [if_pos u1, obs]
        refine OkV.i ⟨?_, c03⟩
        rw [aP_s, if_pos q1, if_neg (by omega), Int.add_zero]
      · rw [if_neg u1]
        have u2 : rk (nm i) = 2 := by omega
        rw [if_neg u1] at e2
        have i2 := t.2.2.2.1 (by omega)
        have s2 := (hT (i + 1 + S (i + 1)) (by omega) i2).1
        have kr := (hD (i + 1) (by omega) i1').2
        have h3 := h.c c03
        have hB3 := h3.1.1
        obtain ⟨f1, f2, f3, f4, f5, f6, f7, f8⟩ := g1 hB3
        obtain ⟨y1, y2, y3, y4⟩ := row c03
        have r6 : rd M3 10 6 (i + 1) = some (K (i + 1)) := by rw [rd_v (n := 120) (by simp [hB3.r_]) (by omega) (by omega), y4]
        obtain ⟨M4, d4, c4, at4, -⟩ := weighSeconds_ok (s := nm i) (x := K (i + 1)) h3 (hl.c c03 N6.2 (Int.le_refl _)) l0 (by omega) sr.1 sr.2 u2 kr.1 kr.2
        have c04 := c03.tr c4 (Int.le_refl _)
        have h4 := h.c c04
        have hB4 := h4.1.1
        have ck4 := (g1 hB4).2.2.2.2.2.2.2
        obtain ⟨z1', z2', z3', z4'⟩ := row c04
        have w2 := hK.w2 hW hw i0 i1 (show 2 ≤ rk (nm i) by omega)
        obtain ⟨r5', M5, d5, e5', c5⟩ := ih (i := i + 1 + S (i + 1)) (lv := lv + 1) (N := N) h4 w2 at4 z1' z2' z3' z4' (by omega) i2 (by omega) (by omega) (by omega) (by omega)
        have c5' : CWR (lv * 6 + 6) [] M4 M5 := ⟨c5.1, c5.2.1, c5.2.2.1, c5.2.2.2.1, c5.2.2.2.2.1, c5.2.2.2.2.2.1, fun i w => c5.2.2.2.2.2.2.1 i (by omega), c5.2.2.2.2.2.2.2⟩
        have c05 := c04.tr c5' (Int.le_refl _)
        have n5 := aP_nn hK hW hr j (i + 1 + S (i + 1)) _ (by omega) i2 w2
        have n53 : 0 ≤ ow n rk m W (nm i) (S i) (S (i + 1)) + aP n rk m nm S K j (i + 1) (w1P rk m (kC n rk m) W (nm i) (S i) (S (i + 1))) := by omega
        have pl5 := plusC_ok (M := M5) (sat_r n53).1 (sat_r n53).2 (sat_r n5).1 (sat_r n5).2
        have wx : wr (i + 1 + S (i + 1)) = i + 1 + S (i + 1) := wr_eq (by omega) (by omega)
        rw [f1, obs, f6, obs, r6, obs, f8, obs, d4, obs, ck4, obs, wx, d5, obs]
        dsimp only
        rw [e5', pl5, obs, obs, sat_add n53 n5]
        refine OkV.i ⟨?_, c05⟩
        rw [aP_s, if_pos q1, if_pos (by omega)]
