/-! the place of the row: the class -/
theorem CWR.fr {v : Int} {M M' : Mem} (h : CWR v [] M M') : FR M M' := by
  have o3 : M'.1 3 = M.1 3 := by
    funext k
    by_cases q : k = 4
    · rw [q, h.2.2.2.2.1, ln'_0]; omega
    · exact h.2.2.1 k q
  refine ⟨h.1, fun a _ _ _ a1 _ => ?_, fun k _ _ _ _ _ _ _ _ _ _ => by rw [h.2.1 62 (by decide) (by decide) (by decide) (by decide)]⟩
  by_cases q3 : a = 3
  · rw [q3, o3]
  · by_cases q4 : a = 4
    · rw [q4, h.2.2.2.1]; rfl
    · exact h.2.1 a q3 q4 (by omega) (by omega)
theorem ao5_lp {M : Mem} {tc k L : Int} (k0 : 0 ≤ k) (k1 : k < tc) (h7 : M.1 (100 + 12 * k) 7 = 0) (h12 : M.1 (102 + 12 * k) 12 = 0) (eL : M.1 3 4 = L) (L40 : L ≤ 40) (P : Option (Int × Mem) → Prop) (K : Int → Mem → Option (Int × Mem)) (hP : ∀ N', IB N' tc → CNQ M (102 + 12 * k) N' → P (K (ssum (L - 1).toNat (fun i => Tq M (102 + 12 * k) (i + 1))) N')) : ∀ (j : Nat) (z : Int) (n1 : Nat) (N : Mem), (L - z).toNat = j → j < n1 → 1 ≤ z → z ≤ L → IB N tc → CNQ M (102 + 12 * k) N → P (L_Census_aheadOfRow_5 K 60 (102 + 12 * k) n1 (ssum (z - 1).toNat (fun i => Tq M (102 + 12 * k) (i + 1))) z N) := by
  have T0 : ∀ z, 0 ≤ Tq M (102 + 12 * k) z ∧ Tq M (102 + 12 * k) z ≤ FAR := fun z => sat_r (tot_nn _ _)
  intro j
  induction j with
  | zero =>
    intro z n1 N ej hn z1 zL hI hc
    cases n1 with
    | zero => omega
    | succ n1 =>
    have hB := hI.sb
    have g1 : gf N 60 0 4 1 = some 3 := by simp [gf, hB.c_]
    have e34 : N.1 3 4 = L := by rw [hc.2.1 3 (by omega) (by omega)]; exact eL
    have g3 : gf N 3 4 5 4 = some L := by rw [← e34]; simp [gf, hB.r_]
    rw [L_Census_aheadOfRow_5]
    dsimp only
    rw [g1, obs, g3, obs, if_pos (by omega), show z = L by omega]
    exact hP N hI hc
  | succ j ih =>
    intro z n1 N ej hn z1 zL hI hc
    cases n1 with
    | zero => omega
    | succ n1 =>
    have hB := hI.sb
    have g1 : gf N 60 0 4 1 = some 3 := by simp [gf, hB.c_]
    have e34 : N.1 3 4 = L := by rw [hc.2.1 3 (by omega) (by omega)]; exact eL
    have g3 : gf N 3 4 5 4 = some L := by rw [← e34]; simp [gf, hB.r_]
    have ck0 : ck N 60 0 4 = some () := by simp [ck, hB.c_]
    obtain ⟨r, N', d, e, hI', hc', hk⟩ := treesQ_ok hI k0 k1 hc h7 h12 z1 (show z ≤ 40 by omega)
    have eT' : r = Tq M (102 + 12 * k) z := e
    have tz := T0 z
    have sr := ssum_r (k := (z - 1).toNat) (f := fun i => Tq M (102 + 12 * k) (i + 1)) (fun i _ _ => (T0 _).1)
    have pl := plusC_ok (M := N') sr.1 sr.2 tz.1 tz.2
    have wz : wr (z + 1) = z + 1 := wr_eq (by omega) (by omega)
    have es : sat (ssum (z - 1).toNat (fun i => Tq M (102 + 12 * k) (i + 1)) + Tq M (102 + 12 * k) z) = ssum (z + 1 - 1).toNat (fun i => Tq M (102 + 12 * k) (i + 1)) := by
      rw [show (z + 1 - 1).toNat = (z - 1).toNat + 1 by omega, ssum_s, show (((z - 1).toNat : Nat) : Int) + 1 = z by omega]
    rw [L_Census_aheadOfRow_5]
    dsimp only
    rw [g1, obs, g3, obs, if_neg (by omega), ck0, obs, d, obs]
    dsimp only
    rw [eT', pl, obs, wz, es]
    exact ih (z + 1) n1 N' (by omega) (by omega) (by omega) (by omega) hI' hc'
/-- what both sides answer -/
def ANS (M : Mem) (p L : Int) (nm S K : Int → Int) : Int := sat (ssum (L - 1).toNat (fun i => Tq M p (i + 1)) + aP (M.1 1 1) (rkC M) (mch M p) nm S K 40 0 (fb M p))
def AOP (M : Mem) (tc p L : Int) (nm S : Int → Int) (r : Int) (M' : Mem) : Prop := ∃ K, TRK (M.1 1 1) (rkC M) (mch M p) L nm S K ∧ r = ANS M p L nm S K ∧ IB M' tc ∧ M'.2 = M.2 ∧ (∀ a, a ≠ 6 → a ≠ 60 → a ≠ 61 → a ≠ p → a ≠ p + 6 → M'.1 a = M.1 a) ∧ (∀ j, j ≠ 13 → M'.1 p j = M.1 p j)
theorem aheadOfRow_ok {M : Mem} {tc k L : Int} (hI : IB M tc) (k0 : 0 ≤ k) (k1 : k < tc) (h7 : M.1 (100 + 12 * k) 7 = 0) (h12 : M.1 (102 + 12 * k) 12 = 0) (eL : M.1 3 4 = L) (L1 : 1 ≤ L) (L40 : L ≤ 40) (hT : TRE (rkC M) L (M.1 4) (M.1 5)) (e0 : M.1 5 0 = L) : OkV (D_Census_aheadOfRow 60 (102 + 12 * k) M) (fun r M' => AOP M tc (102 + 12 * k) L (M.1 4) (M.1 5) r M') := by
  have mok := TG.mok (hI.2.2.2.2.2.2.2.2.2.2 k k0 k1) h7 h12
  have k6 : 0 ≤ M.1 (102 + 12 * k) 10 ∧ M.1 (102 + 12 * k) 10 ≤ 6 := mok.2.2.1.1
  have hrw := hI.rw_
  have mw : MW (M.1 1 1) (rkC M) (mch M (102 + 12 * k)) := mok.2.2.1
  have hr : ∀ s, 0 ≤ rkC M s ∧ rkC M s ≤ 2 := fun s => hI.sg.1.rk s
  unfold D_Census_aheadOfRow
  refine ao5_lp k0 k1 h7 h12 eL L40 (fun o => OkV o (fun r M' => AOP M tc (102 + 12 * k) L (M.1 4) (M.1 5) r M')) _ (fun N hIN hc => ?_) (L - 1).toNat 1 FU M rfl (by have := FU_eq; omega) (Int.le_refl 1) L1 hI (CNQ.rf M _)
  have hBN := hIN.sb
  have tgN := hIN.2.2.2.2.2.2.2.2.2.2 k k0 k1
  have g7 : N.1 (100 + 12 * k) 7 = 0 := by rw [hc.2.1 _ (by omega) (by omega)]; exact h7
  have g12 : N.1 (102 + 12 * k) 12 = 0 := by rw [hc.2.2 12 (by decide)]; exact h12
  have ck0 : ck N 60 0 4 = some () := by simp [ck, hBN.c_]
  obtain ⟨M2, d2, hC2⟩ := countAll_ok hBN hIN.sg.1 hIN.2.2.1 (TG.mok tgN g7 g12) (tgN.cv g7 g12)
  have hI2 := hC2.ib' hIN k0 k1
  have hc2 := hc.cn hC2
  obtain ⟨c1, ek, em, ef⟩ := hc2.same (by omega)
  obtain ⟨c1N, ekN, emN, -⟩ := hc.same (by omega)
  have hB2 := hI2.sb
  have tg2 := hI2.2.2.2.2.2.2.2.2.2.2 k k0 k1
  have mok2 := TG.mok tg2 (by rw [hc2.2.1 _ (by omega) (by omega)]; exact h7) (by rw [hc2.2.2 12 (by decide)]; exact h12)
  have x3 : M2.1 3 = M.1 3 := hc2.2.1 3 (by omega) (by omega)
  have x4 : M2.1 4 = M.1 4 := hc2.2.1 4 (by omega) (by omega)
  have x5 : M2.1 5 = M.1 5 := hc2.2.1 5 (by omega) (by omega)
  have g1 : gf M2 60 0 4 1 = some 3 := by simp [gf, hB2.c_]
  have ck3 : ck M2 3 4 5 = some () := by simp [ck, hB2.r_]
  obtain ⟨cr, M3, d3, s3, o3, hB3, hK3, -⟩ := readBy_ok (p := 102 + 12 * k) hB2 hI2.sg.1 mok2 (by rw [x3, eL]; omega) (fun i a b => by rw [x3] at b; rw [x4, c1]; exact (hrw.2.2 i a b).2) (by rw [ek, x3, x4, x5, eL]; exact hT)
  rw [ek, em, hc2.2.2 10 (by decide), x3, x4, x5, eL] at hK3
  have hI3 : IB M3 tc := (FR.of6 s3 o3).ib hI2 hB3
  have hTK : TRK (M.1 1 1) (rkC M) (mch M (102 + 12 * k)) L (M.1 4) (M.1 5) (M3.1 6) := ⟨hT, hK3, fun i a b => (hrw.2.2 i a (by rw [eL]; exact b)).2, L40⟩
  have n1 : M3.1 1 = M.1 1 := by rw [o3 1 (by decide), c1]
  have ek3 : rkC M3 = rkC M := by rw [rk_c (o3 1 (by decide)) (o3 2 (by decide)), ek]
  have em3 : mch M3 (102 + 12 * k) = mch M (102 + 12 * k) := by rw [← em]; exact mch_c (rk_c (o3 1 (by decide)) (o3 2 (by decide))) (fun a a0 a1 => o3 a (by omega))
  have mok3 : MOK M3 (102 + 12 * k) := TG.mok (hI3.2.2.2.2.2.2.2.2.2.2 k k0 k1) (by rw [o3 _ (by omega), hc2.2.1 _ (by omega) (by omega)]; exact h7) (by rw [o3 _ (by omega), hc2.2.2 12 (by decide)]; exact h12)
  have e10 : M3.1 (102 + 12 * k) 10 = M.1 (102 + 12 * k) 10 := by rw [o3 _ (by omega), hc2.2.2 10 (by decide)]
  have cst : CSt (M.1 1 1) (rkC M) (mch M (102 + 12 * k)) (102 + 12 * k) M3 := by
    refine ⟨⟨hB3, hI3.sg.1, mok3, fun z c a b c0 c1' => ?_, kC_r⟩, by rw [n1], ek3, em3, e10⟩
    rw [e10] at c1'
    rw [o3 _ (by omega), hC2.2.2.2.2.2 z c a b c0 (by rw [hc.2.2 10 (by decide)]; exact c1'), c1N, ekN, emN]
    rfl
  have fbe : fb M3 (102 + 12 * k) = fb M (102 + 12 * k) := by
    rw [← ef]
    funext c
    unfold fb
    rw [o3 _ (by omega)]
  have ck33 : ck M3 60 0 4 = some () := by simp [ck, hB3.c_]
  obtain ⟨M4, d4, c4, at4, -⟩ := weighFinals_ok cst
  rw [fbe] at at4
  have cst4 := cst.c c4
  have hB4 := cst4.1.1
  have ck4 : ck M4 60 0 4 = some () := by simp [ck, hB4.c_]
  have y3 : M4.1 3 4 = L := by rw [c4.2.2.2.2.1, o3 3 (by decide), x3, eL, ln'_0]; omega
  have y4 : M4.1 4 = M.1 4 := by rw [c4.2.2.2.1, o3 4 (by decide), x4]; rfl
  have y5 : M4.1 5 = M.1 5 := by rw [c4.2.1 5 (by decide) (by decide) (by decide) (by decide), o3 5 (by decide), x5]
  have y6 : M4.1 6 = M3.1 6 := by rw [c4.2.1 6 (by decide) (by decide) (by decide) (by decide)]
  obtain ⟨r5, M5, d5, e5, c5⟩ := ahead_ok hTK 40 (N := WF) (i := 0) (lv := 0) cst4 (fb_k mok) at4 y3 y4 y5 y6 (Int.le_refl 0) (by omega) (by omega) (Int.le_refl 0) (by omega) (by rw [WF_eq]; decide)
  have T0 : ∀ z, 0 ≤ Tq M (102 + 12 * k) z ∧ Tq M (102 + 12 * k) z ≤ FAR := fun z => sat_r (tot_nn _ _)
  have sr := ssum_r (k := (L - 1).toNat) (f := fun i => Tq M (102 + 12 * k) (i + 1)) (fun i _ _ => (T0 _).1)
  have nA := aP_nn hTK mw hr 40 0 _ (Int.le_refl 0) (by omega) (fb_k mok)
  have pl := plusC_ok (M := M5) sr.1 sr.2 (sat_r nA).1 (sat_r nA).2
  have es : sat (ssum (L - 1).toNat (fun i => Tq M (102 + 12 * k) (i + 1)) + sat (aP (M.1 1 1) (rkC M) (mch M (102 + 12 * k)) (M.1 4) (M.1 5) (M3.1 6) 40 0 (fb M (102 + 12 * k)))) = ANS M (102 + 12 * k) L (M.1 4) (M.1 5) (M3.1 6) := by
    have := sat_add sr.1 nA
    rw [sat_i sr.2] at this
    exact this
  rw [ck0, obs, d2, obs, g1, obs, ck3, obs, d3, obs]
  dsimp only
  rw [ck33, obs, d4, obs, ck4, obs, d5, obs]
  dsimp only
  rw [e5, pl, obs, es]
  have hI5 : IB M5 tc := (c4.fr.tr (c5.fr)).ib hI3 c5.2.2.2.2.2.2.2
  refine OkV.i ⟨M3.1 6, hTK, rfl, hI5, by rw [c5.1, c4.1, s3, hc2.1], fun a a6 a60 a61 ap ap6 => ?_, fun j q => ?_⟩
  · have q5 : ∀ {A B : Mem} {v : Int}, CWR v [] A B → ∀ a, a ≠ 60 → a ≠ 61 → B.1 a = A.1 a := by
      intro A B v hcw a q r
      by_cases u : 80 ≤ a ∧ a ≤ 99 ∨ a = 5 ∨ a = 6 ∨ (8 ≤ a ∧ a ≤ 9) ∨ (50 ≤ a ∧ a ≤ 62)
      · exact hcw.2.1 a (by omega) (by omega) q r
      · exact hcw.fr.2.1 a (by omega) (by omega) (by omega) (by omega) (by omega)
    rw [q5 c5 a a60 a61, q5 c4 a a60 a61, o3 a a6, hc2.2.1 a ap ap6]
  · rw [c5.2.1 _ (by omega) (by omega) (by omega) (by omega), c4.2.1 _ (by omega) (by omega) (by omega) (by omega), o3 _ (by omega), hc2.2.2 j q]
