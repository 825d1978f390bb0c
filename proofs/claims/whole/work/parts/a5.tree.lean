/-! calls: the tree of a number -/
theorem layLast_ok {n : Int} {rk : Int → Int} {m : Mch} {M : Mem} (h : RSt n rk m M) (hA : BA M) : OkM (D_M_layLast 62 0 M) (fun M' => M'.2 = M.2 ∧ (∀ a, a ≠ 94 → M'.1 a = M.1 a) ∧ (∀ i, i < 0 → M'.1 94 i = M.1 94 i) ∧ SB M' ∧ AtR 0 (mN m) (fun c => M.1 75 (96 + c)) M') := by
  obtain ⟨hW, hr, n6, eN⟩ := h.mw
  have N6 := hW.1
  have hB := h.sb
  unfold D_M_layLast
  refine lq1 (n := FU) (a := 0) (M := M) (fun n y N => L_M_layLast_2 (fun m2 => some m2) 62 0 n y N) (fun y N => (0 ≤ y ∧ y ≤ mN m) ∧ N.2 = M.2 ∧ (∀ a, a ≠ 94 → N.1 a = M.1 a) ∧ (∀ i, i < 0 → N.1 94 i = M.1 94 i) ∧ SB N ∧ ∀ c, 0 ≤ c → c < y → N.1 94 (6 * 0 + c) = M.1 75 (96 + c)) (fun y => (mN m - y).toNat) (fun o => OkM o (fun M' => M'.2 = M.2 ∧ (∀ a, a ≠ 94 → M'.1 a = M.1 a) ∧ (∀ i, i < 0 → M'.1 94 i = M.1 94 i) ∧ SB M' ∧ AtR 0 (mN m) (fun c => M.1 75 (96 + c)) M')) ?_ ⟨⟨Int.le_refl 0, N6.1⟩, rfl, fun _ _ => rfl, fun _ _ => rfl, hB, fun y a b => by omega⟩ (by have := FU_eq; omega)
  intro nn y N ⟨yr, s2, o2, oi, hBN, hy⟩ ih
  show OkM (L_M_layLast_2 (fun m2 => some m2) 62 0 (nn + 1) y N) _
  have g13 : gf N 62 9 54 13 = some 73 := by simp [gf, hBN.m_]
  have d73 : rd N 10 73 16 = some (mN m) := by rw [rd_v (n := 19) (by simp [hBN.m_]) (by decide) (by decide), o2 73 (by decide), eN]
  rw [L_M_layLast_2]
  dsimp only
  rw [g13, obs, d73, obs]
  by_cases q : mN m ≤ y
  · rw [if_pos q]
    exact ⟨N, rfl, s2, o2, oi, hBN, fun c c0 c1 => hy c c0 (by omega)⟩
  · rw [if_neg q]
    have g46 : gf N 62 9 54 46 = some 94 := by simp [gf, hBN.m_]
    have g15 : gf N 62 9 54 15 = some 75 := by simp [gf, hBN.m_]
    have w96 : wr (96 + y) = 96 + y := wr_eq (by omega) (by omega)
    have w0 : wr (6 * 0) = 6 * 0 := wr_eq (by decide) (by decide)
    have w0y : wr (6 * 0 + y) = 6 * 0 + y := wr_eq (by omega) (by omega)
    have ew : wr (y + 1) = y + 1 := wr_eq (by omega) (by omega)
    have r75 : rd N 12 75 (96 + y) = some (M.1 75 (96 + y)) := by rw [rd_v (n := 114) (by simp [hBN.m_]) (by omega) (by omega), o2 75 (by decide)]
    have t1 : (if M.1 75 (96 + y) = 0 then (some 0) else (some 1) : Option Int) = some (M.1 75 (96 + y)) := by
      rcases hA (96 + y) (by omega) (by omega) with w | w
      · rw [if_pos w, w]
      · rw [if_neg (by omega), w]
    have eW : wt N 11 94 (6 * 0 + y) (M.1 75 (96 + y)) = some (up N 94 (6 * 0 + y) (M.1 75 (96 + y))) := wt_v (n := 726) (by simp [hBN.m_]) (by omega) (by omega)
    rw [g46, obs, g15, obs, w96, r75, obs, t1, obs, w0, w0y, eW, obs, ew]
    refine ih (y + 1) _ ⟨⟨by omega, by omega⟩, by rw [up_2]; exact s2, fun a q => by rw [up_n q]; exact o2 a q, fun i q => by rw [up_1, if_neg (by omega)]; exact oi i q, SB_up hBN (by unfold stp; omega), fun c c0 c1 => ?_⟩ (by omega)
    rw [up_1]
    by_cases qc : c = y
    · rw [if_pos ⟨rfl, by rw [qc]⟩, qc]
    · rw [if_neg (by omega)]; exact hy c c0 (by omega)
/-- the reference's row is T -/
def SETX (T : List Int) (M M' : Mem) : Prop := M'.2 = M.2 ∧ (∀ a, a ≠ 62 → a ≠ 64 → ¬ (94 ≤ a ∧ a ≤ 99) → M'.1 a = M.1 a) ∧ (∀ k, k ≠ 3 → k ≠ 52 → k ≠ 53 → M'.1 62 k = M.1 62 k) ∧ M'.1 64 = wq (M.1 64) 0 T ∧ M'.1 62 3 = ln' T ∧ SB M'
theorem layTree_ok {n : Int} {rk : Int → Int} {m : Mch} {z l c r : Int} {W : Int → Int} {T : List Int} {M : Mem} (h : RSt n rk m M) (hA : BA M) (hw : WOK (mN m) W) (eW : ∀ c, 0 ≤ c → c < mN m → M.1 75 (96 + c) = W c) (z2 : z ≤ 40) (lr : 0 ≤ l ∧ l < FAR) (hT : WT n rk m 40 W z l c r T) : OkV (D_M_layTree 62 z l M) (fun r M' => r = ln' T ∧ SETX T M M') := by
  have hB := h.sb
  have tl := hT.ar
  have hlen : ln' T = z := tl.2.2.2
  have p1 : pf M 62 9 54 52 l = some (up M 62 52 l) := by simp [pf, hB.m_]
  have hB1 : SB (up M 62 52 l) := SB_up hB (by unfold stp; omega)
  have p2 : pf (up M 62 52 l) 62 9 54 3 0 = some (up (up M 62 52 l) 62 3 0) := by simp [pf, hB1.m_]
  have hB2 : SB (up (up M 62 52 l) 62 3 0) := SB_up hB1 (by unfold stp; omega)
  have g3 : gf (up (up M 62 52 l) 62 3 0) 62 9 54 47 = some 95 := by simp [gf, hB2.m_]
  have w3 : wt (up (up M 62 52 l) 62 3 0) 10 95 0 z = some (up (up (up M 62 52 l) 62 3 0) 95 0 z) := wt_v (n := 42) (by simp [hB2.m_]) (by decide) (by decide)
  have hB3 : SB (up (up (up M 62 52 l) 62 3 0) 95 0 z) := SB_up hB2 (by unfold stp; omega)
  have g4 : gf (up (up (up M 62 52 l) 62 3 0) 95 0 z) 62 9 54 50 = some 98 := by simp [gf, hB3.m_]
  have w4 : wt (up (up (up M 62 52 l) 62 3 0) 95 0 z) 10 98 0 0 = some (up (up (up (up M 62 52 l) 62 3 0) 95 0 z) 98 0 0) := wt_v (n := 42) (by simp [hB3.m_]) (by decide) (by decide)
  have hB4 : SB (up (up (up (up M 62 52 l) 62 3 0) 95 0 z) 98 0 0) := SB_up hB3 (by unfold stp; omega)
  have e2 : (up (up (up (up M 62 52 l) 62 3 0) 95 0 z) 98 0 0).2 = M.2 := by rw [up_2, up_2, up_2, up_2]
  have eo : ∀ a, a ≠ 62 → a ≠ 95 → a ≠ 98 → (up (up (up (up M 62 52 l) 62 3 0) 95 0 z) 98 0 0).1 a = M.1 a := fun a x y w => by rw [up_n w, up_n y, up_n x, up_n x]
  have ef : ∀ k, k ≠ 3 → k ≠ 52 → (up (up (up (up M 62 52 l) 62 3 0) 95 0 z) 98 0 0).1 62 k = M.1 62 k := fun k x y => by rw [up_n (by decide), up_n (by decide), up_1, if_neg (fun w => x w.2), up_1, if_neg (fun w => y w.2)]
  have e3 : (up (up (up (up M 62 52 l) 62 3 0) 95 0 z) 98 0 0).1 62 3 = 0 := by rw [up_n (by decide), up_n (by decide), up_1, if_pos ⟨rfl, rfl⟩]
  have e52 : (up (up (up (up M 62 52 l) 62 3 0) 95 0 z) 98 0 0).1 62 52 = l := by rw [up_n (by decide), up_n (by decide), up_1, if_neg (by decide), up_1, if_pos ⟨rfl, rfl⟩]
  have e95 : (up (up (up (up M 62 52 l) 62 3 0) 95 0 z) 98 0 0).1 95 0 = z := by rw [up_n (by decide), up_1, if_pos ⟨rfl, rfl⟩]
  have e98 : (up (up (up (up M 62 52 l) 62 3 0) 95 0 z) 98 0 0).1 98 0 = 0 := by rw [up_1, if_pos ⟨rfl, rfl⟩]
  unfold D_M_layTree
  rw [p1, obs, p2, obs, g3, obs, w3, obs, g4, obs, w4, obs]
  clear p1 p2 g3 w3 g4 w4 hB1 hB2 hB3
  generalize up (up (up (up M 62 52 l) 62 3 0) 95 0 z) 98 0 0 = Q at *
  have hQ : RSt n rk m Q := by
    have c1 : Q.1 1 = M.1 1 := eo 1 (by decide) (by decide) (by decide)
    have c2 : Q.1 2 = M.1 2 := eo 2 (by decide) (by decide) (by decide)
    have ek : rkC Q = rkC M := rk_c c1 c2
    have em : mchR Q 16 = mchR M 16 := by
      unfold mchR
      rw [eo 73 (by decide) (by decide) (by decide), eo 74 (by decide) (by decide) (by decide), eo 75 (by decide) (by decide) (by decide), eo 76 (by decide) (by decide) (by decide), eo 77 (by decide) (by decide) (by decide), eo 78 (by decide) (by decide) (by decide), eo 79 (by decide) (by decide) (by decide)]
    obtain ⟨⟨hB, hg, hW, hk, hr, h0⟩, x1, x2, x3, x4⟩ := h
    refine ⟨⟨hB4, hg.c c1 c2 (ef 0 (by decide) (by decide)) (eo 63 (by decide) (by decide) (by decide)), ?_, ?_, hr, h0⟩, by rw [c1]; exact x1, by rw [ek]; exact x2, by rw [em]; exact x3, x4⟩
    · rw [c1, ek, em]; exact hW
    · rw [eo 73 (by decide) (by decide) (by decide), eo 93 (by decide) (by decide) (by decide)]; exact hk
  have q75 : Q.1 75 = M.1 75 := eo 75 (by decide) (by decide) (by decide)
  have ckq : ck Q 62 9 54 = some () := by simp [ck, hB4.m_]
  obtain ⟨R, dR, r2, ro, ri, hBR, rAt⟩ := layLast_ok hQ (fun j a b => by rw [q75]; exact hA j a b)
  rw [ckq, obs, dR, obs]
  have cR : RWR 0 0 [] Q R := ⟨r2, fun a _ _ q => ro a (by omega), fun k _ _ _ => by rw [ro 62 (by decide)], by rw [ro 64 (by decide)]; rfl, by rw [ro 62 (by decide), ln'_0]; omega, fun i q => ri i q, fun a i x y w => by rw [ro a (by omega)], hBR⟩
  have hR := hQ.c cR
  have eF : FU = (FU - (2 * z - 1).toNat) + (2 * z - 1).toNat := by have := FU_eq; omega
  rw [eF]
  refine layT_lp _ (fun o => OkV o (fun r M' => r = ln' T ∧ SETX T M M')) 40 (W := W) (z := z) (k := l) (c := c) (r := r) (d := 0) (l := T) (FU - (2 * z - 1).toNat) hR hw (fun c c0 c1 => by rw [rAt c c0 c1]; show Q.1 75 (96 + c) = W c; rw [q75, eW c c0 c1]) (Int.le_refl 0) (by omega) lr hT (by rw [ro 95 (by decide), e95]) (by rw [ro 98 (by decide), e98]) (by rw [ro 62 (by decide), e52]) (by rw [ro 62 (by decide), e3]; decide) (by rw [ro 62 (by decide), e3]; omega) (fun M' cM x52 x53 => ?_)
  have eG : FU - (2 * z - 1).toNat = (FU - (2 * z - 1).toNat - 1) + 1 := by have := FU_eq; omega
  rw [eG, lay_s, if_pos (by omega)]
  have hB' := cM.2.2.2.2.2.2.2
  have e3' : M'.1 62 3 = ln' T := by rw [cM.2.2.2.2.1, ro 62 (by decide), e3]; omega
  have g3' : gf M' 62 9 54 3 = some (ln' T) := by rw [← e3']; simp [gf, hB'.m_]
  rw [g3', obs]
  refine OkV.i ⟨rfl, by rw [cM.1, r2, e2], fun a x y w => by rw [cM.2.1 a x y w, ro a (by omega), eo a x (by omega) (by omega)], fun k x y w => by rw [cM.2.2.1 k x y w, ro 62 (by decide), ef k x y], ?_, e3', hB'⟩
  rw [cM.2.2.2.1, ro 62 (by decide), e3, ro 64 (by decide), eo 64 (by decide) (by decide) (by decide)]
