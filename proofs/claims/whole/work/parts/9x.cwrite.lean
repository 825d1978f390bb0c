/-! writing the tree of a number: the class -/
theorem Eqm.rf (n : Int) (rk : Int → Int) (m : Mch) : Eqm n rk m m := ⟨rfl, fun _ _ _ => ⟨rfl, rfl, rfl, rfl, Iff.rfl⟩, fun _ _ _ _ _ _ => rfl⟩
theorem secP_q {n : Int} {rk : Int → Int} {m m' : Mch} {kk : Int → Int → Int} {w w' : Int → Int} {s x z : Int} (hW : MW n rk m) (e : Eqm n rk m m') (hw : ∀ c, 0 ≤ c → c < mN m → w c = w' c) (s0 : 0 ≤ s) (s1 : s < n) (r2 : rk s = 2) (x0 : 0 ≤ x) (x1 : x < mN m) : secP m kk w s x z = secP m' kk w' s x z := by
  unfold secP
  rw [← e.1]
  refine ssum_c (fun y y0 y1 => ?_)
  have N6 := hW.1
  have hA : Arg rk (mN m) s x y := argx (fun _ => ⟨x0, x1⟩) (fun _ => ⟨y0, by omega⟩) (fun w => by omega) (fun w => by omega)
  have t := hW.2 s x y s0 s1 hA
  rw [← e.2.2 s x y s0 s1 hA, hw _ t.1 t.2]
theorem w1P_q {n : Int} {rk : Int → Int} {m m' : Mch} {kk : Int → Int → Int} {w w' : Int → Int} {s x z f : Int} (hW : MW n rk m) (e : Eqm n rk m m') (hw : ∀ c, 0 ≤ c → c < mN m → w c = w' c) (s0 : 0 ≤ s) (s1 : s < n) (r1 : 1 ≤ rk s) (r2 : rk s ≤ 2) (x0 : 0 ≤ x) (x1 : x < mN m) : w1P rk m kk w s z f x = w1P rk m' kk w' s z f x := by
  unfold w1P
  by_cases q : rk s = 1
  · rw [if_pos q, if_pos q]
    have hA : Arg rk (mN m) s x 0 := argx (fun _ => ⟨x0, x1⟩) (fun w => by omega) (fun w => by omega) (fun _ => rfl)
    have t := hW.2 s x 0 s0 s1 hA
    rw [← e.2.2 s x 0 s0 s1 hA, hw _ t.1 t.2]
  · rw [if_neg q, if_neg q]
    exact secP_q hW e hw s0 s1 (by omega) x0 x1
theorem shP_q {n : Int} {rk : Int → Int} {m m' : Mch} {kk : Int → Int → Int} {w w' : Int → Int} {s z f : Int} (hW : MW n rk m) (hr : ∀ s, 0 ≤ rk s ∧ rk s ≤ 2) (e : Eqm n rk m m') (hw : ∀ c, 0 ≤ c → c < mN m → w c = w' c) (s0 : 0 ≤ s) (s1 : s < n) : shP rk m kk w s z f = shP rk m' kk w' s z f := by
  unfold shP
  have rs := hr s
  have N6 := hW.1
  by_cases q : rk s = 0
  · rw [if_pos q, if_pos q]
    have hA : Arg rk (mN m) s 0 0 := argx (fun w => by omega) (fun w => by omega) (fun _ => rfl) (fun _ => rfl)
    have t := hW.2 s 0 0 s0 s1 hA
    rw [← e.2.2 s 0 0 s0 s1 hA, hw _ t.1 t.2]
  · rw [if_neg q, if_neg q, ← e.1]
    refine ssum_c (fun x x0 x1 => ?_)
    have r1 : 1 ≤ rk s := by omega
    rw [w1P_q hW e hw s0 s1 r1 rs.2 x0 (by omega)]
theorem mst_lt {rk : Int → Int} {s z : Int} (hr : 0 ≤ rk s ∧ rk s ≤ 2) (z1 : 1 ≤ z) : mst rk s z < z := by
  unfold mst lst
  split <;> (try split) <;> (try split) <;> omega
/-- while the class writes: what may have changed, the weights from v on among it -/
def CWR (v : Int) (T : List Int) (M M' : Mem) : Prop := M'.2 = M.2 ∧ (∀ a, a ≠ 3 → a ≠ 4 → a ≠ 60 → a ≠ 61 → M'.1 a = M.1 a) ∧ (∀ k, k ≠ 4 → M'.1 3 k = M.1 3 k) ∧ M'.1 4 = wq (M.1 4) (M.1 3 4) T ∧ M'.1 3 4 = M.1 3 4 + ln' T ∧ (∀ k, k ≠ 3 → M'.1 60 k = M.1 60 k) ∧ (∀ i, i < v → M'.1 61 i = M.1 61 i) ∧ SB M'
theorem CWR.tr {v v' : Int} {T T' : List Int} {M M' M'' : Mem} (h : CWR v T M M') (h' : CWR v' T' M' M'') (hv : v ≤ v') : CWR v (T ++ T') M M'' := by
  refine ⟨h'.1.trans h.1, fun a x y z w => (h'.2.1 a x y z w).trans (h.2.1 a x y z w), fun k x => (h'.2.2.1 k x).trans (h.2.2.1 k x), ?_, ?_, fun k x => (h'.2.2.2.2.2.1 k x).trans (h.2.2.2.2.2.1 k x), fun i x => (h'.2.2.2.2.2.2.1 i (by omega)).trans (h.2.2.2.2.2.2.1 i x), h'.2.2.2.2.2.2.2⟩
  · rw [h'.2.2.2.1, h.2.2.2.1, h.2.2.2.2.1, wq_a]
  · rw [h'.2.2.2.2.1, h.2.2.2.2.1, ln'_a]; omega
theorem CWR.rf (v : Int) {M : Mem} (hB : SB M) : CWR v [] M M := ⟨rfl, fun _ _ _ _ _ => rfl, fun _ _ => rfl, rfl, by rw [ln'_0]; omega, fun _ _ => rfl, fun _ _ => rfl, hB⟩
theorem ADD.cw {T : List Int} {M M' : Mem} (h : ADD T M M') (hB : SB M) (v : Int) : CWR v T M M' := ⟨h.1, fun a x y _ _ => h.2.1 a x y, h.2.2.1, h.2.2.2.1, h.2.2.2.2, fun k _ => by rw [h.2.1 60 (by decide) (by decide)], fun i _ => by rw [h.2.1 61 (by decide) (by decide)], h.sb hB⟩
theorem W61.cw {v k : Int} {M M' : Mem} (h : W61 v k M M') (hB : SB M) : CWR v [] M M' := by
  have o := h.2.1
  exact ⟨h.1, fun a _ _ _ w => o a w, fun k _ => by rw [o 3 (by decide)], by rw [o 4 (by decide)]; rfl, by rw [o 3 (by decide), ln'_0]; omega, fun k _ => by rw [o 60 (by decide)], fun i q => h.2.2 i (by omega), h.sb hB⟩
theorem up_cw {M : Mem} (hB : SB M) (r v : Int) : CWR v [] M (up M 60 3 r) := ⟨up_2 .., fun a _ _ x _ => up_n x, fun k _ => by rw [up_n (by decide)], by rw [up_n (by decide)]; rfl, by rw [up_n (by decide), ln'_0]; omega, fun k q => by rw [up_1, if_neg (fun z => q z.2)], fun i _ => by rw [up_n (by decide)], SB_up hB (by unfold stp; omega)⟩
/-- the class is ready to write -/
def CSt (n : Int) (rk : Int → Int) (m : Mch) (p : Int) (M : Mem) : Prop := CEN M p (kC n rk m) ∧ M.1 1 1 = n ∧ rkC M = rk ∧ mch M p = m ∧ M.1 p 10 = mN m
theorem CSt.c {n : Int} {rk : Int → Int} {m : Mch} {p v : Int} {T : List Int} {M M' : Mem} (h : CSt n rk m p M) (w : CWR v T M M') : CSt n rk m p M' := by
  have := h.1.c w.1 w.2.1 w.2.2.2.2.2.2.2
  exact ⟨this.1, by rw [this.2.2.2.2]; exact h.2.1, by rw [this.2.1]; exact h.2.2.1, by rw [this.2.2.1]; exact h.2.2.2.1, by rw [this.2.2.2.1]; exact h.2.2.2.2⟩
theorem CSt.mw {n : Int} {rk : Int → Int} {m : Mch} {p : Int} {M : Mem} (h : CSt n rk m p M) : MW n rk m ∧ (∀ s, 0 ≤ rk s ∧ rk s ≤ 2) ∧ n ≤ 6 := by
  obtain ⟨⟨-, hg, hM, -⟩, e1, e2, e3, -⟩ := h
  have := hM.2.2.1
  rw [e1, e2, e3] at this
  exact ⟨this, fun s => by rw [← e2]; exact hg.rk s, by rw [← e1]; exact hg.2.1⟩
/-- the weights at a level -/
def AtL (lv : Int) (N : Int) (W : Int → Int) (M : Mem) : Prop := ∀ c, 0 ≤ c → c < N → M.1 61 (lv * 6 + c) = W c
theorem AtL.c {lv N v : Int} {W : Int → Int} {T : List Int} {M M' : Mem} (h : AtL lv N W M) (w : CWR v T M M') (N6 : N ≤ 6) (hv : lv * 6 + 6 ≤ v) : AtL lv N W M' := fun c a b => by rw [w.2.2.2.2.2.2.1 _ (by omega)]; exact h c a b
theorem leastFirst_ok {n : Int} {rk : Int → Int} {m : Mch} {p : Int} {M : Mem} (h : CSt n rk m p M) {s z : Int} (z1 : 1 ≤ z) (z2 : z ≤ 40) : D_Census_leastFirst 60 s z M = some (lst rk s z, M) := by
  obtain ⟨⟨hB, hg, hM, -⟩, e1, e2, e3, -⟩ := h
  have g0 : gf M 60 0 4 0 = some 1 := by simp [gf, hB.c_]
  have ck1 : ck M 1 5 3 = some () := by simp [ck, hB.s_]
  have rko := rankOf_ok hB.s_ hg.2.1 s
  rw [e2] at rko
  have w : wr (z - 1) = z - 1 := wr_eq (by omega) (by omega)
  unfold D_Census_leastFirst lst
  rw [g0, obs, ck1, obs, rko, obs, w]
  dsimp only
  split
  · rfl
  · split <;> rfl
theorem mostFirst_ok {n : Int} {rk : Int → Int} {m : Mch} {p : Int} {M : Mem} (h : CSt n rk m p M) {s z : Int} (z1 : 1 ≤ z) (z2 : z ≤ 40) : D_Census_mostFirst 60 s z M = some (mst rk s z, M) := by
  have hl := leastFirst_ok h (s := s) z1 z2
  obtain ⟨⟨hB, hg, hM, -⟩, e1, e2, e3, -⟩ := h
  have g0 : gf M 60 0 4 0 = some 1 := by simp [gf, hB.c_]
  have ck1 : ck M 1 5 3 = some () := by simp [ck, hB.s_]
  have ck0 : ck M 60 0 4 = some () := by simp [ck, hB.c_]
  have rko := rankOf_ok hB.s_ hg.2.1 s
  rw [e2] at rko
  have w : wr (z - 2) = z - 2 := wr_eq (by omega) (by omega)
  unfold D_Census_mostFirst mst
  rw [g0, obs, ck1, obs, rko, obs, w]
  dsimp only
  split
  · rfl
  · rw [ck0, obs, hl, obs]
/-- a share, told by the pure weights -/
theorem shareQ_ok {n : Int} {rk : Int → Int} {m : Mch} {p lv s z f : Int} {W : Int → Int} {M : Mem} (h : CSt n rk m p M) (hw : WOK (mN m) W) (hl : AtL lv (mN m) W M) (l0 : 0 ≤ lv) (l1 : lv ≤ 39) (s0 : 0 ≤ s) (s1 : s < n) (z1 : 1 ≤ z) (z2 : z ≤ 40) (f0 : 0 ≤ f) (f1 : f < z) : OkV (D_Census_share 60 p s z f lv M) (fun r M' => r = shP rk m (kC n rk m) W s z f ∧ CWR (lv * 6 + 6) [] M M' ∧ (1 ≤ rk s → AtL (lv + 1) (mN m) (w1P rk m (kC n rk m) W s z f) M')) := by
  obtain ⟨hW, hr, n6⟩ := h.mw
  have h' := h
  obtain ⟨hC, e1, e2, e3, e4⟩ := h
  obtain ⟨r, M', d, a1, a2, a3, a4, a5⟩ := share_ok (lv := lv) (s := s) (z := z) (f := f) hC s0 (by rw [e1]; exact s1) l0 l1 z1 z2 f0 f1 (fun c c0 c1 => by rw [e4] at c1; show 0 ≤ M.1 61 (lv * 6 + c) ∧ M.1 61 (lv * 6 + c) ≤ FAR; rw [hl c c0 c1]; exact hw c c0 c1)
  rw [e2, e3] at a1 a5
  refine ⟨r, M', d, ?_, a3.cw hC.1, fun r1 x x0 x1 => ?_⟩
  · rw [a1]
    exact shP_q hW hr (Eqm.rf n rk m) hl s0 s1
  · rw [show (lv + 1) * 6 + x = lv * 6 + 6 + x by omega, a5 r1 x x0 (by omega)]
    exact w1P_q hW (Eqm.rf n rk m) hl s0 s1 r1 (hr s).2 x0 x1
theorem weighSeconds_ok {n : Int} {rk : Int → Int} {m : Mch} {p lv s x : Int} {W : Int → Int} {M : Mem} (h : CSt n rk m p M) (hl : AtL lv (mN m) W M) (l0 : 0 ≤ lv) (l1 : lv ≤ 39) (s0 : 0 ≤ s) (s1 : s < n) (r2 : rk s = 2) (x0 : 0 ≤ x) (x1 : x < mN m) : OkM (D_Census_weighSeconds 60 p s x lv M) (fun M' => CWR (lv * 6 + 6) [] M M' ∧ AtL (lv + 1) (mN m) (fun y => W (mT m s x y)) M' ∧ M'.1 60 = M.1 60) := by
  obtain ⟨hW, hr, n6⟩ := h.mw
  have h' := h
  obtain ⟨hC, e1, e2, e3, e4⟩ := h
  have N6 := hW.1
  have hB := hC.1
  have w6 : wr (lv * 6) = lv * 6 := wr_eq (by omega) (by omega)
  unfold D_Census_weighSeconds lt
  rw [w6]
  dsimp only
  refine lq1 (n := FU) (a := 0) (M := M) (fun n y N => L_Census_weighSeconds_10 (fun m10 => some m10) 60 p s x (lv * 6) n y N) (fun y N => (0 ≤ y ∧ y ≤ mN m) ∧ W61 (lv * 6 + 6) 6 M N ∧ ∀ c, 0 ≤ c → c < y → N.1 61 (lv * 6 + 6 + c) = W (mT m s x c)) (fun y => (mN m - y).toNat) (fun o => OkM o (fun M' => CWR (lv * 6 + 6) [] M M' ∧ AtL (lv + 1) (mN m) (fun y => W (mT m s x y)) M' ∧ M'.1 60 = M.1 60)) ?_ ⟨⟨Int.le_refl 0, N6.1⟩, ⟨rfl, fun _ _ => rfl, fun _ _ => rfl⟩, fun y a b => by omega⟩ (by have := FU_eq; omega)
  intro nn y N ⟨yr, hWN, hy⟩ ih
  show OkM (L_Census_weighSeconds_10 (fun m10 => some m10) 60 p s x (lv * 6) (nn + 1) y N) _
  have cwN := hWN.cw hB
  have hN := h'.c cwN
  have hBN := hWN.sb hB
  have msN := hN.1.2.2.1.1
  have g10 : gf N p 1 14 10 = some (mN m) := by rw [← hN.2.2.2.2]; simp [gf, msN]
  have ckpN : ck N p 1 14 = some () := by simp [ck, msN]
  have g2N : gf N 60 0 4 2 = some 61 := by simp [gf, hBN.c_]
  have l61N : N.2.1 61 = (11, 246) := by simp [hBN.c_]
  rw [L_Census_weighSeconds_10]
  simp only [g10, obs]
  by_cases q : mN m ≤ y
  · rw [if_pos q]
    exact ⟨N, rfl, cwN, fun c c0 c1 => by rw [show (lv + 1) * 6 + c = lv * 6 + 6 + c by omega]; exact hy c c0 (by omega), hWN.2.1 60 (by decide)⟩
  · rw [if_neg q]
    have hA : Arg rk (mN m) s x y := argx (fun _ => ⟨x0, x1⟩) (fun _ => ⟨yr.1, by omega⟩) (fun w => by omega) (fun w => by omega)
    have st := step_ok (M := N) (p := p) (s := s) (x := x) (y := y) (c := mN m) hBN hN.1.2.1 hN.1.2.2.1.1 N6.2 ⟨s0, by omega⟩ (by rw [hN.2.2.1]; exact hA)
    rw [hN.2.2.2.1] at st
    have t := hW.2 s x y s0 s1 hA
    have w3 : wr (lv * 6 + mT m s x y) = lv * 6 + mT m s x y := wr_eq (by omega) (by omega)
    have eV : rd N 11 61 (lv * 6 + mT m s x y) = some (W (mT m s x y)) := by rw [rd_v l61N (by omega) (by omega), hWN.2.2 _ (by omega), hl _ t.1 t.2]
    have w7 : wr (lv * 6 + 6) = lv * 6 + 6 := wr_eq (by omega) (by omega)
    have w8 : wr (lv * 6 + 6 + y) = lv * 6 + 6 + y := wr_eq (by omega) (by omega)
    have eW : wt N 11 61 (lv * 6 + 6 + y) (W (mT m s x y)) = some (up N 61 (lv * 6 + 6 + y) (W (mT m s x y))) := wt_v l61N (by omega) (by omega)
    have ew : wr (y + 1) = y + 1 := wr_eq (by omega) (by omega)
    simp only [g2N, obs, ckpN, st, w3, eV, w7, w8, eW, ew]
    refine ih (y + 1) _ ⟨⟨by omega, by omega⟩, ⟨by rw [up_2]; exact hWN.1, fun a q => by rw [up_n q]; exact hWN.2.1 a q, fun i q => by rw [up_1, if_neg (by omega)]; exact hWN.2.2 i q⟩, fun c c0 c1 => ?_⟩ (by omega)
    rw [up_1]
    by_cases qc : c = y
    · rw [if_pos ⟨rfl, by rw [qc]⟩, qc]
    · rw [if_neg (by omega)]; exact hy c c0 (by omega)
