/-! laying the tree of a number: the reference -/
/-- the reference is ready to lay -/
def RSt (n : Int) (rk : Int → Int) (m : Mch) (M : Mem) : Prop := REN M (kC n rk m) ∧ M.1 1 1 = n ∧ rkC M = rk ∧ Eqm n rk m (mchR M 16) ∧ MW n rk m
/-- while it lays: weights from v on, the stack from d on, the row may have changed -/
def RWR (v d : Int) (T : List Int) (M M' : Mem) : Prop := M'.2 = M.2 ∧ (∀ a, a ≠ 62 → a ≠ 64 → ¬ (94 ≤ a ∧ a ≤ 99) → M'.1 a = M.1 a) ∧ (∀ k, k ≠ 3 → k ≠ 52 → k ≠ 53 → M'.1 62 k = M.1 62 k) ∧ M'.1 64 = wq (M.1 64) (M.1 62 3) T ∧ M'.1 62 3 = M.1 62 3 + ln' T ∧ (∀ i, i < v → M'.1 94 i = M.1 94 i) ∧ (∀ a i, 95 ≤ a → a ≤ 99 → i < d → M'.1 a i = M.1 a i) ∧ SB M'
theorem RWR.tr {v v' d d' : Int} {T T' : List Int} {M M' M'' : Mem} (h : RWR v d T M M') (h' : RWR v' d' T' M' M'') (hv : v ≤ v') (hd : d ≤ d') : RWR v d (T ++ T') M M'' := by
  refine ⟨h'.1.trans h.1, fun a x y z => (h'.2.1 a x y z).trans (h.2.1 a x y z), fun k x y z => (h'.2.2.1 k x y z).trans (h.2.2.1 k x y z), ?_, ?_, fun i x => (h'.2.2.2.2.2.1 i (by omega)).trans (h.2.2.2.2.2.1 i x), fun a i x y z => (h'.2.2.2.2.2.2.1 a i x y (by omega)).trans (h.2.2.2.2.2.2.1 a i x y z), h'.2.2.2.2.2.2.2⟩
  · rw [h'.2.2.2.1, h.2.2.2.1, h.2.2.2.2.1, wq_a]
  · rw [h'.2.2.2.2.1, h.2.2.2.2.1, ln'_a]; omega
theorem RWR.rf (v d : Int) {M : Mem} (hB : SB M) : RWR v d [] M M := ⟨rfl, fun _ _ _ _ => rfl, fun _ _ _ _ => rfl, rfl, by rw [ln'_0]; omega, fun _ _ => rfl, fun _ _ _ _ _ => rfl, hB⟩
theorem RWR.lo {v d v' d' : Int} {T : List Int} {M M' : Mem} (h : RWR v d T M M') (hv : v' ≤ v) (hd : d' ≤ d) : RWR v' d' T M M' := ⟨h.1, h.2.1, h.2.2.1, h.2.2.2.1, h.2.2.2.2.1, fun i x => h.2.2.2.2.2.1 i (by omega), fun a i x y z => h.2.2.2.2.2.2.1 a i x y (by omega), h.2.2.2.2.2.2.2⟩
theorem RSt.c {n : Int} {rk : Int → Int} {m : Mch} {v d : Int} {T : List Int} {M M' : Mem} (h : RSt n rk m M) (w : RWR v d T M M') : RSt n rk m M' := by
  have o : ∀ a, a ≠ 62 → a ≠ 64 → ¬ (94 ≤ a ∧ a ≤ 99) → M'.1 a = M.1 a := w.2.1
  have c1 : M'.1 1 = M.1 1 := o 1 (by decide) (by decide) (by decide)
  have c2 : M'.1 2 = M.1 2 := o 2 (by decide) (by decide) (by decide)
  have ek : rkC M' = rkC M := rk_c c1 c2
  have em : mchR M' 16 = mchR M 16 := by
    unfold mchR
    rw [o 73 (by decide) (by decide) (by decide), o 74 (by decide) (by decide) (by decide), o 75 (by decide) (by decide) (by decide), o 76 (by decide) (by decide) (by decide), o 77 (by decide) (by decide) (by decide), o 78 (by decide) (by decide) (by decide), o 79 (by decide) (by decide) (by decide)]
  obtain ⟨⟨hB, hg, hW, hk, hr, h0⟩, e1, e2, e3, e4⟩ := h
  refine ⟨⟨w.2.2.2.2.2.2.2, hg.c c1 c2 (w.2.2.1 0 (by decide) (by decide) (by decide)) (o 63 (by decide) (by decide) (by decide)), ?_, ?_, hr, h0⟩, by rw [c1]; exact e1, by rw [ek]; exact e2, by rw [em]; exact e3, e4⟩
  · rw [c1, ek, em]; exact hW
  · rw [o 73 (by decide) (by decide) (by decide), o 93 (by decide) (by decide) (by decide)]; exact hk
def AtR (d : Int) (N : Int) (W : Int → Int) (M : Mem) : Prop := ∀ c, 0 ≤ c → c < N → M.1 94 (6 * d + c) = W c
theorem AtR.c {d d' N v : Int} {W : Int → Int} {T : List Int} {M M' : Mem} (h : AtR d N W M) (w : RWR v d' T M M') (N6 : N ≤ 6) (hv : 6 * d + 6 ≤ v) : AtR d N W M' := fun c a b => by rw [w.2.2.2.2.2.1 _ (by omega)]; exact h c a b
theorem RSt.sb {n : Int} {rk : Int → Int} {m : Mch} {M : Mem} (h : RSt n rk m M) : SB M := h.1.1
theorem RSt.mw {n : Int} {rk : Int → Int} {m : Mch} {M : Mem} (h : RSt n rk m M) : MW n rk m ∧ (∀ s, 0 ≤ rk s ∧ rk s ≤ 2) ∧ n ≤ 6 ∧ M.1 73 16 = mN m := by
  obtain ⟨⟨hB, hg, hW, hk, hr, h0⟩, e1, e2, e3, e4⟩ := h
  exact ⟨e4, fun s => by rw [← e2]; exact hg.1.rk s, by rw [← e1]; exact hg.1.2.1, e3.1.symm⟩
theorem RSt.rk_ {n : Int} {rk : Int → Int} {m : Mch} {M : Mem} (h : RSt n rk m M) {s : Int} (s0 : 0 ≤ s) (s1 : s < n) : gf M 62 9 54 1 = some 63 ∧ rd M 10 63 s = some (rk s) := by
  obtain ⟨⟨hB, hg, hW, hk, hr, h0⟩, e1, e2, e3, e4⟩ := h
  have r63 := hg.2.2 s s0 (by omega)
  have n6 := hg.1.2.1
  refine ⟨by simp [gf, hB.m_], ?_⟩
  rw [rd_v (n := 6) (by simp [hB.m_]) s0 (by omega), r63, e2]
theorem RSt.wok {n : Int} {rk : Int → Int} {m : Mch} {M : Mem} {d : Int} {W : Int → Int} (h : RSt n rk m M) (hw : WOK (mN m) W) (hl : AtR d (mN m) W M) : WOK (M.1 73 16) (fun c => M.1 94 (6 * d + c)) := by
  intro c c0 c1
  rw [h.mw.2.2.2] at c1
  show 0 ≤ M.1 94 (6 * d + c) ∧ M.1 94 (6 * d + c) ≤ FAR
  rw [hl c c0 c1]
  exact hw c c0 c1
theorem weighQ_ok {n : Int} {rk : Int → Int} {m : Mch} {d s z i f : Int} {W : Int → Int} {M : Mem} (h : RSt n rk m M) (hw : WOK (mN m) W) (hl : AtR d (mN m) W M) (d0 : 0 ≤ d) (d1 : d ≤ 120) (s0 : 0 ≤ s) (s1 : s < n) (z1 : 1 ≤ z) (z2 : z ≤ 40) (hi : rk s = 2 → 1 ≤ i ∧ i ≤ z - 2) (hf : f = if rk s = 1 then z - 1 else i) : D_M_weigh 62 d s z i M = some (shP rk m (kC n rk m) W s z f, M) := by
  obtain ⟨hW, hr, n6, eN⟩ := h.mw
  have wo := h.wok hw hl
  obtain ⟨hR, e1, e2, e3, e4⟩ := h
  have := weigh_ok (f := i) hR d0 d1 s0 (by rw [e1]; exact s1) z1 z2 (by rw [e2]; exact hi) wo
  rw [e2, ← hf] at this
  rw [this]
  rw [shP_q hW hr e3 (fun c c0 c1 => (hl c c0 c1).symm) s0 s1]
theorem behindQ_ok {n : Int} {rk : Int → Int} {m : Mch} {d s z x : Int} {W : Int → Int} {M : Mem} (h : RSt n rk m M) (hw : WOK (mN m) W) (hl : AtR d (mN m) W M) (d0 : 0 ≤ d) (d1 : d ≤ 120) (s0 : 0 ≤ s) (s1 : s < n) (r2 : rk s = 2) (x0 : 0 ≤ x) (x1 : x < mN m) (z0 : 0 ≤ z) (z1 : z ≤ 40) : D_M_behind 62 d s x z M = some (secP m (kC n rk m) W s x z, M) := by
  obtain ⟨hW, hr, n6, eN⟩ := h.mw
  have wo := h.wok hw hl
  obtain ⟨hR, e1, e2, e3, e4⟩ := h
  have := behind_ok (z := z) hR d0 d1 s0 (by rw [e1]; exact s1) (by rw [e2]; exact r2) x0 (by rw [eN]; exact x1) z0 z1 wo
  rw [this]
  rw [secP_q hW e3 (fun c c0 c1 => (hl c c0 c1).symm) s0 s1 r2 x0 x1]
theorem stepQ_ok {n : Int} {rk : Int → Int} {m : Mch} {s x y : Int} {M : Mem} (h : RSt n rk m M) (s0 : 0 ≤ s) (s1 : s < n) (hA : Arg rk (mN m) s x y) : D_M_step 62 16 s x y M = some (mT m s x y, M) := by
  obtain ⟨hW, hr, n6, eN⟩ := h.mw
  have N6 := hW.1
  obtain ⟨hR, e1, e2, e3, e4⟩ := h
  obtain ⟨a1, a2, a3, a4⟩ := hA
  have xr : 0 ≤ x ∧ x < 6 := by
    by_cases q : 1 ≤ rk s
    · have := a1 q; omega
    · have := a2 q; omega
  have yr : 0 ≤ y ∧ y < 6 := by
    by_cases q : 2 ≤ rk s
    · have := a3 q; omega
    · have := a4 q; omega
  rw [rstep_ok hR.1 (by decide) ⟨s0, by omega⟩ xr yr, e3.2.2 s x y s0 s1 ⟨a1, a2, a3, a4⟩]
/-- what is laid for the parts -/
def gW (rk : Int → Int) (m : Mch) (kk : Int → Int → Int) (W : Int → Int) (s b x j c : Int) : Int := if b = 0 then (if rk s = 1 then W (mT m s c 0) else secP m kk W s c j) else W (mT m s x c)
theorem layWeights_ok {n : Int} {rk : Int → Int} {m : Mch} {d t s b x j : Int} {W : Int → Int} {M : Mem} (h : RSt n rk m M) (hw : WOK (mN m) W) (hl : AtR d (mN m) W M) (d0 : 0 ≤ d) (dt : d < t) (t1 : t ≤ 120) (s0 : 0 ≤ s) (s1 : s < n) (r1 : 1 ≤ rk s) (hb : b = 0 ∨ (b = 1 ∧ rk s = 2 ∧ 0 ≤ x ∧ x < mN m)) (j0 : 0 ≤ j) (j1 : j ≤ 40) : OkM (D_M_layWeights 62 d t s b x j M) (fun M' => M'.2 = M.2 ∧ (∀ a, a ≠ 94 → M'.1 a = M.1 a) ∧ (∀ i, ¬ (6 * t ≤ i ∧ i < 6 * t + 6) → M'.1 94 i = M.1 94 i) ∧ SB M' ∧ AtR t (mN m) (gW rk m (kC n rk m) W s b x j) M') := by
  obtain ⟨hW, hr, n6, eN⟩ := h.mw
  have N6 := hW.1
  have rs := hr s
  have hB := h.sb
  unfold D_M_layWeights
  refine lq1 (n := FU) (a := 0) (M := M) (fun n y N => L_M_layWeights_3 (fun m3 => some m3) 62 d t s b x j n y N) (fun y N => (0 ≤ y ∧ y ≤ mN m) ∧ N.2 = M.2 ∧ (∀ a, a ≠ 94 → N.1 a = M.1 a) ∧ (∀ i, ¬ (6 * t ≤ i ∧ i < 6 * t + 6) → N.1 94 i = M.1 94 i) ∧ SB N ∧ AtR t y (gW rk m (kC n rk m) W s b x j) N) (fun y => (mN m - y).toNat) (fun o => OkM o (fun M' => M'.2 = M.2 ∧ (∀ a, a ≠ 94 → M'.1 a = M.1 a) ∧ (∀ i, ¬ (6 * t ≤ i ∧ i < 6 * t + 6) → M'.1 94 i = M.1 94 i) ∧ SB M' ∧ AtR t (mN m) (gW rk m (kC n rk m) W s b x j) M')) ?_ ⟨⟨Int.le_refl 0, N6.1⟩, rfl, fun _ _ => rfl, fun _ _ => rfl, hB, fun y a b => by omega⟩ (by have := FU_eq; omega)
  intro nn y N ⟨yr, s2, o2, w2, hBN, hy⟩ ih
  show OkM (L_M_layWeights_3 (fun m3 => some m3) 62 d t s b x j (nn + 1) y N) _
  have cN : RWR (6 * t) 50 [] M N := ⟨s2, fun a _ _ q => o2 a (by omega), fun k _ _ _ => by rw [o2 62 (by decide)], by rw [o2 64 (by decide)]; rfl, by rw [o2 62 (by decide), ln'_0]; omega, fun i q => w2 i (by omega), fun a i _ _ _ => by rw [o2 a (by omega)], hBN⟩
  have hN := h.c cN
  have hlN := hl.c cN N6.2 (by omega)
  have g13 : gf N 62 9 54 13 = some 73 := by simp [gf, hBN.m_]
  have d73 : rd N 10 73 16 = some (mN m) := by rw [rd_v (n := 19) (by simp [hBN.m_]) (by decide) (by decide), hN.mw.2.2.2]
  rw [L_M_layWeights_3]
  dsimp only
  rw [g13, obs, d73, obs]
  by_cases q : mN m ≤ y
  · rw [if_pos q]
    exact ⟨N, rfl, s2, o2, w2, hBN, fun c c0 c1 => hy c c0 (by omega)⟩
  · rw [if_neg q]
    have y1 : y < mN m := by omega
    have g46 : gf N 62 9 54 46 = some 94 := by simp [gf, hBN.m_]
    have ck0 : ck N 62 9 54 = some () := by simp [ck, hBN.m_]
    have l94 : N.2.1 94 = (11, 726) := by simp [hBN.m_]
    have rk1 := hN.rk_ s0 s1
    have w6 : wr (6 * d) = 6 * d := wr_eq (by omega) (by omega)
    have w6t : wr (6 * t) = 6 * t := wr_eq (by omega) (by omega)
    have w6ty : wr (6 * t + y) = 6 * t + y := wr_eq (by omega) (by omega)
    have ew : wr (y + 1) = y + 1 := wr_eq (by omega) (by omega)
    have rdw : ∀ c, 0 ≤ c → c < mN m → wr (6 * d + c) = 6 * d + c ∧ rd N 11 94 (6 * d + c) = some (W c) := fun c c0 c1 => ⟨wr_eq (by omega) (by omega), by rw [rd_v l94 (by omega) (by omega), hlN c c0 c1]⟩
    have val : (if b = 0 then ((gf N 62 9 54 1).bind fun g56 => (rd N 10 g56 s).bind fun e60 => if e60 = 1 then ((gf N 62 9 54 46).bind fun g66 => (ck N 62 9 54).bind fun _ => (D_M_step 62 16 s y 0 N).bind fun x80 => (rd x80.2 11 g66 (wr ((wr (6 * d)) + x80.1))).bind fun e84 => some (e84, x80.2)) else ((ck N 62 9 54).bind fun _ => (D_M_behind 62 d s y j N).bind fun x95 => some (x95.1, x95.2))) else ((gf N 62 9 54 46).bind fun g32 => (ck N 62 9 54).bind fun _ => (D_M_step 62 16 s x y N).bind fun x47 => (rd x47.2 11 g32 (wr ((wr (6 * d)) + x47.1))).bind fun e51 => some (e51, x47.2))) = some (gW rk m (kC n rk m) W s b x j y, N) := by
      unfold gW
      by_cases qb : b = 0
      · rw [if_pos qb, if_pos qb, rk1.1, obs, rk1.2, obs]
        by_cases q1 : rk s = 1
        · rw [if_pos q1, if_pos q1]
          have hA : Arg rk (mN m) s y 0 := argx (fun _ => ⟨yr.1, y1⟩) (fun w => by omega) (fun w => by omega) (fun _ => rfl)
          have st := stepQ_ok hN s0 s1 hA
          have t' := hW.2 s y 0 s0 s1 hA
          have rw' := rdw _ t'.1 t'.2
          simp only [g46, obs, ck0, st, w6, rw'.1, rw'.2]
        · rw [if_neg q1, if_neg q1, ck0, obs, behindQ_ok hN hw hlN d0 (by omega) s0 s1 (by omega) yr.1 y1 j0 j1, obs]
      · rw [if_neg qb, if_neg qb]
        obtain ⟨-, q2, x0, x1⟩ := hb.resolve_left qb
        have hA : Arg rk (mN m) s x y := argx (fun _ => ⟨x0, x1⟩) (fun _ => ⟨yr.1, y1⟩) (fun w => by omega) (fun w => by omega)
        have st := stepQ_ok hN s0 s1 hA
        have t' := hW.2 s x y s0 s1 hA
        have rw' := rdw _ t'.1 t'.2
        simp only [g46, obs, ck0, st, w6, rw'.1, rw'.2]
    have eW : wt N 11 94 (6 * t + y) (gW rk m (kC n rk m) W s b x j y) = some (up N 94 (6 * t + y) (gW rk m (kC n rk m) W s b x j y)) := wt_v l94 (by omega) (by omega)
    rw [g46, obs]
    rw [g46] at val
    rw [val, obs, w6t, w6ty, eW, obs, ew]
    refine ih (y + 1) _ ⟨⟨by omega, by omega⟩, by rw [up_2]; exact s2, fun a q => by rw [up_n q]; exact o2 a q, fun i q => by rw [up_1, if_neg (by omega)]; exact w2 i q, SB_up hBN (by unfold stp; omega), fun c c0 c1 => ?_⟩ (by omega)
    rw [up_1]
    by_cases qc : c = y
    · rw [if_pos ⟨rfl, by rw [qc]⟩, qc]
    · rw [if_neg (by omega)]; exact hy c c0 (by omega)
