/-! the nets that are set: told, within, grafted -/
abbrev TS (M : Mem) (t : Int) : Prop := M.2.1 t = (7, 8) ∧ M.2.1 (t + 1) = (10, 150) ∧ M.1 t 0 = 1 ∧ M.1 t 1 = t + 2 ∧ M.1 t 2 = t + 1
theorem cel_r5 {r s k1 k2 : Int} (hs : 0 ≤ s ∧ s < 6) (a1 : 1 ≤ r → 0 ≤ k1 ∧ k1 < 5) (a2 : 2 ≤ r → 0 ≤ k2 ∧ k2 < 5) : 0 ≤ cel r s k1 k2 5 ∧ cel r s k1 k2 5 < 150 := by
  unfold cel
  have c1 : 0 ≤ (if 0 < r then k1 else 0) ∧ (if 0 < r then k1 else 0) < 5 := by split <;> omega
  have c2 : 0 ≤ (if 1 < r then k2 else 0) ∧ (if 1 < r then k2 else 0) < 5 := by split <;> omega
  omega
theorem targetsOf_ok {M : Mem} {t s x y c : Int} (hB : SB M) (hg : SgOk M) (hT : TS M t) (c5 : c ≤ 5) (hs : 0 ≤ s ∧ s < 6) (hA : Arg (rkC M) c s x y) : D_Tongue_targetsOf t s x y M = some (M.1 (t + 1) (cel (rkC M s) s x y 5), M) := by
  have b6 := hA.b6 (by omega)
  have ce := cell_ok hB.s_ hg.2.1 (s := s) (x := x) (y := y) (w := 5) hs (by decide) (fun q => by omega) (fun q => by omega)
  have cr := cel_r5 (r := rkC M s) (s := s) (k1 := x) (k2 := y) hs (fun q => by have := hA.1 q; omega) (fun q => by have := hA.2.2.1 q; omega)
  unfold D_Tongue_targetsOf
  simp [-Option.bind_some, -Option.bind_none, gf, pf, rd, wt, ck, ln, lt, bz, nq, up_1, up_2, obs, obn, hT, hB.s_, ce, cr]
theorem NI.ts {A M : Mem} {st : Nat} {T : Int → Int → Int → Int → Prop} (h : NI A M st T) {t : Int} (ht : 100 ≤ t) (q : TS A t) : TS M t := by
  have e : M.1 t = A.1 t := h.2.1 t (by omega)
  unfold TS
  rw [h.1, e]
  exact q
/-- a told tongue's numbers are in order -/
def TOK (A : Mem) (t : Int) : Prop := 100 ≤ t ∧ TS A t ∧ (1 ≤ A.1 t 3 ∧ A.1 t 3 ≤ 5) ∧ (0 ≤ A.1 t 5 ∧ A.1 t 5 < 32) ∧ ∀ i, 0 ≤ i → i < 150 → 0 ≤ A.1 (t + 1) i ∧ A.1 (t + 1) i < 2 ^ (A.1 t 3).toNat
def SD (A : Mem) (t s : Int) : Int → Int → Int := fun x y => A.1 (t + 1) (cel (rkC A s) s x y 5)
theorem td49_lp {A M : Mem} {st : Nat} {T : Int → Int → Int → Int → Prop} {t s x : Int} (hB : SB A) (hg : SgOk A) (hT : TOK A t) (est : st = (A.1 t 3).toNat) (hs : 0 ≤ s ∧ s < 6) (hx : (1 ≤ rkC A s → 0 ≤ x ∧ x < A.1 t 3) ∧ (¬ 1 ≤ rkC A s → x = 0)) (P : Option Mem → Prop) (k : Mem → Option Mem) (h2 : ∀ M', NI A M' st (TT A T 0 s (A.1 t 3) (SD A t s) (x + 1) 0) → P (k M')) (hI : NI A M st (TT A T 0 s (A.1 t 3) (SD A t s) x 0)) : P (L_Net_setTold_49 k 8 t s x FU 0 M) := by
  obtain ⟨ht, hTS, k5, hf, hr⟩ := hT
  refine lq1 (fun n v M' => L_Net_setTold_49 k 8 t s x n v M') (fun y M' => 0 ≤ y ∧ y ≤ 6 ∧ NI A M' st (TT A T 0 s (A.1 t 3) (SD A t s) x y)) (fun y => (6 - y).toNat) P ?_ ⟨Int.le_refl 0, by decide, hI⟩ (by have := FU_eq; omega)
  clear hI M
  intro n y M ⟨y0, y6, hI⟩ ih
  show P (L_Net_setTold_49 k 8 t s x (n + 1) y M)
  have hBM := hI.sb hB
  have hgM := hI.sg hg
  have hTM := hI.ts ht hTS
  have e3 : M.1 t 3 = A.1 t 3 := by rw [hI.2.1 t (by omega)]
  have cho := choices_ok hBM.s_ hgM.2.1 s 1 (A.1 t 3)
  rw [hI.rk] at cho
  rw [L_Net_setTold_49]
  by_cases hy : (if 1 < rkC A s then A.1 t 3 else 1) ≤ y
  · simp [-Option.bind_some, -Option.bind_none, gf, pf, rd, wt, ck, ln, lt, bz, nq, up_1, up_2, obs, obn, hBM.n_, hBM.s_, hTM, e3, cho, hy]
    refine h2 M (TT.ny hI ⟨fun q => ?_, fun q => ?_⟩)
    · rw [if_pos (by omega)] at hy; exact hy
    · rw [if_neg (by omega)] at hy; exact hy
  · have hA : Arg (rkC A) (A.1 t 3) s x y := by
      refine ⟨hx.1, hx.2, fun q => ?_, fun q => ?_⟩
      · rw [if_pos (by omega)] at hy; omega
      · rw [if_neg (by omega)] at hy; omega
    have b6 := hA.b6 (by omega)
    have so := targetsOf_ok (t := t) hBM hgM hTM k5.2 (s := s) (x := x) (y := y) hs (by rw [hI.rk]; exact hA)
    rw [hI.rk, hI.2.1 (t + 1) (by omega)] at so
    have e1 : wr (y + 1) = y + 1 := wr_eq (by omega) (by omega)
    have cr := cel_r5 (r := rkC A s) (s := s) (k1 := x) (k2 := y) hs (fun q => by have := hA.1 q; omega) (fun q => by have := hA.2.2.1 q; omega)
    have zr := hr _ cr.1 cr.2
    obtain ⟨M2, el, hI2⟩ := TT.lead hB hg hI (by omega) hs hA (Int.le_refl 0) (by omega) zr.1 (by rw [est]; exact zr.2)
    have el' : D_Net_lead 8 s x y (A.1 (t + 1) (cel (rkC A s) s x y 5)) M = some M2 := by
      have := el
      rw [Int.zero_add, Int.zero_add] at this
      exact this
    simp [-Option.bind_some, -Option.bind_none, gf, pf, rd, wt, ck, ln, lt, bz, nq, up_1, up_2, obs, obn, hBM.n_, hBM.s_, hTM, e3, cho, hy, so, el', e1]
    exact ih (y + 1) M2 ⟨by omega, by omega, hI2⟩ (by omega)
theorem setTold_ok {N : Mem} {t : Int} (hB : SB N) (hg : SgOk N) (hT : TOK N t) : OkM (D_Net_setTold 8 t N) (fun M => NS N M (N.1 t 3) (N.1 t 5) 0 10 (fun s a b q => (0 ≤ s ∧ s < N.1 1 1) ∧ ∃ x0 y0, Arg (rkC N) (N.1 t 3) s x0 y0 ∧ (1 ≤ rkC N s → a = x0) ∧ (2 ≤ rkC N s → b = y0) ∧ bt (SD N t s x0 y0) q)) := by
  have hT0 := hT
  obtain ⟨ht, hTS, k5, hf, hr⟩ := hT
  obtain ⟨A, eA, hN, h8, hz⟩ := nbegin_ok (st := N.1 t 3) (fin := N.1 t 5) (way := 10) hB
  have hgA := hN.sg hg
  have en : A.1 1 1 = N.1 1 1 := by rw [hN.2.1 1 (by decide) (by decide)]
  have n0 := hg.1
  have n6 := hg.2.1
  have at' : A.1 t = N.1 t := hN.2.1 t (by omega) (by omega)
  have at1 : A.1 (t + 1) = N.1 (t + 1) := hN.2.1 (t + 1) (by omega) (by omega)
  have hTA : TOK A t := by
    unfold TOK TS
    rw [hN.1, at', at1]
    exact hT0
  have eSD : SD A t = SD N t := by
    funext s x y
    unfold SD
    rw [hN.rk, at1]
  unfold D_Net_setTold
  simp [-Option.bind_some, -Option.bind_none, gf, pf, rd, wt, ck, ln, lt, bz, nq, up_1, up_2, obs, obn, hTS, hB.n_, eA]
  refine lq1 (fun n v M' => L_Net_setTold_16 (fun m16 => some m16) 8 t n v M') (fun s M' => 0 ≤ s ∧ s ≤ N.1 1 1 ∧ NI A M' (N.1 t 3).toNat (fun s' a b q => (0 ≤ s' ∧ s' < s) ∧ ∃ x0 y0, Arg (rkC A) (A.1 t 3) s' x0 y0 ∧ (1 ≤ rkC A s' → a = 0 + x0) ∧ (2 ≤ rkC A s' → b = 0 + y0) ∧ bt (SD A t s' x0 y0) q)) (fun s => (N.1 1 1 - s).toNat) (fun o => OkM o _) ?_ ⟨Int.le_refl 0, n0, (NI.z hz).c (fun s a b q => ⟨fun z => z.elim, fun z => by omega⟩)⟩ (by have := FU_eq; omega)
  intro n s M ⟨s0, s1, hI⟩ ih
  show OkM (L_Net_setTold_16 _ 8 t (n + 1) s M) _
  have hBM := hI.sb hN.2.2
  have eM : M.1 1 1 = N.1 1 1 := by rw [hI.2.1 1 (by decide)]; exact en
  rw [L_Net_setTold_16]
  by_cases hs : N.1 1 1 ≤ s
  · have : s = N.1 1 1 := by omega
    subst this
    simp [-Option.bind_some, -Option.bind_none, gf, pf, rd, wt, ck, ln, lt, bz, nq, up_1, up_2, obs, obn, hBM.n_, hBM.s_, eM]
    rw [eSD, hN.rk, at'] at hI
    refine OkM.i (NI.ns hN (hI.c (fun s a b q => ?_)) h8)
    simp only [Int.zero_add]
  · have e1 : wr (s + 1) = s + 1 := wr_eq (by omega) (by omega)
    simp [-Option.bind_some, -Option.bind_none, gf, pf, rd, wt, ck, ln, lt, bz, nq, up_1, up_2, obs, obn, hBM.n_, hBM.s_, eM, hs, e1]
    have hI0 := TT.start (base := 0) (s0 := s) (many := A.1 t 3) (S := SD A t s) hI
    refine lq1 (fun n' v M' => L_Net_setTold_29 (fun m29 => L_Net_setTold_16 (fun m16 => some m16) 8 t n (s + 1) m29) 8 t s n' v M') (fun x M' => 0 ≤ x ∧ x ≤ 6 ∧ NI A M' (N.1 t 3).toNat (TT A (fun s' a b q => (0 ≤ s' ∧ s' < s) ∧ ∃ x0 y0, Arg (rkC A) (A.1 t 3) s' x0 y0 ∧ (1 ≤ rkC A s' → a = 0 + x0) ∧ (2 ≤ rkC A s' → b = 0 + y0) ∧ bt (SD A t s' x0 y0) q) 0 s (A.1 t 3) (SD A t s) x 0)) (fun x => (6 - x).toNat) (fun o => OkM o _) ?_ ⟨Int.le_refl 0, by decide, hI0⟩ (by have := FU_eq; omega)
    intro n' x M3 ⟨x0, x6, hI3⟩ ih3
    show OkM (L_Net_setTold_29 _ 8 t s (n' + 1) x M3) _
    have hBM3 := hI3.sb hN.2.2
    have hgM3 := hI3.sg hgA
    have hTM3 := hI3.ts ht hTA.2.1
    have e3 : M3.1 t 3 = A.1 t 3 := by rw [hI3.2.1 t (by omega)]
    have cho := choices_ok hBM3.s_ hgM3.2.1 s 0 (A.1 t 3)
    rw [hI3.rk] at cho
    rw [L_Net_setTold_29]
    by_cases hx : (if 0 < rkC A s then A.1 t 3 else 1) ≤ x
    · simp [-Option.bind_some, -Option.bind_none, gf, pf, rd, wt, ck, ln, lt, bz, nq, up_1, up_2, obs, obn, hBM3.n_, hBM3.s_, hTM3, e3, cho, hx]
      have hE := TT.nx hI3 ⟨fun q => by rw [if_pos (by omega)] at hx; exact hx, fun q => by rw [if_neg (by omega)] at hx; exact hx⟩
      refine ih (s + 1) M3 ⟨by omega, by omega, hE.c (fun s' a b q => ⟨fun z => ?_, fun z => ?_⟩)⟩ (by omega)
      · rcases z with z | ⟨e, z⟩
        · exact ⟨by omega, z.2⟩
        · subst e; exact ⟨by omega, z⟩
      · by_cases e : s' = s
        · subst e; exact Or.inr ⟨rfl, z.2⟩
        · exact Or.inl ⟨by omega, z.2⟩
    · have xr : (1 ≤ rkC A s → 0 ≤ x ∧ x < A.1 t 3) ∧ (¬ 1 ≤ rkC A s → x = 0) := by
        constructor
        · intro q; rw [if_pos (by omega)] at hx; omega
        · intro q; rw [if_neg (by omega)] at hx; omega
      have x5 : x < 6 := by
        by_cases q : 1 ≤ rkC A s
        · have := xr.1 q; rw [at'] at this; omega
        · have := xr.2 q; omega
      have e1' : wr (x + 1) = x + 1 := wr_eq (by omega) (by omega)
      simp [-Option.bind_some, -Option.bind_none, gf, pf, rd, wt, ck, ln, lt, bz, nq, up_1, up_2, obs, obn, hBM3.n_, hBM3.s_, hTM3, e3, cho, hx, e1']
      exact td49_lp hN.2.2 hgA hTA (by rw [at']) ⟨s0, by omega⟩ xr (fun o => OkM o _) _ (fun M' h => ih3 (x + 1) M' ⟨by omega, by omega, h⟩ (by omega)) hI3
/-! within -/
def fnl (M : Mem) (p c : Int) : Prop := iand (ishr (M.1 p 11) c) 1 = 1
theorem finalBit_ok {M : Mem} {p c : Int} (hM : MS M p) : D_Machine_finalBit p c M = some (iand (ishr (M.1 p 11) c) 1, M) := by
  unfold D_Machine_finalBit
  simp [-Option.bind_some, -Option.bind_none, gf, pf, rd, wt, ck, ln, lt, bz, nq, up_1, up_2, obs, obn, hM]
noncomputable def wto (A : Mem) (p s x y : Int) : Int := @ite Int (1 ≤ rkC A s ∧ fnl A p x) (Classical.propDecidable _) x (@ite Int (2 ≤ rkC A s ∧ fnl A p y) (Classical.propDecidable _) y (mT (mch A p) s x y))
noncomputable def SW2 (A : Mem) (p s : Int) : Int → Int → Int := fun x y => ishl 1 (wto A p s x y)
theorem wto_r {A : Mem} {p s x y : Int} (hM : MOK A p) (hs : 0 ≤ s ∧ s < A.1 1 1) (hA : Arg (rkC A) (A.1 p 10) s x y) : 0 ≤ wto A p s x y ∧ wto A p s x y < A.1 p 10 := by
  unfold wto
  by_cases q : 1 ≤ rkC A s ∧ fnl A p x
  · rw [if_pos q]; exact hA.1 q.1
  · rw [if_neg q]
    by_cases q2 : 2 ≤ rkC A s ∧ fnl A p y
    · rw [if_pos q2]; exact hA.2.2.1 q2.1
    · rw [if_neg q2]; exact hM.2.2.1.2 s x y hs.1 hs.2 hA
theorem wt63_lp {A M : Mem} {st : Nat} {T : Int → Int → Int → Int → Prop} {p s x : Int} (hB : SB A) (hg : SgOk A) (hM : MOK A p) (est : st = (A.1 p 10).toNat) (hs : 0 ≤ s ∧ s < A.1 1 1) (hx : (1 ≤ rkC A s → 0 ≤ x ∧ x < A.1 p 10) ∧ (¬ 1 ≤ rkC A s → x = 0)) (P : Option Mem → Prop) (k : Mem → Option Mem) (h2 : ∀ M', NI A M' st (TT A T 0 s (A.1 p 10) (SW2 A p s) (x + 1) 0) → P (k M')) (hI : NI A M st (TT A T 0 s (A.1 p 10) (SW2 A p s) x 0)) : P (L_Net_setWithin_63 k 8 p (A.1 p 10) s (rkC A s) x FU 0 M) := by
  have hM0 := hM
  obtain ⟨hMS, hp, hW, hf⟩ := hM
  have k6 : 0 ≤ A.1 p 10 ∧ A.1 p 10 ≤ 6 := hW.1
  have n6 := hg.2.1
  have rg := hg.rk s
  refine lq1 (fun n v M' => L_Net_setWithin_63 k 8 p (A.1 p 10) s (rkC A s) x n v M') (fun y M' => 0 ≤ y ∧ y ≤ 6 ∧ NI A M' st (TT A T 0 s (A.1 p 10) (SW2 A p s) x y)) (fun y => (6 - y).toNat) P ?_ ⟨Int.le_refl 0, by decide, hI⟩ (by have := FU_eq; omega)
  clear hI M
  intro n y M ⟨y0, y6, hI⟩ ih
  show P (L_Net_setWithin_63 k 8 p (A.1 p 10) s (rkC A s) x (n + 1) y M)
  have hBM := hI.sb hB
  have hgM := hI.sg hg
  have hMM := hI.ms hp hMS
  have cho := choices_ok hBM.s_ hgM.2.1 s 1 (A.1 p 10)
  rw [hI.rk] at cho
  rw [L_Net_setWithin_63]
  by_cases hy : (if 1 < rkC A s then A.1 p 10 else 1) ≤ y
  · simp [-Option.bind_some, -Option.bind_none, gf, pf, rd, wt, ck, ln, lt, bz, nq, up_1, up_2, obs, obn, hBM.n_, hBM.s_, cho, hy]
    refine h2 M (TT.ny hI ⟨fun q => ?_, fun q => ?_⟩)
    · rw [if_pos (by omega)] at hy; exact hy
    · rw [if_neg (by omega)] at hy; exact hy
  · have hA : Arg (rkC A) (A.1 p 10) s x y := by
      refine ⟨hx.1, hx.2, fun q => ?_, fun q => ?_⟩
      · rw [if_pos (by omega)] at hy; omega
      · rw [if_neg (by omega)] at hy; omega
    have b6 := hA.b6 k6.2
    have so := step_ok (p := p) hBM hgM hMM k6.2 (s := s) (x := x) (y := y) ⟨hs.1, by omega⟩ (by rw [hI.rk]; exact hA)
    rw [hI.mch hp] at so
    have p11 : M.1 p 11 = A.1 p 11 := by rw [hI.2.1 p (by clear hMM hMS; omega)]
    have fx := finalBit_ok (c := x) hMM
    have fy := finalBit_ok (c := y) hMM
    rw [p11] at fx fy
    have e1 : wr (y + 1) = y + 1 := wr_eq (by omega) (by omega)
    have wr' := wto_r hM0 hs hA
    have zr := ishl1_r (j := st) (k := wto A p s x y) wr'.1 (by omega) (by omega)
    obtain ⟨M2, el, hI2⟩ := TT.lead hB hg hI (by omega) ⟨hs.1, by omega⟩ hA (Int.le_refl 0) (by omega) zr.1 zr.2
    have el' : D_Net_lead 8 s x y (ishl 1 (wto A p s x y)) M = some M2 := by
      have := el
      rw [Int.zero_add, Int.zero_add] at this
      exact this
    have fin : P (L_Net_setWithin_63 k 8 p (A.1 p 10) s (rkC A s) x n (y + 1) M2) := ih (y + 1) M2 ⟨by omega, by omega, hI2⟩ (by omega)
    by_cases r0 : rkC A s ≤ 0
    · have r1 : rkC A s ≤ 1 := by omega
      have ew : wto A p s x y = mT (mch A p) s x y := by
        unfold wto
        rw [if_neg (fun q => by omega), if_neg (fun q => by omega)]
      rw [ew] at el'
      simp [-Option.bind_some, -Option.bind_none, gf, pf, rd, wt, ck, ln, lt, bz, nq, up_1, up_2, obs, obn, hBM.n_, hBM.s_, cho, hy, hMM, so, r0, r1, el', e1]
      exact fin
    · by_cases q1 : iand (ishr (A.1 p 11) x) 1 = 1
      · have ew : wto A p s x y = x := by
          unfold wto
          rw [if_pos ⟨by omega, q1⟩]
        rw [ew] at el'
        simp [-Option.bind_some, -Option.bind_none, gf, pf, rd, wt, ck, ln, lt, bz, nq, up_1, up_2, obs, obn, hBM.n_, hBM.s_, cho, hy, hMM, so, r0, fx, q1, el', e1]
        exact fin
      · by_cases r1 : rkC A s ≤ 1
        · have ew : wto A p s x y = mT (mch A p) s x y := by
            unfold wto
            rw [if_neg (fun q => q1 q.2), if_neg (fun q => by omega)]
          rw [ew] at el'
          simp [-Option.bind_some, -Option.bind_none, gf, pf, rd, wt, ck, ln, lt, bz, nq, up_1, up_2, obs, obn, hBM.n_, hBM.s_, cho, hy, hMM, so, r0, r1, fx, q1, el', e1]
          exact fin
        · by_cases q2 : iand (ishr (A.1 p 11) y) 1 = 1
          · have ew : wto A p s x y = y := by
              unfold wto
              rw [if_neg (fun q => q1 q.2), if_pos ⟨by omega, q2⟩]
            rw [ew] at el'
            simp [-Option.bind_some, -Option.bind_none, gf, pf, rd, wt, ck, ln, lt, bz, nq, up_1, up_2, obs, obn, hBM.n_, hBM.s_, cho, hy, hMM, so, r0, r1, fx, fy, q1, q2, el', e1]
            exact fin
          · have ew : wto A p s x y = mT (mch A p) s x y := by
              unfold wto
              rw [if_neg (fun q => q1 q.2), if_neg (fun q => q2 q.2)]
            rw [ew] at el'
            simp [-Option.bind_some, -Option.bind_none, gf, pf, rd, wt, ck, ln, lt, bz, nq, up_1, up_2, obs, obn, hBM.n_, hBM.s_, cho, hy, hMM, so, r0, r1, fx, fy, q1, q2, el', e1]
            exact fin
theorem wto_nf {N A : Mem} (h : Nf N A) {p : Int} (hp : p = 50 ∨ 100 ≤ p) : wto A p = wto N p := by
  funext s x y
  unfold wto fnl
  rw [h.rk, h.mch hp, h.2.1 p (by omega) (by omega)]
theorem setWithin_ok {N : Mem} {p : Int} (hB : SB N) (hg : SgOk N) (hM : MOK N p) : OkM (D_Net_setWithin 8 p N) (fun M => NS N M (N.1 p 10) (N.1 p 11) 0 10 (fun s a b q => (0 ≤ s ∧ s < N.1 1 1) ∧ ∃ x0 y0, Arg (rkC N) (N.1 p 10) s x0 y0 ∧ (1 ≤ rkC N s → a = x0) ∧ (2 ≤ rkC N s → b = y0) ∧ q = wto N p s x0 y0)) := by
  have k6 : 0 ≤ N.1 p 10 ∧ N.1 p 10 ≤ 6 := hM.2.2.1.1
  have hp := hM.2.1
  obtain ⟨A, eA, hN, h8, hz⟩ := nbegin_ok (st := N.1 p 10) (fin := N.1 p 11) (way := 10) hB
  have hMA := hN.mok hM
  have hgA := hN.sg hg
  have en : A.1 1 1 = N.1 1 1 := by rw [hN.2.1 1 (by decide) (by decide)]
  have n0 := hg.1
  have n6 := hg.2.1
  have ap' : A.1 p = N.1 p := hN.2.1 p (by omega) (by omega)
  have ap : A.1 p 10 = N.1 p 10 := by rw [ap']
  unfold D_Net_setWithin
  simp [-Option.bind_some, -Option.bind_none, gf, pf, rd, wt, ck, ln, lt, bz, nq, up_1, up_2, obs, obn, hM.1, hB.n_, eA, hMA.1, ap]
  rw [← ap]
  refine lq1 (fun n v M' => L_Net_setWithin_21 (fun m21 => some m21) 8 p (A.1 p 10) n v M') (fun s M' => 0 ≤ s ∧ s ≤ N.1 1 1 ∧ NI A M' (A.1 p 10).toNat (fun s' a b q => (0 ≤ s' ∧ s' < s) ∧ ∃ x0 y0, Arg (rkC A) (A.1 p 10) s' x0 y0 ∧ (1 ≤ rkC A s' → a = 0 + x0) ∧ (2 ≤ rkC A s' → b = 0 + y0) ∧ bt (SW2 A p s' x0 y0) q)) (fun s => (N.1 1 1 - s).toNat) (fun o => OkM o _) ?_ ⟨Int.le_refl 0, n0, (NI.z hz).c (fun s a b q => ⟨fun z => z.elim, fun z => by omega⟩)⟩ (by have := FU_eq; omega)
  intro n s M ⟨s0, s1, hI⟩ ih
  show OkM (L_Net_setWithin_21 _ 8 p (A.1 p 10) (n + 1) s M) _
  have hBM := hI.sb hN.2.2
  have hgM0 := hI.sg hgA
  have eM : M.1 1 1 = N.1 1 1 := by rw [hI.2.1 1 (by decide)]; exact en
  have rko := rankOf_ok hBM.s_ hgM0.2.1 s
  rw [hI.rk] at rko
  rw [L_Net_setWithin_21]
  by_cases hs : N.1 1 1 ≤ s
  · have : s = N.1 1 1 := by omega
    subst this
    simp [-Option.bind_some, -Option.bind_none, gf, pf, rd, wt, ck, ln, lt, bz, nq, up_1, up_2, obs, obn, hBM.n_, hBM.s_, eM]
    have hI' := hI.cq (T' := fun s a b q => (0 ≤ s ∧ s < N.1 1 1) ∧ ∃ x0 y0, Arg (rkC N) (N.1 p 10) s x0 y0 ∧ (1 ≤ rkC N s → a = x0) ∧ (2 ≤ rkC N s → b = y0) ∧ q = wto N p s x0 y0) (fun s a b q s0' s6 q0 => by
      rw [hN.rk, ap]
      simp only [Int.zero_add]
      have key : ∀ x0 y0, 0 ≤ s → s < N.1 1 1 → Arg (rkC N) (N.1 p 10) s x0 y0 → (bt (SW2 A p s x0 y0) q ↔ q = wto N p s x0 y0) := by
        intro x0 y0 z0 z1 hA
        unfold SW2
        rw [wto_nf hN hp]
        have wr' := wto_r hM ⟨z0, z1⟩ hA
        exact bt_shl wr'.1 (by omega) q0
      constructor
      · intro ⟨z, x0, y0, hA, w1, w2, w3⟩
        exact ⟨z, x0, y0, hA, w1, w2, (key x0 y0 z.1 z.2 hA).mp w3⟩
      · intro ⟨z, x0, y0, hA, w1, w2, w3⟩
        exact ⟨z, x0, y0, hA, w1, w2, (key x0 y0 z.1 z.2 hA).mpr w3⟩)
    rw [ap] at hI'
    have w := NI.ns hN hI' h8
    rw [← ap] at w
    exact OkM.i w
  · have e1 : wr (s + 1) = s + 1 := wr_eq (by omega) (by omega)
    simp [-Option.bind_some, -Option.bind_none, gf, pf, rd, wt, ck, ln, lt, bz, nq, up_1, up_2, obs, obn, hBM.n_, hBM.s_, eM, hs, rko, e1]
    have hI0 := TT.start (base := 0) (s0 := s) (many := A.1 p 10) (S := SW2 A p s) hI
    refine lq1 (fun n' v M' => L_Net_setWithin_45 (fun m45 => L_Net_setWithin_21 (fun m21 => some m21) 8 p (A.1 p 10) n (s + 1) m45) 8 p (A.1 p 10) s (rkC A s) n' v M') (fun x M' => 0 ≤ x ∧ x ≤ 6 ∧ NI A M' (A.1 p 10).toNat (TT A (fun s' a b q => (0 ≤ s' ∧ s' < s) ∧ ∃ x0 y0, Arg (rkC A) (A.1 p 10) s' x0 y0 ∧ (1 ≤ rkC A s' → a = 0 + x0) ∧ (2 ≤ rkC A s' → b = 0 + y0) ∧ bt (SW2 A p s' x0 y0) q) 0 s (A.1 p 10) (SW2 A p s) x 0)) (fun x => (6 - x).toNat) (fun o => OkM o _) ?_ ⟨Int.le_refl 0, by decide, hI0⟩ (by have := FU_eq; omega)
    intro n' x M3 ⟨x0, x6, hI3⟩ ih3
    show OkM (L_Net_setWithin_45 _ 8 p (A.1 p 10) s (rkC A s) (n' + 1) x M3) _
    have hBM3 := hI3.sb hN.2.2
    have hgM3 := hI3.sg hgA
    have cho := choices_ok hBM3.s_ hgM3.2.1 s 0 (A.1 p 10)
    rw [hI3.rk] at cho
    rw [L_Net_setWithin_45]
    by_cases hx : (if 0 < rkC A s then A.1 p 10 else 1) ≤ x
    · simp [-Option.bind_some, -Option.bind_none, gf, pf, rd, wt, ck, ln, lt, bz, nq, up_1, up_2, obs, obn, hBM3.n_, hBM3.s_, cho, hx]
      have hE := TT.nx hI3 ⟨fun q => by rw [if_pos (by omega)] at hx; exact hx, fun q => by rw [if_neg (by omega)] at hx; exact hx⟩
      refine ih (s + 1) M3 ⟨by omega, by omega, hE.c (fun s' a b q => ⟨fun z => ?_, fun z => ?_⟩)⟩ (by omega)
      · rcases z with z | ⟨e, z⟩
        · exact ⟨by omega, z.2⟩
        · subst e; exact ⟨by omega, z⟩
      · by_cases e : s' = s
        · subst e; exact Or.inr ⟨rfl, z.2⟩
        · exact Or.inl ⟨by omega, z.2⟩
    · have xr : (1 ≤ rkC A s → 0 ≤ x ∧ x < A.1 p 10) ∧ (¬ 1 ≤ rkC A s → x = 0) := by
        constructor
        · intro q; rw [if_pos (by omega)] at hx; omega
        · intro q; rw [if_neg (by omega)] at hx; omega
      have x5 : x < 6 := by
        by_cases q : 1 ≤ rkC A s
        · have := xr.1 q; omega
        · have := xr.2 q; omega
      have e1' : wr (x + 1) = x + 1 := wr_eq (by omega) (by omega)
      simp [-Option.bind_some, -Option.bind_none, gf, pf, rd, wt, ck, ln, lt, bz, nq, up_1, up_2, obs, obn, hBM3.n_, hBM3.s_, cho, hx, e1']
      exact wt63_lp hN.2.2 hgA hMA rfl ⟨s0, by omega⟩ xr (fun o => OkM o _) _ (fun M' h => ih3 (x + 1) M' ⟨by omega, by omega, h⟩ (by omega)) hI3
/-! grafted -/
noncomputable def SG2 (A : Mem) (p' s lf : Int) : Int → Int → Int := fun x y => @ite Int (fnl A p' (mT (mch A p') s x y)) (Classical.propDecidable _) lf 0
theorem gr99_lp {A M : Mem} {st : Nat} {T : Int → Int → Int → Int → Prop} {p p' leaf lf s x : Int} (hB : SB A) (hg : SgOk A) (hM : MOK A p') (est : st = (6 + A.1 p' 10).toNat) (l0 : 0 ≤ lf) (l1 : lf < 64) (hs : 0 ≤ s ∧ s < A.1 1 1) (hx : (1 ≤ rkC A s → 0 ≤ x ∧ x < A.1 p' 10) ∧ (¬ 1 ≤ rkC A s → x = 0)) (P : Option Mem → Prop) (k : Mem → Option Mem) (h2 : ∀ M', NI A M' st (TT A T 6 s (A.1 p' 10) (SG2 A p' s lf) (x + 1) 0) → P (k M')) (hI : NI A M st (TT A T 6 s (A.1 p' 10) (SG2 A p' s lf) x 0)) : P (L_Net_setGrafted_99 k 8 p leaf p' lf (A.1 p' 10) s x FU 0 M) := by
  have hM0 := hM
  obtain ⟨hMS, hp, hW, hf⟩ := hM
  have k6 : 0 ≤ A.1 p' 10 ∧ A.1 p' 10 ≤ 6 := hW.1
  have n6 := hg.2.1
  have p64 : (64 : Int) ≤ 2 ^ st := by
    rw [← p2i]
    have : 2 ^ 6 ≤ 2 ^ st := Nat.pow_le_pow_right (by decide) (by omega)
    omega
  refine lq1 (fun n v M' => L_Net_setGrafted_99 k 8 p leaf p' lf (A.1 p' 10) s x n v M') (fun y M' => 0 ≤ y ∧ y ≤ 6 ∧ NI A M' st (TT A T 6 s (A.1 p' 10) (SG2 A p' s lf) x y)) (fun y => (6 - y).toNat) P ?_ ⟨Int.le_refl 0, by decide, hI⟩ (by have := FU_eq; omega)
  clear hI M
  intro n y M ⟨y0, y6, hI⟩ ih
  show P (L_Net_setGrafted_99 k 8 p leaf p' lf (A.1 p' 10) s x (n + 1) y M)
  have hBM := hI.sb hB
  have hgM := hI.sg hg
  have hMM := hI.ms hp hMS
  have cho := choices_ok hBM.s_ hgM.2.1 s 1 (A.1 p' 10)
  rw [hI.rk] at cho
  rw [L_Net_setGrafted_99]
  by_cases hy : (if 1 < rkC A s then A.1 p' 10 else 1) ≤ y
  · simp [-Option.bind_some, -Option.bind_none, gf, pf, rd, wt, ck, ln, lt, bz, nq, up_1, up_2, obs, obn, hBM.n_, hBM.s_, cho, hy]
    refine h2 M (TT.ny hI ⟨fun q => ?_, fun q => ?_⟩)
    · rw [if_pos (by omega)] at hy; exact hy
    · rw [if_neg (by omega)] at hy; exact hy
  · have hA : Arg (rkC A) (A.1 p' 10) s x y := by
      refine ⟨hx.1, hx.2, fun q => ?_, fun q => ?_⟩
      · rw [if_pos (by omega)] at hy; omega
      · rw [if_neg (by omega)] at hy; omega
    have b6 := hA.b6 k6.2
    have so := step_ok (p := p') hBM hgM hMM k6.2 (s := s) (x := x) (y := y) ⟨hs.1, by omega⟩ (by rw [hI.rk]; exact hA)
    rw [hI.mch hp] at so
    have p11 : M.1 p' 11 = A.1 p' 11 := by rw [hI.2.1 p' (by clear hMM hMS; omega)]
    have fx := finalBit_ok (c := mT (mch A p') s x y) hMM
    rw [p11] at fx
    have e1 : wr (y + 1) = y + 1 := wr_eq (by omega) (by omega)
    have ex : wr (6 + x) = 6 + x := wr_eq (by omega) (by omega)
    have ey : wr (6 + y) = 6 + y := wr_eq (by omega) (by omega)
    have zr : 0 ≤ SG2 A p' s lf x y ∧ SG2 A p' s lf x y < 2 ^ st := by
      unfold SG2
      by_cases q : fnl A p' (mT (mch A p') s x y)
      · rw [if_pos q]; omega
      · rw [if_neg q]; omega
    obtain ⟨M2, el, hI2⟩ := TT.lead hB hg hI (by omega) ⟨hs.1, by omega⟩ hA (by decide) (by omega) zr.1 zr.2
    have fin : P (L_Net_setGrafted_99 k 8 p leaf p' lf (A.1 p' 10) s x n (y + 1) M2) := ih (y + 1) M2 ⟨by omega, by omega, hI2⟩ (by omega)
    by_cases q : iand (ishr (A.1 p' 11) (mT (mch A p') s x y)) 1 = 1
    · have ew : SG2 A p' s lf x y = lf := by
        unfold SG2
        exact if_pos q
      rw [ew] at el
      simp [-Option.bind_some, -Option.bind_none, gf, pf, rd, wt, ck, ln, lt, bz, nq, up_1, up_2, obs, obn, hBM.n_, hBM.s_, cho, hy, hMM, so, fx, q, ex, ey, el, e1]
      exact fin
    · have ew : SG2 A p' s lf x y = 0 := by
        unfold SG2
        exact if_neg q
      rw [ew] at el
      simp [-Option.bind_some, -Option.bind_none, gf, pf, rd, wt, ck, ln, lt, bz, nq, up_1, up_2, obs, obn, hBM.n_, hBM.s_, cho, hy, hMM, so, fx, q, ex, ey, el, e1]
      exact fin
/-- a tree of the graft may be taken as the leaf -/
def WG (A : Mem) (p p' leaf s a b q : Int) : Prop := ∃ x0 y0, Arg (rkC A) (A.1 p' 10) s x0 y0 ∧ (1 ≤ rkC A s → a = 6 + x0) ∧ (2 ≤ rkC A s → b = 6 + y0) ∧ fnl A p' (mT (mch A p') s x0 y0) ∧ q = mT (mch A p) leaf 0 0
theorem WG.nf {N A : Mem} (h : Nf N A) {p p' : Int} (hp : p = 50 ∨ 100 ≤ p) (hp' : p' = 50 ∨ 100 ≤ p') : WG A p p' = WG N p p' := by
  funext leaf s a b q
  unfold WG fnl
  rw [h.rk, h.mch hp, h.mch hp', h.2.1 p' (by omega) (by omega)]
theorem setGrafted_ok {N : Mem} {p leaf p' : Int} (hB : SB N) (hg : SgOk N) (hM : MOK N p) (hM' : MOK N p') (hl : 0 ≤ leaf ∧ leaf < N.1 1 1) (rl : rkC N leaf = 0) : OkM (D_Net_setGrafted 8 p leaf p' N) (fun M => NS N M (6 + N.1 p' 10) (N.1 p 11) 0 10 (fun s a b q => (0 ≤ s ∧ s < N.1 1 1) ∧ (WE N p' 6 s s a b q ∨ (s ≠ leaf ∧ WE N p 0 s s a b q) ∨ WG N p p' leaf s a b q))) := by
  have k6 : 0 ≤ N.1 p 10 ∧ N.1 p 10 ≤ 6 := hM.2.2.1.1
  have k6' : 0 ≤ N.1 p' 10 ∧ N.1 p' 10 ≤ 6 := hM'.2.2.1.1
  have hp := hM.2.1
  have hp' := hM'.2.1
  obtain ⟨A, eA, hN, h8, hz⟩ := nbegin_ok (st := 6 + N.1 p' 10) (fin := N.1 p 11) (way := 10) hB
  have ew : wr (6 + N.1 p' 10) = 6 + N.1 p' 10 := wr_eq (by omega) (by omega)
  have hMA := hN.mok hM
  have hMA' := hN.mok hM'
  have hgA := hN.sg hg
  have en : A.1 1 1 = N.1 1 1 := by rw [hN.2.1 1 (by decide) (by decide)]
  have n0 := hg.1
  have n6 := hg.2.1
  have ap : A.1 p 10 = N.1 p 10 := by rw [hN.2.1 p (by omega) (by omega)]
  have ap' : A.1 p' 10 = N.1 p' 10 := by rw [hN.2.1 p' (by omega) (by omega)]
  have lA : Arg (rkC A) (A.1 p 10) leaf 0 0 := ⟨fun q => by rw [hN.rk] at q; omega, fun _ => rfl, fun q => by rw [hN.rk] at q; omega, fun _ => rfl⟩
  have so0 := step_ok (p := p) hN.2.2 hgA hMA.1 (c := A.1 p 10) (by omega) (s := leaf) ⟨hl.1, by omega⟩ lA
  have lr := hMA.2.2.1.2 leaf 0 0 hl.1 (by omega) lA
  have lr' : 0 ≤ mT (mch A p) leaf 0 0 ∧ mT (mch A p) leaf 0 0 < 6 := by
    have : mN (mch A p) = A.1 p 10 := rfl
    omega
  have lfr := ishl1_r (j := 6) (k := mT (mch A p) leaf 0 0) lr'.1 (by omega) (by decide)
  unfold D_Net_setGrafted
  simp [-Option.bind_some, -Option.bind_none, gf, pf, rd, wt, ck, ln, lt, bz, nq, up_1, up_2, obs, obn, hM.1, hM'.1, hB.n_, ew, eA, hMA.1, hMA'.1, so0, ap']
  rw [← ap']
  refine lq1 (fun n v M' => L_Net_setGrafted_37 (fun m37 => some m37) 8 p leaf p' (ishl 1 (mT (mch A p) leaf 0 0)) (A.1 p' 10) n v M') (fun s M' => 0 ≤ s ∧ s ≤ N.1 1 1 ∧ NI A M' (6 + A.1 p' 10).toNat (fun s' a b q => (0 ≤ s' ∧ s' < s) ∧ (WE A p' 6 s' s' a b q ∨ (s' ≠ leaf ∧ WE A p 0 s' s' a b q) ∨ WG A p p' leaf s' a b q))) (fun s => (N.1 1 1 - s).toNat) (fun o => OkM o _) ?_ ⟨Int.le_refl 0, n0, (NI.z hz).c (fun s a b q => ⟨fun z => z.elim, fun z => by omega⟩)⟩ (by have := FU_eq; omega)
  intro n s M ⟨s0, s1, hI⟩ ih
  show OkM (L_Net_setGrafted_37 _ 8 p leaf p' (ishl 1 (mT (mch A p) leaf 0 0)) (A.1 p' 10) (n + 1) s M) _
  have hBM := hI.sb hN.2.2
  have eM : M.1 1 1 = N.1 1 1 := by rw [hI.2.1 1 (by decide)]; exact en
  rw [L_Net_setGrafted_37]
  by_cases hs : N.1 1 1 ≤ s
  · have : s = N.1 1 1 := by omega
    subst this
    simp [-Option.bind_some, -Option.bind_none, gf, pf, rd, wt, ck, ln, lt, bz, nq, up_1, up_2, obs, obn, hBM.n_, hBM.s_, eM]
    rw [WE.nf hN hp, WE.nf hN hp', WG.nf hN hp hp', ap'] at hI
    have w := NI.ns hN hI h8
    rw [← ap'] at w
    exact OkM.i w
  · have e1 : wr (s + 1) = s + 1 := wr_eq (by omega) (by omega)
    obtain ⟨M2, ee, hI2⟩ := enter_ok (base := 6) (s := s) (s1 := s) hN.2.2 hgA hMA' (st := (6 + A.1 p' 10).toNat) (by omega) ⟨s0, by omega⟩ ⟨s0, by omega⟩ rfl (by decide) (by omega) (by decide) hI
    have hI2' := EE.we hMA' ⟨s0, by omega⟩ rfl (by decide) (by decide) hI2
    have hBM2 := hI2.sb hN.2.2
    obtain ⟨M3, ee3, hI3⟩ : ∃ M3, (if s = leaf then some M2 else ((ck M2 8 2 6).bind fun _ => (D_Net_enter 8 p 0 s s M2).bind fun x73 => some x73)) = some M3 ∧ NI A M3 (6 + A.1 p' 10).toNat (fun s' a b q => ((0 ≤ s' ∧ s' < s) ∧ (WE A p' 6 s' s' a b q ∨ (s' ≠ leaf ∧ WE A p 0 s' s' a b q) ∨ WG A p p' leaf s' a b q)) ∨ (s' = s ∧ (WE A p' 6 s s a b q ∨ (s ≠ leaf ∧ WE A p 0 s s a b q)))) := by
      by_cases el : s = leaf
      · rw [if_pos el]
        refine ⟨M2, rfl, hI2'.c (fun s' a b q => ⟨fun z => ?_, fun z => ?_⟩)⟩
        · rcases z with z | ⟨e, z⟩
          · exact Or.inl z
          · exact Or.inr ⟨e, Or.inl z⟩
        · rcases z with z | ⟨e, z | z⟩
          · exact Or.inl z
          · exact Or.inr ⟨e, z⟩
          · exact absurd el z.1
      · rw [if_neg el]
        obtain ⟨M3, ee3, hI3⟩ := enter_ok (base := 0) (s := s) (s1 := s) hN.2.2 hgA hMA (st := (6 + A.1 p' 10).toNat) (by omega) ⟨s0, by omega⟩ ⟨s0, by omega⟩ rfl (by decide) (by omega) (by decide) hI2'
        refine ⟨M3, by simp [-Option.bind_some, -Option.bind_none, gf, pf, rd, wt, ck, ln, lt, bz, nq, up_1, up_2, obs, obn, hBM2.n_, ee3], (EE.we hMA ⟨s0, by omega⟩ rfl (by decide) (by decide) hI3).c (fun s' a b q => ⟨fun z => ?_, fun z => ?_⟩)⟩
        · rcases z with (z | ⟨e, z⟩) | ⟨e, z⟩
          · exact Or.inl z
          · exact Or.inr ⟨e, Or.inl z⟩
          · exact Or.inr ⟨e, Or.inr ⟨el, z⟩⟩
        · rcases z with z | ⟨e, z | z⟩
          · exact Or.inl (Or.inl z)
          · exact Or.inl (Or.inr ⟨e, z⟩)
          · exact Or.inr ⟨e, z.2⟩
    have ck8 : ck M 8 2 6 = some () := by simp [ck, hBM.n_]
    have g0 : gf M 8 2 6 0 = some 1 := by simp [gf, hBM.n_]
    have g1 : gf M 1 5 3 1 = some (N.1 1 1) := by simp [gf, hBM.s_, eM]
    simp only [g0, obs, g1, hs, if_false, ck8, ee, ee3, e1]
    have hI0 := TT.start (base := 6) (s0 := s) (many := A.1 p' 10) (S := SG2 A p' s (ishl 1 (mT (mch A p) leaf 0 0))) hI3
    generalize hTd : (fun (s' a b q : Int) => ((0 ≤ s' ∧ s' < s) ∧ (WE A p' 6 s' s' a b q ∨ (s' ≠ leaf ∧ WE A p 0 s' s' a b q) ∨ WG A p p' leaf s' a b q)) ∨ (s' = s ∧ (WE A p' 6 s s a b q ∨ (s ≠ leaf ∧ WE A p 0 s s a b q)))) = Td at hI0
    refine lq1 (fun n' v M' => L_Net_setGrafted_79 (fun m79 => L_Net_setGrafted_37 (fun m37 => some m37) 8 p leaf p' (ishl 1 (mT (mch A p) leaf 0 0)) (A.1 p' 10) n (s + 1) m79) 8 p leaf p' (ishl 1 (mT (mch A p) leaf 0 0)) (A.1 p' 10) s n' v M') (fun x M' => 0 ≤ x ∧ x ≤ 6 ∧ NI A M' (6 + A.1 p' 10).toNat (TT A Td 6 s (A.1 p' 10) (SG2 A p' s (ishl 1 (mT (mch A p) leaf 0 0))) x 0)) (fun x => (6 - x).toNat) (fun o => OkM o _) ?_ ⟨Int.le_refl 0, by decide, hI0⟩ (by have := FU_eq; omega)
    intro n' x M4 ⟨x0, x6, hI4⟩ ih3
    show OkM (L_Net_setGrafted_79 _ 8 p leaf p' (ishl 1 (mT (mch A p) leaf 0 0)) (A.1 p' 10) s (n' + 1) x M4) _
    have hBM3 := hI4.sb hN.2.2
    have hgM3 := hI4.sg hgA
    have cho := choices_ok hBM3.s_ hgM3.2.1 s 0 (A.1 p' 10)
    rw [hI4.rk] at cho
    rw [L_Net_setGrafted_79]
    by_cases hx : (if 0 < rkC A s then A.1 p' 10 else 1) ≤ x
    · simp [-Option.bind_some, -Option.bind_none, gf, pf, rd, wt, ck, ln, lt, bz, nq, up_1, up_2, obs, obn, hBM3.n_, hBM3.s_, cho, hx]
      have hE := TT.nx hI4 ⟨fun q => by rw [if_pos (by omega)] at hx; exact hx, fun q => by rw [if_neg (by omega)] at hx; exact hx⟩
      refine ih (s + 1) M4 ⟨by omega, by omega, hE.cq (fun s' a b q z0 z6 q0 => ?_)⟩ (by omega)
      have key : ∀ x0 y0, bt (SG2 A p' s (ishl 1 (mT (mch A p) leaf 0 0)) x0 y0) q ↔ fnl A p' (mT (mch A p') s x0 y0) ∧ q = mT (mch A p) leaf 0 0 := by
        intro x0 y0
        unfold SG2
        by_cases w : fnl A p' (mT (mch A p') s x0 y0)
        · rw [if_pos w, bt_shl lr'.1 (by omega) q0]
          exact ⟨fun h => ⟨w, h⟩, fun h => h.2⟩
        · rw [if_neg w]
          exact ⟨fun h => absurd h (bt_zero q), fun h => absurd h.1 w⟩
      subst hTd
      constructor
      · intro z
        rcases z with (z | ⟨e, z⟩) | ⟨e, x1, y1, hA, w1, w2, w3⟩
        · exact ⟨by omega, z.2⟩
        · subst e
          rcases z with z | z
          · exact ⟨by omega, Or.inl z⟩
          · exact ⟨by omega, Or.inr (Or.inl z)⟩
        · subst e
          exact ⟨by omega, Or.inr (Or.inr ⟨x1, y1, hA, w1, w2, (key x1 y1).mp w3⟩)⟩
      · intro ⟨zs, z⟩
        by_cases e : s' = s
        · subst e
          rcases z with z | z | ⟨x1, y1, hA, w1, w2, w3⟩
          · exact Or.inl (Or.inr ⟨rfl, Or.inl z⟩)
          · exact Or.inl (Or.inr ⟨rfl, Or.inr z⟩)
          · exact Or.inr ⟨rfl, x1, y1, hA, w1, w2, (key x1 y1).mpr w3⟩
        · exact Or.inl (Or.inl ⟨by omega, z⟩)
    · have xr : (1 ≤ rkC A s → 0 ≤ x ∧ x < A.1 p' 10) ∧ (¬ 1 ≤ rkC A s → x = 0) := by
        constructor
        · intro q; rw [if_pos (by omega)] at hx; omega
        · intro q; rw [if_neg (by omega)] at hx; omega
      have x5 : x < 6 := by
        by_cases q : 1 ≤ rkC A s
        · have := xr.1 q; omega
        · have := xr.2 q; omega
      have e1' : wr (x + 1) = x + 1 := wr_eq (by omega) (by omega)
      simp [-Option.bind_some, -Option.bind_none, gf, pf, rd, wt, ck, ln, lt, bz, nq, up_1, up_2, obs, obn, hBM3.n_, hBM3.s_, cho, hx, e1']
      exact gr99_lp hN.2.2 hgA hMA' rfl lfr.1 lfr.2 ⟨s0, by omega⟩ xr (fun o => OkM o _) _ (fun M' h => ih3 (x + 1) M' ⟨by omega, by omega, h⟩ (by omega)) hI4
