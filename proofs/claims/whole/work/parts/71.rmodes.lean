/-! the reference: its six ways to make keys -/
def BA (N : Mem) : Prop := ∀ k, 0 ≤ k → k < 114 → N.1 75 k = 0 ∨ N.1 75 k = 1
/-- what the reference's making asks of memory -/
def RC (N : Mem) : Prop := SB N ∧ SgE N ∧ BA N
theorem argx {rk : Int → Int} {c s x y : Int} (h1 : 1 ≤ rk s → 0 ≤ x ∧ x < c) (h2 : 2 ≤ rk s → 0 ≤ y ∧ y < c) (h3 : ¬ 1 ≤ rk s → x = 0) (h4 : ¬ 2 ≤ rk s → y = 0) : Arg rk c s x y := ⟨h1, h3, h2, h4⟩
def two (w a b : Int) : Int := if w = 0 then (if a = 0 then (if b = 0 then 0 else 1) else 1) else if w = 1 then (if a = 0 then 0 else if b = 0 then 0 else 1) else if w = 2 then (if a = 0 then 0 else if b = 0 then 1 else 0) else if a = b then 0 else 1
theorem two_01 (w a b : Int) : two w a b = 0 ∨ two w a b = 1 := by
  unfold two
  split
  · split
    · split <;> simp
    · simp
  · split
    · split
      · simp
      · split <;> simp
    · split
      · split
        · simp
        · split <;> simp
      · split <;> simp
theorem ofTwo_ok {M : Mem} (hB : SB M) (a b : Int) : D_M_ofTwo 62 a b M = some (two (M.1 62 21) a b, M) := by
  unfold D_M_ofTwo two
  by_cases w0 : M.1 62 21 = 0
  · by_cases a0 : a = 0
    · by_cases b0 : b = 0
      · simp [-Option.bind_some, -Option.bind_none, gf, pf, rd, wt, ck, ln, lt, bz, nq, up_1, up_2, obs, obn, hB.m_, w0, a0, b0]
      · simp [-Option.bind_some, -Option.bind_none, gf, pf, rd, wt, ck, ln, lt, bz, nq, up_1, up_2, obs, obn, hB.m_, w0, a0, b0]
    · simp [-Option.bind_some, -Option.bind_none, gf, pf, rd, wt, ck, ln, lt, bz, nq, up_1, up_2, obs, obn, hB.m_, w0, a0]
  · by_cases w1 : M.1 62 21 = 1
    · by_cases a0 : a = 0
      · simp [-Option.bind_some, -Option.bind_none, gf, pf, rd, wt, ck, ln, lt, bz, nq, up_1, up_2, obs, obn, hB.m_, w1, a0]
      · by_cases b0 : b = 0
        · simp [-Option.bind_some, -Option.bind_none, gf, pf, rd, wt, ck, ln, lt, bz, nq, up_1, up_2, obs, obn, hB.m_, w1, a0, b0]
        · simp [-Option.bind_some, -Option.bind_none, gf, pf, rd, wt, ck, ln, lt, bz, nq, up_1, up_2, obs, obn, hB.m_, w1, a0, b0]
    · by_cases w2 : M.1 62 21 = 2
      · by_cases a0 : a = 0
        · simp [-Option.bind_some, -Option.bind_none, gf, pf, rd, wt, ck, ln, lt, bz, nq, up_1, up_2, obs, obn, hB.m_, w2, a0]
        · by_cases b0 : b = 0
          · simp [-Option.bind_some, -Option.bind_none, gf, pf, rd, wt, ck, ln, lt, bz, nq, up_1, up_2, obs, obn, hB.m_, w2, a0, b0]
          · simp [-Option.bind_some, -Option.bind_none, gf, pf, rd, wt, ck, ln, lt, bz, nq, up_1, up_2, obs, obn, hB.m_, w2, a0, b0]
      · by_cases e : a = b
        · simp [-Option.bind_some, -Option.bind_none, gf, pf, rd, wt, ck, ln, lt, bz, nq, up_1, up_2, obs, obn, hB.m_, w0, w1, w2, e]
        · simp [-Option.bind_some, -Option.bind_none, gf, pf, rd, wt, ck, ln, lt, bz, nq, up_1, up_2, obs, obn, hB.m_, w0, w1, w2, e]
/-! of two -/
def nx1 (N : Mem) (s x y : Int) : Int := 8 * mT (mchR N 16) s (x / 8) (y / 8) + mT (mchR N 17) s (x % 8) (y % 8)
def fn1 (N : Mem) (z : Int) : Int := two (N.1 62 21) (N.1 75 (96 + z / 8)) (N.1 75 (102 + z % 8))
def Ty1 (N : Mem) (z : Int) : Prop := ∃ c1 c2, (0 ≤ c1 ∧ c1 < N.1 73 16) ∧ (0 ≤ c2 ∧ c2 < N.1 73 17) ∧ z = 8 * c1 + c2
theorem ra1 {N : Mem} (h : RC N) (hW : MW (N.1 1 1) (rkC N) (mchR N 16)) (hW' : MW (N.1 1 1) (rkC N) (mchR N 17)) (e20 : N.1 62 20 = 1) : RA N (nx1 N) (fn1 N) ∧ ∀ z, RX N (nx1 N) z → Ty1 N z := by
  obtain ⟨hB, hg, hBA⟩ := h
  have c6 : 0 ≤ N.1 73 16 ∧ N.1 73 16 ≤ 6 := hW.1
  have c6' : 0 ≤ N.1 73 17 ∧ N.1 73 17 ≤ 6 := hW'.1
  have n6 := hg.1.2.1
  refine RA.mk hB hg (Ty1 N) ?_ ?_ ?_ (fun z => two_01 _ _ _)
  · intro s x y s0 s1 hx hy hx0 hy0
    have bx : 1 ≤ rkC N s → (0 ≤ x / 8 ∧ x / 8 < N.1 73 16) ∧ (0 ≤ x % 8 ∧ x % 8 < N.1 73 17) ∧ 0 ≤ x ∧ x < 512 := fun q => by
      obtain ⟨c1, c2, h1, h2, e⟩ := hx q
      omega
    have by' : 2 ≤ rkC N s → (0 ≤ y / 8 ∧ y / 8 < N.1 73 16) ∧ (0 ≤ y % 8 ∧ y % 8 < N.1 73 17) ∧ 0 ≤ y ∧ y < 512 := fun q => by
      obtain ⟨c1, c2, h1, h2, e⟩ := hy q
      omega
    have hA : Arg (rkC N) (N.1 73 16) s (x / 8) (y / 8) := argx (fun q => (bx q).1) (fun q => (by' q).1) (fun q => by rw [hx0 q]; rfl) (fun q => by rw [hy0 q]; rfl)
    have hA' : Arg (rkC N) (N.1 73 17) s (x % 8) (y % 8) := argx (fun q => (bx q).2.1) (fun q => (by' q).2.1) (fun q => by rw [hx0 q]; rfl) (fun q => by rw [hy0 q]; rfl)
    have t := hW.2 s _ _ s0 s1 hA
    have t' := hW'.2 s _ _ s0 s1 hA'
    have em : mN (mchR N 16) = N.1 73 16 := rfl
    have em' : mN (mchR N 17) = N.1 73 17 := rfl
    rw [em] at t
    rw [em'] at t'
    have xr : 0 ≤ x ∧ x < 512 := by
      by_cases q : 1 ≤ rkC N s
      · exact (bx q).2.2
      · have := hx0 q; omega
    have yr : 0 ≤ y ∧ y < 512 := by
      by_cases q : 2 ≤ rkC N s
      · exact (by' q).2.2
      · have := hy0 q; omega
    refine ⟨fun M hC => ?_, _, _, t, t', rfl⟩
    have hBM := hC.sb hB
    have b := hA.b6 c6.2
    have b' := hA'.b6 c6'.2
    have so := rstep_ok (M := M) (m := 16) (s := s) (x := x / 8) (y := y / 8) hBM (by decide) ⟨s0, by omega⟩ b.1 b.2
    have so' := rstep_ok (M := M) (m := 17) (s := s) (x := x % 8) (y := y % 8) hBM (by decide) ⟨s0, by omega⟩ b'.1 b'.2
    rw [hC.mr] at so so'
    have m20 : M.1 62 20 = 1 := by rw [hC.2.2 20 (by decide) (by decide)]; exact e20
    have d1 := idv_v (a := x) (b := 8) xr.1 (by omega) (by decide) (by decide)
    have d2 := idv_v (a := y) (b := 8) yr.1 (by omega) (by decide) (by decide)
    have d3 := irm_v (a := x) (b := 8) xr.1 (by omega) (by decide) (by decide)
    have d4 := irm_v (a := y) (b := 8) yr.1 (by omega) (by decide) (by decide)
    have w1 : wr (8 * mT (mchR N 16) s (x / 8) (y / 8)) = 8 * mT (mchR N 16) s (x / 8) (y / 8) := wr_eq (by omega) (by omega)
    have w2 : wr (8 * mT (mchR N 16) s (x / 8) (y / 8) + mT (mchR N 17) s (x % 8) (y % 8)) = 8 * mT (mchR N 16) s (x / 8) (y / 8) + mT (mchR N 17) s (x % 8) (y % 8) := wr_eq (by omega) (by omega)
    unfold D_M_next nx1
    simp [-Option.bind_some, -Option.bind_none, gf, pf, rd, wt, ck, ln, lt, bz, nq, up_1, up_2, obs, obn, hBM.m_, m20, d1, d2, d3, d4, so, so', w1, w2]
  · intro z ⟨c1, c2, h1, h2, e⟩ M hC
    have hBM := hC.sb hB
    have d1 := idv_v (a := z) (b := 8) (by omega) (by omega) (by decide) (by decide)
    have d3 := irm_v (a := z) (b := 8) (by omega) (by omega) (by decide) (by decide)
    have m20 : M.1 62 20 = 1 := by rw [hC.2.2 20 (by decide) (by decide)]; exact e20
    have w1 : wr (96 + z / 8) = 96 + z / 8 := wr_eq (by omega) (by omega)
    have w2 : wr (102 + z % 8) = 102 + z % 8 := wr_eq (by omega) (by omega)
    have i0 : 0 ≤ 96 + z / 8 := by omega
    have i1 : 96 + z / 8 < 114 := by omega
    have j0 : 0 ≤ 102 + z % 8 := by omega
    have j1 : 102 + z % 8 < 114 := by omega
    have ot := ofTwo_ok hBM (N.1 75 (96 + z / 8)) (N.1 75 (102 + z % 8))
    rw [hC.2.2 21 (by decide) (by decide)] at ot
    have e75 : M.1 75 = N.1 75 := hC.2.1 75 (by decide) (by decide)
    have t01 := two_01 (N.1 62 21) (N.1 75 (96 + z / 8)) (N.1 75 (102 + z % 8))
    unfold D_M_isFinal fn1
    simp [-Option.bind_some, -Option.bind_none, gf, pf, rd, wt, ck, ln, lt, bz, nq, up_1, up_2, obs, obn, hBM.m_, m20, d1, d3, w1, w2, i0, i1, j0, j1, e75, ot, t01]
  · intro z ⟨c1, c2, h1, h2, e⟩
    omega
/-! one machine, another way to name or to take it -/
def nx2 (N : Mem) (s x y : Int) : Int := mT (mchR N 16) (mpf (N.1 62 23) s) x y
def fn2 (N : Mem) (z : Int) : Int := if N.1 62 21 = 0 then (if N.1 75 (96 + z) = 0 then 1 else 0) else if N.1 62 21 = 1 then (if N.1 75 (96 + z) = 0 then 0 else 1) else if iand (ishr (N.1 62 25) z) 1 = 1 then 1 else 0
theorem fn2_01 (N : Mem) (z : Int) : fn2 N z = 0 ∨ fn2 N z = 1 := by
  unfold fn2
  split
  · split <;> simp
  · split
    · split <;> simp
    · split <;> simp
theorem mappedR_ok {M : Mem} {s : Int} (hB : SB M) (s0 : 0 ≤ s) (s6 : s < 6) : D_M_mapped 62 s M = some (mpf (M.1 62 23) s, M) := by
  have e : wr (3 * s) = 3 * s := wr_eq (by omega) (by omega)
  unfold D_M_mapped mpf
  simp [-Option.bind_some, -Option.bind_none, gf, pf, rd, wt, ck, ln, lt, bz, nq, up_1, up_2, obs, obn, hB.m_, e]
theorem ra2 {N : Mem} (h : RC N) (hW : MW (N.1 1 1) (rkC N) (mchR N 16)) (hm : MapOk N (N.1 62 23)) (e20 : N.1 62 20 = 2) : RA N (nx2 N) (fn2 N) ∧ ∀ z, RX N (nx2 N) z → 0 ≤ z ∧ z < N.1 73 16 := by
  obtain ⟨hB, hg, hBA⟩ := h
  have c6 : 0 ≤ N.1 73 16 ∧ N.1 73 16 ≤ 6 := hW.1
  have n6 := hg.1.2.1
  refine RA.mk hB hg (fun z => 0 ≤ z ∧ z < N.1 73 16) ?_ ?_ ?_ (fun z => fn2_01 _ _)
  · intro s x y s0 s1 hx hy hx0 hy0
    have mo := hm s s0 s1
    have hA : Arg (rkC N) (N.1 73 16) s x y := argx hx hy hx0 hy0
    have b := hA.b6 c6.2
    have hA' : Arg (rkC N) (N.1 73 16) (mpf (N.1 62 23) s) x y := arg_rk mo.2 hA
    have t := hW.2 _ _ _ mo.1.1 mo.1.2 hA'
    refine ⟨fun M hC => ?_, t⟩
    have hBM := hC.sb hB
    have so := rstep_ok (M := M) (m := 16) (s := mpf (N.1 62 23) s) (x := x) (y := y) hBM (by decide) ⟨mo.1.1, by omega⟩ b.1 b.2
    rw [hC.mr] at so
    have mp := mappedR_ok hBM s0 (by omega)
    rw [hC.2.2 23 (by decide) (by decide)] at mp
    have m20 : M.1 62 20 = 2 := by rw [hC.2.2 20 (by decide) (by decide)]; exact e20
    unfold D_M_next nx2
    simp [-Option.bind_some, -Option.bind_none, gf, pf, rd, wt, ck, ln, lt, bz, nq, up_1, up_2, obs, obn, hBM.m_, m20, mp, so]
  · intro z ⟨z0, z1⟩ M hC
    have hBM := hC.sb hB
    have m20 : M.1 62 20 = 2 := by rw [hC.2.2 20 (by decide) (by decide)]; exact e20
    have m21 : M.1 62 21 = N.1 62 21 := hC.2.2 21 (by decide) (by decide)
    have m25 : M.1 62 25 = N.1 62 25 := hC.2.2 25 (by decide) (by decide)
    have w1 : wr (96 + z) = 96 + z := wr_eq (by omega) (by omega)
    have i0 : 0 ≤ 96 + z := by omega
    have i1 : 96 + z < 114 := by omega
    have e75 : M.1 75 = N.1 75 := hC.2.1 75 (by decide) (by decide)
    have ba := hBA (96 + z) i0 i1
    unfold D_M_isFinal fn2
    by_cases w0 : N.1 62 21 = 0
    · by_cases q : N.1 75 (96 + z) = 0
      · simp [-Option.bind_some, -Option.bind_none, gf, pf, rd, wt, ck, ln, lt, bz, nq, up_1, up_2, obs, obn, hBM.m_, m20, m21, w0, w1, i0, i1, e75, q]
      · simp [-Option.bind_some, -Option.bind_none, gf, pf, rd, wt, ck, ln, lt, bz, nq, up_1, up_2, obs, obn, hBM.m_, m20, m21, w0, w1, i0, i1, e75, q]
    · by_cases w1' : N.1 62 21 = 1
      · by_cases q : N.1 75 (96 + z) = 0
        · simp [-Option.bind_some, -Option.bind_none, gf, pf, rd, wt, ck, ln, lt, bz, nq, up_1, up_2, obs, obn, hBM.m_, m20, m21, w1', w1, i0, i1, e75, q]
        · have q1 : N.1 75 (96 + z) = 1 := by omega
          simp [-Option.bind_some, -Option.bind_none, gf, pf, rd, wt, ck, ln, lt, bz, nq, up_1, up_2, obs, obn, hBM.m_, m20, m21, w1', w1, i0, i1, e75, q1]
      · by_cases q : iand (ishr (N.1 62 25) z) 1 = 1
        · simp [-Option.bind_some, -Option.bind_none, gf, pf, rd, wt, ck, ln, lt, bz, nq, up_1, up_2, obs, obn, hBM.m_, m20, m21, w0, w1', m25, q]
        · simp [-Option.bind_some, -Option.bind_none, gf, pf, rd, wt, ck, ln, lt, bz, nq, up_1, up_2, obs, obn, hBM.m_, m20, m21, w0, w1', m25, q]
  · intro z hz
    have hz : 0 ≤ z ∧ z < N.1 73 16 := hz
    omega
/-! sets of classes -/
noncomputable def hl (N : Mem) (z : Int) : Int := @ite Int (∃ c, 0 ≤ c ∧ c < N.1 73 16 ∧ bt z c ∧ N.1 75 (96 + c) = 1) (Classical.propDecidable _) 1 0
theorem hl_01 (N : Mem) (z : Int) : hl N z = 0 ∨ hl N z = 1 := by
  unfold hl
  split <;> simp
theorem hl_i (N : Mem) (z : Int) : hl N z = 1 ↔ ∃ c, 0 ≤ c ∧ c < N.1 73 16 ∧ bt z c ∧ N.1 75 (96 + c) = 1 := by
  unfold hl
  by_cases q : ∃ c, 0 ≤ c ∧ c < N.1 73 16 ∧ bt z c ∧ N.1 75 (96 + c) = 1
  · rw [if_pos q]; exact ⟨fun _ => q, fun _ => rfl⟩
  · rw [if_neg q]; exact ⟨fun w => by omega, fun w => absurd w q⟩
theorem hasLast_ok {N M : Mem} {z : Int} (hB : SB N) (hBA : BA N) (hC : KC N M) (c6 : 0 ≤ N.1 73 16 ∧ N.1 73 16 ≤ 6) (hz : 0 ≤ z ∧ z < 64) : D_M_hasLast 62 z M = some (hl N z, M) := by
  have hBM := hC.sb hB
  have hS := hBM.m_
  have e73 : M.1 73 16 = N.1 73 16 := by rw [hC.2.1 73 (by decide) (by decide)]
  have e75 : M.1 75 = N.1 75 := hC.2.1 75 (by decide) (by decide)
  unfold D_M_hasLast
  refine lq2 (fun n u v M' => L_M_hasLast_4 (fun w2_4 m4 => (bz w2_4).bind fun _ => some (w2_4, m4)) 62 z n u v M') (fun u c M' => M' = M ∧ (0 ≤ c ∧ c ≤ N.1 73 16) ∧ (u = 0 ∨ u = 1) ∧ (u = 1 ↔ ∃ c', 0 ≤ c' ∧ c' < c ∧ bt z c' ∧ N.1 75 (96 + c') = 1)) (fun u c => (N.1 73 16 - c).toNat) (fun o => o = some (hl N z, M)) ?_ ⟨rfl, ⟨Int.le_refl 0, c6.1⟩, Or.inl rfl, ⟨fun w => by omega, fun ⟨c', w0, w1, _⟩ => by omega⟩⟩ (by have := FU_eq; omega)
  intro n u c M' ⟨hM, ⟨c0, c1⟩, hu, hi⟩ ih
  subst hM
  show L_M_hasLast_4 _ 62 z (n + 1) u c M' = _
  rw [L_M_hasLast_4]
  by_cases hc : N.1 73 16 ≤ c
  · have : c = N.1 73 16 := by omega
    subst this
    have e : hl N z = u := by
      have k : hl N z = 1 ↔ u = 1 := (hl_i N z).trans hi.symm
      have h1 := hl_01 N z
      clear hi ih
      omega
    simp [-Option.bind_some, -Option.bind_none, gf, pf, rd, wt, ck, ln, lt, bz, nq, up_1, up_2, obs, obn, hS, e73, hu]
    exact e.symm
  · have e1 : wr (c + 1) = c + 1 := wr_eq (by omega) (by omega)
    have w1 : wr (96 + c) = 96 + c := wr_eq (by omega) (by omega)
    have i0 : 0 ≤ 96 + c := by omega
    have i1 : 96 + c < 114 := by omega
    have ba := hBA (96 + c) i0 i1
    have nxt : ∀ u', (u' = 0 ∨ u' = 1) → (u' = 1 ↔ u = 1 ∨ (bt z c ∧ N.1 75 (96 + c) = 1)) → L_M_hasLast_4 (fun w2_4 m4 => (bz w2_4).bind fun _ => some (w2_4, m4)) 62 z n u' (c + 1) M' = some (hl N z, M') := fun u' h0 h1 => ih u' (c + 1) M' ⟨rfl, by omega, h0, by
      rw [h1, hi]
      constructor
      · intro w
        rcases w with ⟨c', a, b, d⟩ | w
        · exact ⟨c', a, by omega, d⟩
        · exact ⟨c, c0, by omega, w⟩
      · intro ⟨c', a, b, d⟩
        by_cases e : c' = c
        · rw [e] at d; exact Or.inr d
        · exact Or.inl ⟨c', a, by omega, d⟩⟩ (by omega)
    rcases hu with hu | hu
    · subst hu
      by_cases q : iand (ishr z c) 1 = 1
      · have q' := (bt_1 hz.1 (by omega) c0 (by omega)).mp q
        by_cases q2 : N.1 75 (96 + c) = 0
        · have g := nxt 0 (Or.inl rfl) ⟨fun w => by omega, fun w => by
            rcases w with w | w
            · omega
            · have := w.2; omega⟩
          simp [-Option.bind_some, -Option.bind_none, gf, pf, rd, wt, ck, ln, lt, bz, nq, up_1, up_2, obs, obn, hS, e73, hc, q, w1, i0, i1, e75, q2, e1]
          exact g
        · have g := nxt 1 (Or.inr rfl) ⟨fun _ => Or.inr ⟨q', by omega⟩, fun _ => rfl⟩
          simp [-Option.bind_some, -Option.bind_none, gf, pf, rd, wt, ck, ln, lt, bz, nq, up_1, up_2, obs, obn, hS, e73, hc, q, w1, i0, i1, e75, q2, e1]
          exact g
      · have q' : ¬ bt z c := fun w => q ((bt_1 hz.1 (by omega) c0 (by omega)).mpr w)
        have g := nxt 0 (Or.inl rfl) ⟨fun w => by omega, fun w => by
          rcases w with w | w
          · omega
          · exact absurd w.1 q'⟩
        simp [-Option.bind_some, -Option.bind_none, gf, pf, rd, wt, ck, ln, lt, bz, nq, up_1, up_2, obs, obn, hS, e73, hc, q, e1]
        exact g
    · subst hu
      have g := nxt 1 (Or.inr rfl) ⟨fun _ => Or.inl rfl, fun _ => rfl⟩
      simp [-Option.bind_some, -Option.bind_none, gf, pf, rd, wt, ck, ln, lt, bz, nq, up_1, up_2, obs, obn, hS, e73, hc, e1]
      exact g
/-- renaming -/
noncomputable def nx3 (N : Mem) (s x y : Int) : Int := sOf 6 (fun q => ∃ t, (0 ≤ t ∧ t < N.1 1 1) ∧ mpf (N.1 62 23) t = s ∧ bt (bySt N t x y) q)
theorem renamedStep_ok {N M : Mem} {s x y : Int} (hB : SB N) (hg : SgE N) (hC : KC N M) (hW : MW (N.1 1 1) (rkC N) (mchR N 16)) (hx : 0 ≤ x ∧ x < 64) (hy : 0 ≤ y ∧ y < 64) : D_M_renamedStep 62 s x y M = some (nx3 N s x y, M) := by
  have hBM := hC.sb hB
  have hS := hBM.m_
  have n0 := hg.1.1
  have n6 := hg.1.2.1
  have e0 : M.1 62 0 = N.1 1 1 := by rw [hC.2.2 0 (by decide) (by decide)]; exact hg.2.1
  unfold D_M_renamedStep
  refine lq2 (fun n u v M' => L_M_renamedStep_6 (fun w4_6 m6 => some (w4_6, m6)) 62 s x y n u v M') (fun z t M' => M' = M ∧ (0 ≤ t ∧ t ≤ N.1 1 1) ∧ (0 ≤ z ∧ z < 64) ∧ ∀ q, 0 ≤ q → (bt z q ↔ ∃ t', (0 ≤ t' ∧ t' < t) ∧ mpf (N.1 62 23) t' = s ∧ bt (bySt N t' x y) q)) (fun z t => (N.1 1 1 - t).toNat) (fun o => o = some (nx3 N s x y, M)) ?_ ⟨rfl, ⟨Int.le_refl 0, n0⟩, by decide, fun q _ => ⟨fun w => absurd w (bt_zero q), fun ⟨t', w, _⟩ => by omega⟩⟩ (by have := FU_eq; omega)
  intro n z t M' ⟨hM, ⟨t0, t1⟩, hz, hb⟩ ih
  subst hM
  show L_M_renamedStep_6 _ 62 s x y (n + 1) z t M' = _
  rw [L_M_renamedStep_6]
  by_cases ht : N.1 1 1 ≤ t
  · simp [-Option.bind_some, -Option.bind_none, gf, pf, rd, wt, ck, ln, lt, bz, nq, up_1, up_2, obs, obn, hS, e0, ht]
    have : t = N.1 1 1 := by omega
    subst this
    exact sOf_u (by decide) hz.1 hz.2 (fun q q0 q1 => hb q q0)
  · have e1 : wr (t + 1) = t + 1 := wr_eq (by omega) (by omega)
    have mp := mappedR_ok hBM t0 (by omega)
    rw [hC.2.2 23 (by decide) (by decide)] at mp
    by_cases q : mpf (N.1 62 23) t = s
    · have bs := bySets_ok hB hg hC hW t0 (by omega) hx hy
      have br := sOf_b (k := 6) (B := fun q => ∃ a b, Arg (rkC N) (N.1 73 16) t a b ∧ (1 ≤ rkC N t → bt x a) ∧ (2 ≤ rkC N t → bt y b) ∧ q = mT (mchR N 16) t a b) (by decide)
      have brr : 0 ≤ bySt N t x y ∧ bySt N t x y < 64 := br.1
      simp [-Option.bind_some, -Option.bind_none, gf, pf, rd, wt, ck, ln, lt, bz, nq, up_1, up_2, obs, obn, hS, e0, ht, mp, q, bs, e1]
      refine ih _ (t + 1) M' ⟨rfl, by omega, ior_r (k := 6) (by decide) hz.1 hz.2 brr.1 brr.2, fun q' q0 => ?_⟩ (by omega)
      rw [bt_or hz.1 (by omega) brr.1 (by omega), hb q' q0]
      constructor
      · intro u
        rcases u with ⟨t', u1, u2⟩ | u
        · exact ⟨t', by omega, u2⟩
        · exact ⟨t, by omega, q, u⟩
      · intro ⟨t', u1, u2, u3⟩
        by_cases e : t' = t
        · rw [e] at u3; exact Or.inr u3
        · exact Or.inl ⟨t', by omega, u2, u3⟩
    · have zi := ior_0 hz.1 (show z < 2147483648 by omega)
      simp [-Option.bind_some, -Option.bind_none, gf, pf, rd, wt, ck, ln, lt, bz, nq, up_1, up_2, obs, obn, hS, e0, ht, mp, q, e1, zi]
      refine ih z (t + 1) M' ⟨rfl, by omega, hz, fun q' q0 => ?_⟩ (by omega)
      rw [hb q' q0]
      constructor
      · intro ⟨t', u1, u2⟩
        exact ⟨t', by omega, u2⟩
      · intro ⟨t', u1, u2, u3⟩
        by_cases e : t' = t
        · rw [e] at u2; exact absurd u2 q
        · exact ⟨t', by omega, u2, u3⟩
theorem ra3 {N : Mem} (h : RC N) (hW : MW (N.1 1 1) (rkC N) (mchR N 16)) (e20 : N.1 62 20 = 3) : RA N (nx3 N) (hl N) ∧ ∀ z, RX N (nx3 N) z → 0 ≤ z ∧ z < 64 := by
  obtain ⟨hB, hg, hBA⟩ := h
  have c6 : 0 ≤ N.1 73 16 ∧ N.1 73 16 ≤ 6 := hW.1
  refine RA.mk hB hg (fun z => 0 ≤ z ∧ z < 64) ?_ ?_ ?_ (fun z => hl_01 N z)
  · intro s x y s0 s1 hx hy hx0 hy0
    have xr : 0 ≤ x ∧ x < 64 := by
      by_cases q : 1 ≤ rkC N s
      · exact hx q
      · have := hx0 q; omega
    have yr : 0 ≤ y ∧ y < 64 := by
      by_cases q : 2 ≤ rkC N s
      · exact hy q
      · have := hy0 q; omega
    refine ⟨fun M hC => ?_, (sOf_b (k := 6) (by decide)).1⟩
    have hBM := hC.sb hB
    have m20 : M.1 62 20 = 3 := by rw [hC.2.2 20 (by decide) (by decide)]; exact e20
    have rs := renamedStep_ok (s := s) hB hg hC hW xr yr
    unfold D_M_next
    simp [-Option.bind_some, -Option.bind_none, gf, pf, rd, wt, ck, ln, lt, bz, nq, up_1, up_2, obs, obn, hBM.m_, m20, rs]
  · intro z hz M hC
    have hBM := hC.sb hB
    have m20 : M.1 62 20 = 3 := by rw [hC.2.2 20 (by decide) (by decide)]; exact e20
    have h := hasLast_ok hB hBA hC c6 hz
    have h01 := hl_01 N z
    unfold D_M_isFinal
    simp [-Option.bind_some, -Option.bind_none, gf, pf, rd, wt, ck, ln, lt, bz, nq, up_1, up_2, obs, obn, hBM.m_, m20, h, h01]
  · intro z hz
    have hz : 0 ≤ z ∧ z < 64 := hz
    omega
/-! within -/
noncomputable def nx4 (N : Mem) (s x y : Int) : Int := 2 * mT (mchR N 16) s (x / 2) (y / 2) + (if (1 ≤ rkC N s ∧ x % 2 = 1) ∨ (2 ≤ rkC N s ∧ y % 2 = 1) ∨ N.1 75 (96 + mT (mchR N 16) s (x / 2) (y / 2)) = 1 then 1 else 0)
def fn4 (z : Int) : Int := z % 2
def Ty4 (N : Mem) (z : Int) : Prop := 0 ≤ z ∧ z / 2 < N.1 73 16
theorem ra4 {N : Mem} (h : RC N) (hW : MW (N.1 1 1) (rkC N) (mchR N 16)) (e20 : N.1 62 20 = 4) : RA N (nx4 N) fn4 ∧ ∀ z, RX N (nx4 N) z → Ty4 N z := by
  obtain ⟨hB, hg, hBA⟩ := h
  have c6 : 0 ≤ N.1 73 16 ∧ N.1 73 16 ≤ 6 := hW.1
  have n6 := hg.1.2.1
  refine RA.mk hB hg (Ty4 N) ?_ ?_ ?_ (fun z => by unfold fn4; omega)
  · intro s x y s0 s1 hx hy hx0 hy0
    unfold Ty4 at hx hy
    have hA : Arg (rkC N) (N.1 73 16) s (x / 2) (y / 2) := argx (fun q => by have := hx q; omega) (fun q => by have := hy q; omega) (fun q => by rw [hx0 q]; rfl) (fun q => by rw [hy0 q]; rfl)
    have b := hA.b6 c6.2
    have t := hW.2 s _ _ s0 s1 hA
    have em : mN (mchR N 16) = N.1 73 16 := rfl
    rw [em] at t
    have xr : 0 ≤ x ∧ x < 12 := by
      by_cases q : 1 ≤ rkC N s
      · have := hx q; omega
      · have := hx0 q; omega
    have yr : 0 ≤ y ∧ y < 12 := by
      by_cases q : 2 ≤ rkC N s
      · have := hy q; omega
      · have := hy0 q; omega
    refine ⟨fun M hC => ?_, ?_⟩
    · have hBM := hC.sb hB
      have m20 : M.1 62 20 = 4 := by rw [hC.2.2 20 (by decide) (by decide)]; exact e20
      have s6 : s < 6 := by omega
      have rk : M.1 63 s = rkC N s := by rw [hC.2.1 63 (by decide) (by decide)]; exact hg.2.2 s s0 s1
      have so := rstep_ok (M := M) (m := 16) (s := s) (x := x / 2) (y := y / 2) hBM (by decide) ⟨s0, s6⟩ b.1 b.2
      rw [hC.mr] at so
      have d1 := idv_v (a := x) (b := 2) xr.1 (by omega) (by decide) (by decide)
      have d2 := idv_v (a := y) (b := 2) yr.1 (by omega) (by decide) (by decide)
      have d3 := irm_v (a := x) (b := 2) xr.1 (by omega) (by decide) (by decide)
      have d4 := irm_v (a := y) (b := 2) yr.1 (by omega) (by decide) (by decide)
      have e75 : M.1 75 = N.1 75 := hC.2.1 75 (by decide) (by decide)
      unfold D_M_next D_M_withinStep nx4
      generalize mT (mchR N 16) s (x / 2) (y / 2) = c at *
      have w1 : wr (96 + c) = 96 + c := wr_eq (by omega) (by omega)
      have i0 : 0 ≤ 96 + c := by omega
      have i1 : 96 + c < 114 := by omega
      have w2 : wr (2 * c) = 2 * c := wr_eq (by omega) (by omega)
      have w3 : wr (2 * c + 1) = 2 * c + 1 := wr_eq (by omega) (by omega)
      have w4 : wr (2 * c + 0) = 2 * c + 0 := wr_eq (by omega) (by omega)
      have ba := hBA (96 + c) i0 i1
      by_cases p1 : rkC N s ≤ 0
      · have p2 : rkC N s ≤ 1 := by omega
        have p1' : ¬ 1 ≤ rkC N s := by omega
        have p2' : ¬ 2 ≤ rkC N s := by omega
        rcases ba with ba | ba
        · simp [-Option.bind_some, -Option.bind_none, gf, pf, rd, wt, ck, ln, lt, bz, nq, up_1, up_2, obs, obn, hBM.m_, m20, d1, d2, d3, d4, so, s0, s6, rk, p1, p2, p1', p2', w1, i0, i1, e75, ba, w2, w3, w4]
        · simp [-Option.bind_some, -Option.bind_none, gf, pf, rd, wt, ck, ln, lt, bz, nq, up_1, up_2, obs, obn, hBM.m_, m20, d1, d2, d3, d4, so, s0, s6, rk, p1, p2, p1', p2', w1, i0, i1, e75, ba, w2, w3, w4]
      · have p1' : 1 ≤ rkC N s := by omega
        by_cases q1 : x % 2 = 1
        · simp [-Option.bind_some, -Option.bind_none, gf, pf, rd, wt, ck, ln, lt, bz, nq, up_1, up_2, obs, obn, hBM.m_, m20, d1, d2, d3, d4, so, s0, s6, rk, p1, p1', q1, w2, w3]
        · by_cases p2 : rkC N s ≤ 1
          · have p2' : ¬ 2 ≤ rkC N s := by omega
            rcases ba with ba | ba
            · simp [-Option.bind_some, -Option.bind_none, gf, pf, rd, wt, ck, ln, lt, bz, nq, up_1, up_2, obs, obn, hBM.m_, m20, d1, d2, d3, d4, so, s0, s6, rk, p1, p1', q1, p2, p2', w1, i0, i1, e75, ba, w2, w3, w4]
            · simp [-Option.bind_some, -Option.bind_none, gf, pf, rd, wt, ck, ln, lt, bz, nq, up_1, up_2, obs, obn, hBM.m_, m20, d1, d2, d3, d4, so, s0, s6, rk, p1, p1', q1, p2, p2', w1, i0, i1, e75, ba, w2, w3, w4]
          · have p2' : 2 ≤ rkC N s := by omega
            by_cases q2 : y % 2 = 1
            · simp [-Option.bind_some, -Option.bind_none, gf, pf, rd, wt, ck, ln, lt, bz, nq, up_1, up_2, obs, obn, hBM.m_, m20, d1, d2, d3, d4, so, s0, s6, rk, p1, p1', q1, p2, p2', q2, w2, w3]
            · rcases ba with ba | ba
              · simp [-Option.bind_some, -Option.bind_none, gf, pf, rd, wt, ck, ln, lt, bz, nq, up_1, up_2, obs, obn, hBM.m_, m20, d1, d2, d3, d4, so, s0, s6, rk, p1, p1', q1, p2, p2', q2, w1, i0, i1, e75, ba, w2, w3, w4]
              · simp [-Option.bind_some, -Option.bind_none, gf, pf, rd, wt, ck, ln, lt, bz, nq, up_1, up_2, obs, obn, hBM.m_, m20, d1, d2, d3, d4, so, s0, s6, rk, p1, p1', q1, p2, p2', q2, w1, i0, i1, e75, ba, w2, w3, w4]
    · unfold nx4 Ty4
      split <;> omega
  · intro z hz M hC
    unfold Ty4 at hz
    have hBM := hC.sb hB
    have m20 : M.1 62 20 = 4 := by rw [hC.2.2 20 (by decide) (by decide)]; exact e20
    have d3 := irm_v (a := z) (b := 2) (by omega) (by omega) (by decide) (by decide)
    unfold D_M_isFinal fn4
    by_cases q : z % 2 = 1
    · simp [-Option.bind_some, -Option.bind_none, gf, pf, rd, wt, ck, ln, lt, bz, nq, up_1, up_2, obs, obn, hBM.m_, m20, d3, q]
    · have q0 : z % 2 = 0 := by omega
      simp [-Option.bind_some, -Option.bind_none, gf, pf, rd, wt, ck, ln, lt, bz, nq, up_1, up_2, obs, obn, hBM.m_, m20, d3, q0]
  · intro z hz
    unfold Ty4 at hz
    omega
/-! grafted -/
noncomputable def g5 (N : Mem) (s x y : Int) : Int := ior (if s = N.1 62 24 then 0 else bySt N s (x / 8) (y / 8)) (if N.1 75 (102 + mT (mchR N 17) s (x % 8) (y % 8)) = 0 then 0 else ishl 1 (mT (mchR N 16) (N.1 62 24) 0 0))
noncomputable def nx5 (N : Mem) (s x y : Int) : Int := 8 * g5 N s x y + mT (mchR N 17) s (x % 8) (y % 8)
noncomputable def fn5 (N : Mem) (z : Int) : Int := hl N (z / 8)
def Ty5 (N : Mem) (z : Int) : Prop := ∃ S c, (0 ≤ S ∧ S < 64) ∧ (0 ≤ c ∧ c < N.1 73 17) ∧ z = 8 * S + c
theorem ra5 {N : Mem} (h : RC N) (hW : MW (N.1 1 1) (rkC N) (mchR N 16)) (hW' : MW (N.1 1 1) (rkC N) (mchR N 17)) (hl' : 0 ≤ N.1 62 24 ∧ N.1 62 24 < N.1 1 1) (rl : rkC N (N.1 62 24) = 0) (e20 : N.1 62 20 = 5) : RA N (nx5 N) (fn5 N) ∧ ∀ z, RX N (nx5 N) z → Ty5 N z := by
  obtain ⟨hB, hg, hBA⟩ := h
  have c6 : 0 ≤ N.1 73 16 ∧ N.1 73 16 ≤ 6 := hW.1
  have c6' : 0 ≤ N.1 73 17 ∧ N.1 73 17 ≤ 6 := hW'.1
  have n6 := hg.1.2.1
  have lA : Arg (rkC N) (N.1 73 16) (N.1 62 24) 0 0 := argx (fun q => by omega) (fun q => by omega) (fun _ => rfl) (fun _ => rfl)
  have lt' := hW.2 _ _ _ hl'.1 hl'.2 lA
  have em : mN (mchR N 16) = N.1 73 16 := rfl
  have em' : mN (mchR N 17) = N.1 73 17 := rfl
  rw [em] at lt'
  have lr := ishl1_r (j := 6) (k := mT (mchR N 16) (N.1 62 24) 0 0) lt'.1 (by omega) (by decide)
  refine RA.mk hB hg (Ty5 N) ?_ ?_ ?_ (fun z => hl_01 N _)
  · intro s x y s0 s1 hx hy hx0 hy0
    have bx : 1 ≤ rkC N s → (0 ≤ x / 8 ∧ x / 8 < 64) ∧ (0 ≤ x % 8 ∧ x % 8 < N.1 73 17) ∧ 0 ≤ x ∧ x < 512 := fun q => by
      obtain ⟨c1, c2, h1, h2, e⟩ := hx q
      omega
    have by' : 2 ≤ rkC N s → (0 ≤ y / 8 ∧ y / 8 < 64) ∧ (0 ≤ y % 8 ∧ y % 8 < N.1 73 17) ∧ 0 ≤ y ∧ y < 512 := fun q => by
      obtain ⟨c1, c2, h1, h2, e⟩ := hy q
      omega
    have hA' : Arg (rkC N) (N.1 73 17) s (x % 8) (y % 8) := argx (fun q => (bx q).2.1) (fun q => (by' q).2.1) (fun q => by rw [hx0 q]; rfl) (fun q => by rw [hy0 q]; rfl)
    have t' := hW'.2 s _ _ s0 s1 hA'
    rw [em'] at t'
    have xr : (0 ≤ x / 8 ∧ x / 8 < 64) ∧ 0 ≤ x ∧ x < 512 := by
      by_cases q : 1 ≤ rkC N s
      · exact ⟨(bx q).1, (bx q).2.2⟩
      · have := hx0 q; omega
    have yr : (0 ≤ y / 8 ∧ y / 8 < 64) ∧ 0 ≤ y ∧ y < 512 := by
      by_cases q : 2 ≤ rkC N s
      · exact ⟨(by' q).1, (by' q).2.2⟩
      · have := hy0 q; omega
    have br : 0 ≤ bySt N s (x / 8) (y / 8) ∧ bySt N s (x / 8) (y / 8) < 2 ^ 6 := (sOf_b (k := 6) (by decide)).1
    have gr : 0 ≤ g5 N s x y ∧ g5 N s x y < 2 ^ 6 := by
      unfold g5
      refine ior_r (k := 6) (by decide) ?_ ?_ ?_ ?_
      · split
        · decide
        · exact br.1
      · split
        · decide
        · exact br.2
      · split
        · decide
        · exact lr.1
      · split
        · decide
        · exact lr.2
    refine ⟨fun M hC => ?_, g5 N s x y, _, gr, t', rfl⟩
    have hBM := hC.sb hB
    have b' := hA'.b6 c6'.2
    have s6 : s < 6 := by omega
    have so' := rstep_ok (M := M) (m := 17) (s := s) (x := x % 8) (y := y % 8) hBM (by decide) ⟨s0, s6⟩ b'.1 b'.2
    have so := rstep_ok (M := M) (m := 16) (s := N.1 62 24) (x := 0) (y := 0) hBM (by decide) ⟨hl'.1, by omega⟩ (by decide) (by decide)
    rw [hC.mr] at so so'
    have bs := bySets_ok hB hg hC hW s0 s1 xr.1 yr.1
    have m20 : M.1 62 20 = 5 := by rw [hC.2.2 20 (by decide) (by decide)]; exact e20
    have m24 : M.1 62 24 = N.1 62 24 := hC.2.2 24 (by decide) (by decide)
    have e75 : M.1 75 = N.1 75 := hC.2.1 75 (by decide) (by decide)
    have d1 := idv_v (a := x) (b := 8) xr.2.1 (by omega) (by decide) (by decide)
    have d2 := idv_v (a := y) (b := 8) yr.2.1 (by omega) (by decide) (by decide)
    have d3 := irm_v (a := x) (b := 8) xr.2.1 (by omega) (by decide) (by decide)
    have d4 := irm_v (a := y) (b := 8) yr.2.1 (by omega) (by decide) (by decide)
    have w0 : wr (8 * g5 N s x y) = 8 * g5 N s x y := wr_eq (by omega) (by omega)
    have w9 : wr (8 * g5 N s x y + mT (mchR N 17) s (x % 8) (y % 8)) = 8 * g5 N s x y + mT (mchR N 17) s (x % 8) (y % 8) := wr_eq (by omega) (by omega)
    unfold D_M_next D_M_graftedStep nx5
    unfold g5 at w0 w9 ⊢
    generalize mT (mchR N 17) s (x % 8) (y % 8) = c at *
    have w1 : wr (102 + c) = 102 + c := wr_eq (by omega) (by omega)
    have i0 : 0 ≤ 102 + c := by omega
    have i1 : 102 + c < 114 := by omega
    by_cases q1 : s = N.1 62 24
    · rw [if_pos q1] at w0 w9 ⊢
      by_cases q2 : N.1 75 (102 + c) = 0
      · rw [if_pos q2] at w0 w9 ⊢
        simp [-Option.bind_some, -Option.bind_none, gf, pf, rd, wt, ck, ln, lt, bz, nq, up_1, up_2, obs, obn, hBM.m_, m20, m24, q1, d1, d2, d3, d4, so', w1, i0, i1, e75, q2, w0, w9]
        rw [← q1, so', obs]
        simp [-Option.bind_some, -Option.bind_none, gf, pf, rd, wt, ck, ln, lt, bz, nq, up_1, up_2, obs, obn, hBM.m_, w1, i0, i1, e75, q2, w0, w9]
      · rw [if_neg q2] at w0 w9 ⊢
        simp [-Option.bind_some, -Option.bind_none, gf, pf, rd, wt, ck, ln, lt, bz, nq, up_1, up_2, obs, obn, hBM.m_, m20, m24, q1, d1, d2, d3, d4, so', w1, i0, i1, e75, q2, w0, w9]
        rw [← q1, so', obs]
        rw [← q1] at so
        simp [-Option.bind_some, -Option.bind_none, gf, pf, rd, wt, ck, ln, lt, bz, nq, up_1, up_2, obs, obn, hBM.m_, w1, i0, i1, e75, q2, w0, w9, m24, so]
        rw [← q1, so, obs]
        rw [← q1] at w0 w9
        simp [-Option.bind_some, -Option.bind_none, gf, pf, rd, wt, ck, ln, lt, bz, nq, up_1, up_2, obs, obn, w0, w9]
    · rw [if_neg q1] at w0 w9 ⊢
      by_cases q2 : N.1 75 (102 + c) = 0
      · rw [if_pos q2] at w0 w9 ⊢
        simp [-Option.bind_some, -Option.bind_none, gf, pf, rd, wt, ck, ln, lt, bz, nq, up_1, up_2, obs, obn, hBM.m_, m20, m24, q1, d1, d2, d3, d4, bs, so', w1, i0, i1, e75, q2, w0, w9]
      · rw [if_neg q2] at w0 w9 ⊢
        simp [-Option.bind_some, -Option.bind_none, gf, pf, rd, wt, ck, ln, lt, bz, nq, up_1, up_2, obs, obn, hBM.m_, m20, m24, q1, d1, d2, d3, d4, bs, so', w1, i0, i1, e75, q2, so, w0, w9]
  · intro z ⟨S, c, h1, h2, e⟩ M hC
    have hBM := hC.sb hB
    have m20 : M.1 62 20 = 5 := by rw [hC.2.2 20 (by decide) (by decide)]; exact e20
    have d1 := idv_v (a := z) (b := 8) (by omega) (by omega) (by decide) (by decide)
    have h := hasLast_ok (z := z / 8) hB hBA hC c6 (by omega)
    have h01 := hl_01 N (z / 8)
    unfold D_M_isFinal fn5
    simp [-Option.bind_some, -Option.bind_none, gf, pf, rd, wt, ck, ln, lt, bz, nq, up_1, up_2, obs, obn, hBM.m_, m20, d1, h, h01]
  · intro z ⟨S, c, h1, h2, e⟩
    omega
