/-! laying: one turn of the loop -/
noncomputable def VA (d e43 : Int) (M : Mem) : Option Mem := (if e43 = 0 then ((ck M 62 9 54).bind fun _ => (D_M_choose 62 d M).bind fun x50 => (gf x50 62 9 54 2).bind fun g54 => (gf x50 62 9 54 3).bind fun g58 => (gf x50 62 9 54 48).bind fun g62 => (rd x50 10 g62 d).bind fun e67 => (wt x50 10 g54 g58 e67).bind fun m68 => (gf m68 62 9 54 3).bind fun g71 => (pf m68 62 9 54 3 (wr (g71 + 1))).bind fun m76 => some m76) else ((gf M 62 9 54 50).bind fun g83 => (rd M 10 g83 d).bind fun e88 => if e88 = 1 then ((gf M 62 9 54 51).bind fun g94 => (gf M 62 9 54 53).bind fun g100 => (wt M 10 g94 d g100).bind fun m103 => some m103) else (some M)))
noncomputable def VX (d e110 : Int) (m123 : Mem) : Option (Int × Mem) := ((gf m123 62 9 54 1).bind fun g245 => (rd m123 10 g245 e110).bind fun e250 => (if e250 ≤ 0 then (some 0) else ((gf m123 62 9 54 51).bind fun g255 => (rd m123 10 g255 d).bind fun e260 => some e260)).bind fun (t251 : Int) => (gf m123 62 9 54 1).bind fun g266 => (rd m123 10 g266 e110).bind fun e271 => (if e271 ≤ 1 then (some 0) else ((gf m123 62 9 54 53).bind fun g277 => some g277)).bind fun (t273 : Int) => (ck m123 62 9 54).bind fun _ => (D_M_step 62 16 e110 t251 t273 m123).bind fun x284 => (pf x284.2 62 9 54 53 x284.1).bind fun m287 => some (wr (d + (-1)), m287))
noncomputable def VY (d e110 : Int) (m123 : Mem) : Option (Int × Mem) := ((gf m123 62 9 54 50).bind fun g142 => (rd m123 10 g142 d).bind fun e147 => (if e147 = 2 then (some 1) else (some 0)).bind fun (t149 : Int) => (gf m123 62 9 54 49).bind fun g160 => (rd m123 10 g160 d).bind fun e165 => (gf m123 62 9 54 51).bind fun g180 => (rd m123 10 g180 d).bind fun e185 => (ck m123 62 9 54).bind fun _ => (D_M_layWeights 62 d (wr (d + 1)) e110 t149 e185 e165 m123).bind fun x188 => (gf x188 62 9 54 47).bind fun g192 => (if t149 = 0 then ((gf x188 62 9 54 47).bind fun g210 => (rd x188 10 g210 d).bind fun e215 => some (wr ((wr (e215 - 1)) - e165))) else (some e165)).bind fun (t201 : Int) => (wt x188 10 g192 (wr (d + 1)) t201).bind fun m221 => (gf m221 62 9 54 50).bind fun g223 => (wt m221 10 g223 (wr (d + 1)) 0).bind fun m231 => some (wr (d + 1), m231))
noncomputable def VB (d : Int) (N : Mem) (K : Int × Mem → Option (Int × Mem)) : Option (Int × Mem) := (gf N 62 9 54 48).bind fun g105 => (rd N 10 g105 d).bind fun e110 => (gf N 62 9 54 50).bind fun g114 => (rd N 10 g114 d).bind fun e120 => (wt N 10 g114 d (wr (e120 + 1))).bind fun m123 => (gf m123 62 9 54 50).bind fun g125 => (rd m123 10 g125 d).bind fun e130 => (gf m123 62 9 54 1).bind fun g132 => (rd m123 10 g132 e110).bind fun e137 => (if e137 < e130 then VX d e110 m123 else VY d e110 m123).bind K
theorem lay_s (k : Mem → Option (Int × Mem)) (n : Nat) (d : Int) (M : Mem) : L_M_layTree_32 k 62 (n + 1) d M = if d < 0 then k M else (gf M 62 9 54 50).bind fun g38 => (rd M 10 g38 d).bind fun e43 => (VA d e43 M).bind fun t44 => VB d t44 (fun t138 => L_M_layTree_32 k 62 n t138.1 t138.2) := by
  rw [L_M_layTree_32]
  rfl
/-- a node is done -/
def NUP (d c st : Int) (N N' : Mem) : Prop := N'.2 = N.2 ∧ (∀ a, a ≠ 62 → a ≠ 98 → N'.1 a = N.1 a) ∧ (∀ k, k ≠ 53 → N'.1 62 k = N.1 62 k) ∧ N'.1 62 53 = c ∧ (∀ i, i ≠ d → N'.1 98 i = N.1 98 i) ∧ SB N'
/-- a part is begun -/
def NDN (d z' st N : Int) (g : Int → Int) (A A' : Mem) : Prop := A'.2 = A.2 ∧ (∀ a, a ≠ 94 → a ≠ 95 → a ≠ 98 → A'.1 a = A.1 a) ∧ (∀ i, ¬ (6 * (d + 1) ≤ i ∧ i < 6 * (d + 1) + 6) → A'.1 94 i = A.1 94 i) ∧ (∀ i, i ≠ d + 1 → A'.1 95 i = A.1 95 i) ∧ A'.1 95 (d + 1) = z' ∧ (∀ i, i ≠ d → i ≠ d + 1 → A'.1 98 i = A.1 98 i) ∧ A'.1 98 d = st + 1 ∧ A'.1 98 (d + 1) = 0 ∧ SB A' ∧ AtR (d + 1) N g A'
theorem vb_hd {n : Int} {rk : Int → Int} {m : Mch} {d s st : Int} {N : Mem} (h : RSt n rk m N) (d0 : 0 ≤ d) (d1 : d ≤ 40) (s0 : 0 ≤ s) (s1 : s < n) (es : N.1 96 d = s) (et : N.1 98 d = st) (st0 : 0 ≤ st ∧ st ≤ 2) : (∀ K, VB d N K = (if rk s < st + 1 then VX d s (up N 98 d (st + 1)) else VY d s (up N 98 d (st + 1))).bind K) ∧ RWR 1000 d [] N (up N 98 d (st + 1)) := by
  have hB := h.sb
  have g48 : gf N 62 9 54 48 = some 96 := by simp [gf, hB.m_]
  have g50 : gf N 62 9 54 50 = some 98 := by simp [gf, hB.m_]
  have r96 : rd N 10 96 d = some s := by rw [rd_v (n := 42) (by simp [hB.m_]) d0 (by omega), es]
  have r98 : rd N 10 98 d = some st := by rw [rd_v (n := 42) (by simp [hB.m_]) d0 (by omega), et]
  have w : wr (st + 1) = st + 1 := wr_eq (by omega) (by omega)
  have wt1 : wt N 10 98 d (st + 1) = some (up N 98 d (st + 1)) := wt_v (n := 42) (by simp [hB.m_]) d0 (by omega)
  have hB2 : SB (up N 98 d (st + 1)) := SB_up hB (by unfold stp; omega)
  have rw' : RWR 1000 d [] N (up N 98 d (st + 1)) := ⟨up_2 .., fun a _ _ q => up_n (by omega), fun k _ _ _ => by rw [up_n (by decide)], by rw [up_n (by decide)]; rfl, by rw [up_n (by decide), ln'_0]; omega, fun i _ => by rw [up_n (by decide)], fun a i _ _ q => by rw [up_1, if_neg (by omega)], hB2⟩
  have h2 := h.c rw'
  have g50' : gf (up N 98 d (st + 1)) 62 9 54 50 = some 98 := by simp [gf, hB2.m_]
  have r98' : rd (up N 98 d (st + 1)) 10 98 d = some (st + 1) := by rw [rd_v (n := 42) (by simp [hB2.m_]) d0 (by omega), up_1, if_pos ⟨rfl, rfl⟩]
  have rk1 := h2.rk_ s0 s1
  refine ⟨fun K => ?_, rw'⟩
  unfold VB
  rw [g48, obs, r96, obs, g50, obs, r98, obs, w, wt1, obs, g50', obs, r98', obs, rk1.1, obs, rk1.2, obs]
theorem vb_up {n : Int} {rk : Int → Int} {m : Mch} {d s st x y : Int} {N : Mem} (h : RSt n rk m N) (d0 : 0 ≤ d) (d1 : d ≤ 40) (s0 : 0 ≤ s) (s1 : s < n) (es : N.1 96 d = s) (et : N.1 98 d = st) (st0 : 0 ≤ st ∧ st ≤ 2) (hs : rk s < st + 1) (hA : Arg rk (mN m) s x y) (ex : 1 ≤ rk s → N.1 99 d = x) (ey : 2 ≤ rk s → N.1 62 53 = y) : ∃ N', (∀ K, VB d N K = K (d - 1, N')) ∧ NUP d (mT m s x y) st N N' := by
  obtain ⟨e1, rw'⟩ := vb_hd h d0 d1 s0 s1 es et st0
  have h2 := h.c rw'
  have hB2 := h2.sb
  have rk1 := h2.rk_ s0 s1
  have o99 : (up N 98 d (st + 1)).1 99 = N.1 99 := up_n (by decide)
  have o62 : (up N 98 d (st + 1)).1 62 = N.1 62 := up_n (by decide)
  have oo : ∀ a, a ≠ 98 → (up N 98 d (st + 1)).1 a = N.1 a := fun a q => up_n q
  have oi : ∀ i, i ≠ d → (up N 98 d (st + 1)).1 98 i = N.1 98 i := fun i q => by rw [up_1, if_neg (fun w => q w.2)]
  have o2 : (up N 98 d (st + 1)).2 = N.2 := up_2 ..
  rw [if_pos hs] at e1
  generalize up N 98 d (st + 1) = Q at *
  have g51 : gf Q 62 9 54 51 = some 99 := by simp [gf, hB2.m_]
  have g53 : gf Q 62 9 54 53 = some (N.1 62 53) := by rw [← o62]; simp [gf, hB2.m_]
  have ck0 : ck Q 62 9 54 = some () := by simp [ck, hB2.m_]
  have r99 : rd Q 10 99 d = some (N.1 99 d) := by rw [rd_v (n := 42) (by simp [hB2.m_]) d0 (by omega), o99]
  have t1 : (if rk s ≤ 0 then (some 0) else ((gf Q 62 9 54 51).bind fun g255 => (rd Q 10 g255 d).bind fun e260 => some e260) : Option Int) = some x := by
    by_cases q : rk s ≤ 0
    · rw [if_pos q, hA.2.1 (by omega)]
    · rw [if_neg q, g51, obs, r99, obs, ex (by omega)]
  have t2 : (if rk s ≤ 1 then (some 0) else ((gf Q 62 9 54 53).bind fun g277 => some g277) : Option Int) = some y := by
    by_cases q : rk s ≤ 1
    · rw [if_pos q, hA.2.2.2 (by omega)]
    · rw [if_neg q, g53, obs, ey (by omega)]
  have st' := stepQ_ok h2 s0 s1 hA
  have p53 : pf Q 62 9 54 53 (mT m s x y) = some (up Q 62 53 (mT m s x y)) := by simp [pf, hB2.m_]
  have wd : wr (d + (-1)) = d - 1 := by rw [wr_eq (by omega) (by omega)]; omega
  have ev : VX d s Q = some (d - 1, up Q 62 53 (mT m s x y)) := by
    unfold VX
    rw [rk1.1, obs, rk1.2, obs, t1, obs, obs, rk1.2, obs, t2, obs, ck0, obs, st', obs]
    dsimp only
    rw [p53, obs, wd]
  refine ⟨_, fun K => by rw [e1, ev, obs], by rw [up_2]; exact o2, fun a q r => by rw [up_n q]; exact oo a r, fun k q => by rw [up_1, if_neg (fun w => q w.2), o62], by rw [up_1, if_pos ⟨rfl, rfl⟩], fun i q => by rw [up_n (by decide)]; exact oi i q, SB_up hB2 (by unfold stp; omega)⟩
theorem vb_dn {n : Int} {rk : Int → Int} {m : Mch} {d s st x j z : Int} {W : Int → Int} {N : Mem} (h : RSt n rk m N) (hw : WOK (mN m) W) (hl : AtR d (mN m) W N) (d0 : 0 ≤ d) (d1 : d ≤ 40) (s0 : 0 ≤ s) (s1 : s < n) (es : N.1 96 d = s) (et : N.1 98 d = st) (st0 : 0 ≤ st ∧ st ≤ 1) (hs : st + 1 ≤ rk s) (ex : N.1 99 d = x) (hx : st = 1 → 0 ≤ x ∧ x < mN m) (ej : N.1 97 d = j) (jr : 0 ≤ j ∧ j ≤ 40) (ez : N.1 95 d = z) (zr : 0 ≤ z ∧ z ≤ 40) : ∃ N', (∀ K, VB d N K = K (d + 1, N')) ∧ NDN d (if st = 1 then j else z - 1 - j) st (mN m) (gW rk m (kC n rk m) W s st x j) N N' := by
  obtain ⟨hW, hr, n6, eN⟩ := h.mw
  have rs := hr s
  obtain ⟨e1, rw'⟩ := vb_hd h d0 d1 s0 s1 es et ⟨st0.1, by omega⟩
  have h2 := h.c rw'
  have hl2 := hl.c rw' hW.1.2 (by omega)
  have hB2 := h2.sb
  have oo : ∀ a, a ≠ 98 → (up N 98 d (st + 1)).1 a = N.1 a := fun a q => up_n q
  have oi : ∀ i, i ≠ d → (up N 98 d (st + 1)).1 98 i = N.1 98 i := fun i q => by rw [up_1, if_neg (fun w => q w.2)]
  have od : (up N 98 d (st + 1)).1 98 d = st + 1 := by rw [up_1, if_pos ⟨rfl, rfl⟩]
  have o2 : (up N 98 d (st + 1)).2 = N.2 := up_2 ..
  rw [if_neg (by omega)] at e1
  generalize up N 98 d (st + 1) = Q at *
  have g50 : gf Q 62 9 54 50 = some 98 := by simp [gf, hB2.m_]
  have g49 : gf Q 62 9 54 49 = some 97 := by simp [gf, hB2.m_]
  have g51 : gf Q 62 9 54 51 = some 99 := by simp [gf, hB2.m_]
  have ck0 : ck Q 62 9 54 = some () := by simp [ck, hB2.m_]
  have r98 : rd Q 10 98 d = some (st + 1) := by rw [rd_v (n := 42) (by simp [hB2.m_]) d0 (by omega), od]
  have r99 : rd Q 10 99 d = some x := by rw [rd_v (n := 42) (by simp [hB2.m_]) d0 (by omega), oo 99 (by decide), ex]
  have r97 : rd Q 10 97 d = some j := by rw [rd_v (n := 42) (by simp [hB2.m_]) d0 (by omega), oo 97 (by decide), ej]
  have t1 : (if st + 1 = 2 then (some 1) else (some 0) : Option Int) = some st := by
    by_cases q : st = 1
    · rw [if_pos (by omega), q]
    · rw [if_neg (by omega), show st = 0 by omega]
  have wd : wr (d + 1) = d + 1 := wr_eq (by omega) (by omega)
  obtain ⟨A, dA, a1, a2, a3, a4, a5⟩ := layWeights_ok (d := d) (t := d + 1) (s := s) (b := st) (x := x) (j := j) h2 hw hl2 d0 (by omega) (by omega) s0 s1 (by omega) (by
    by_cases q : st = 1
    · exact Or.inr ⟨q, by omega, hx q⟩
    · exact Or.inl (by omega)) jr.1 jr.2
  have g47 : gf A 62 9 54 47 = some 95 := by simp [gf, a4.m_]
  have r95 : rd A 10 95 d = some z := by rw [rd_v (n := 42) (by simp [a4.m_]) d0 (by omega), a2 95 (by decide), oo 95 (by decide), ez]
  have wz : wr (z - 1) = z - 1 := wr_eq (by omega) (by omega)
  have wzj : wr (z - 1 - j) = z - 1 - j := wr_eq (by omega) (by omega)
  have t2 : (if st = 0 then ((gf A 62 9 54 47).bind fun g210 => (rd A 10 g210 d).bind fun e215 => some (wr ((wr (e215 - 1)) - j))) else (some j) : Option Int) = some (if st = 1 then j else z - 1 - j) := by
    by_cases q : st = 0
    · rw [if_pos q, if_neg (by omega), g47, obs, r95, obs, wz, wzj]
    · rw [if_neg q, if_pos (by omega)]
  generalize (if st = 1 then j else z - 1 - j) = z' at *
  have wt1 : wt A 10 95 (d + 1) z' = some (up A 95 (d + 1) z') := wt_v (n := 42) (by simp [a4.m_]) (by omega) (by omega)
  have hB3 : SB (up A 95 (d + 1) z') := SB_up a4 (by unfold stp; omega)
  have g50' : gf (up A 95 (d + 1) z') 62 9 54 50 = some 98 := by simp [gf, hB3.m_]
  have wt2 : wt (up A 95 (d + 1) z') 10 98 (d + 1) 0 = some (up (up A 95 (d + 1) z') 98 (d + 1) 0) := wt_v (n := 42) (by simp [hB3.m_]) (by omega) (by omega)
  have ev : VY d s Q = some (d + 1, up (up A 95 (d + 1) z') 98 (d + 1) 0) := by
    unfold VY
    rw [g50, obs, r98, obs, t1, obs, g49, obs, r97, obs, g51, obs, r99, obs, ck0, obs, wd, dA, obs]
    rw [g47] at t2
    rw [g47, obs, t2, obs, wt1, obs, g50', obs, wt2, obs]
  refine ⟨_, fun K => by rw [e1, ev, obs], by rw [up_2, up_2, a1, o2], fun a q r w => by rw [up_n w, up_n r, a2 a q, oo a w], fun i q => by rw [up_n (by decide), up_n (by decide), a3 i q, oo 94 (by decide)], fun i q => by rw [up_n (by decide), up_1, if_neg (fun w => q w.2), a2 95 (by decide), oo 95 (by decide)], by rw [up_n (by decide), up_1, if_pos ⟨rfl, rfl⟩], fun i q r => by rw [up_1, if_neg (fun w => r w.2), up_n (by decide), a2 98 (by decide), oi i q], ?_, by rw [up_1, if_pos ⟨rfl, rfl⟩], SB_up hB3 (by unfold stp; omega), fun c c0 c1 => by rw [up_n (by decide), up_n (by decide)]; exact a5 c c0 c1⟩
  rw [up_1, if_neg (by omega), up_n (by decide), a2 98 (by decide), od]
/-- the sign is chosen and written -/
theorem va_0 {n : Int} {rk : Int → Int} {m : Mch} {d z l s f l' : Int} {W : Int → Int} {M : Mem} (h : RSt n rk m M) (hw : WOK (mN m) W) (hl : AtR d (mN m) W M) (d0 : 0 ≤ d) (d1 : d ≤ 40) (z1 : 1 ≤ z) (z2 : z ≤ 40) (ez : M.1 95 d = z) (el : M.1 62 52 = l) (lr : 0 ≤ l ∧ l < FAR) (hp : pick n rk m W z l = some (s, f, l')) (n0 : 0 < n) (r0 : 0 ≤ M.1 62 3) (r1 : M.1 62 3 < 120) : ∃ N, VA d 0 M = some N ∧ RWR 1000 d [s] M N ∧ N.1 62 52 = l' ∧ N.1 96 d = s ∧ N.1 97 d = (if rk s = 2 then z - 1 - f else 0) ∧ N.1 95 = M.1 95 ∧ N.1 98 = M.1 98 ∧ N.1 99 = M.1 99 := by
  obtain ⟨Q, dQ, q2, qo, qf, ql, qi, qs, qv, hBQ⟩ := choose_ok h hw hl d0 d1 z1 z2 ez el lr hp n0
  have hB := h.sb
  have ck0 : ck M 62 9 54 = some () := by simp [ck, hB.m_]
  have g2 : gf Q 62 9 54 2 = some 64 := by simp [gf, hBQ.m_]
  have g3 : gf Q 62 9 54 3 = some (M.1 62 3) := by rw [← qf 3 (by decide)]; simp [gf, hBQ.m_]
  have g48 : gf Q 62 9 54 48 = some 96 := by simp [gf, hBQ.m_]
  have r96 : rd Q 10 96 d = some s := by rw [rd_v (n := 42) (by simp [hBQ.m_]) d0 (by omega), qs]
  have w64 : wt Q 10 64 (M.1 62 3) s = some (up Q 64 (M.1 62 3) s) := wt_v (n := 120) (by simp [hBQ.m_]) r0 (by omega)
  have hB3 : SB (up Q 64 (M.1 62 3) s) := SB_up hBQ (by unfold stp; omega)
  have g3' : gf (up Q 64 (M.1 62 3) s) 62 9 54 3 = some (M.1 62 3) := by
    have e : (up Q 64 (M.1 62 3) s).1 62 3 = M.1 62 3 := by rw [up_n (by decide)]; exact qf 3 (by decide)
    have g : gf (up Q 64 (M.1 62 3) s) 62 9 54 3 = some ((up Q 64 (M.1 62 3) s).1 62 3) := by simp [gf, hB3.m_]
    rw [g, e]
  have w1 : wr (M.1 62 3 + 1) = M.1 62 3 + 1 := wr_eq (by omega) (by omega)
  have p3 : pf (up Q 64 (M.1 62 3) s) 62 9 54 3 (M.1 62 3 + 1) = some (up (up Q 64 (M.1 62 3) s) 62 3 (M.1 62 3 + 1)) := by simp [pf, hB3.m_]
  unfold VA
  rw [if_pos rfl, ck0, obs, dQ, obs, g2, obs, g3, obs, g48, obs, r96, obs, w64, obs, g3', obs, w1, p3, obs]
  refine ⟨_, rfl, ⟨by rw [up_2, up_2]; exact q2, fun a x y w => by rw [up_n x, up_n y]; exact qo a x (by omega) (by omega), fun k x y w => by rw [up_1, if_neg (fun w => x w.2), up_n (by decide)]; exact qf k y, ?_, ?_, fun i _ => by rw [up_n (by decide), up_n (by decide), qo 94 (by decide) (by decide) (by decide)], fun a i x y w => ?_, SB_up hB3 (by unfold stp; omega)⟩, ?_, ?_, ?_, ?_, ?_, ?_⟩
  · rw [up_n (by decide), up_f, if_pos rfl, qo 64 (by decide) (by decide) (by decide)]; rfl
  · rw [up_1, if_pos ⟨rfl, rfl⟩]; rfl
  · rw [up_n (by omega), up_n (by omega)]
    by_cases u : a = 96
    · rw [u]; exact (qi i (by omega)).1
    · by_cases u' : a = 97
      · rw [u']; exact (qi i (by omega)).2
      · rw [qo a (by omega) u u']
  · rw [up_1, if_neg (by decide), up_n (by decide)]; exact ql
  · rw [up_n (by decide), up_n (by decide)]; exact qs
  · rw [up_n (by decide), up_n (by decide)]; exact qv
  · rw [up_n (by decide), up_n (by decide), qo 95 (by decide) (by decide) (by decide)]
  · rw [up_n (by decide), up_n (by decide), qo 98 (by decide) (by decide) (by decide)]
  · rw [up_n (by decide), up_n (by decide), qo 99 (by decide) (by decide) (by decide)]
/-- a first part is back -/
theorem va_1 {d : Int} {M : Mem} (hB : SB M) (d0 : 0 ≤ d) (d1 : d ≤ 40) (e : M.1 98 d = 1) : VA d 1 M = some (up M 99 d (M.1 62 53)) := by
  have g50 : gf M 62 9 54 50 = some 98 := by simp [gf, hB.m_]
  have g51 : gf M 62 9 54 51 = some 99 := by simp [gf, hB.m_]
  have g53 : gf M 62 9 54 53 = some (M.1 62 53) := by simp [gf, hB.m_]
  have r98 : rd M 10 98 d = some 1 := by rw [rd_v (n := 42) (by simp [hB.m_]) d0 (by omega), e]
  have w99 : wt M 10 99 d (M.1 62 53) = some (up M 99 d (M.1 62 53)) := wt_v (n := 42) (by simp [hB.m_]) d0 (by omega)
  unfold VA
  rw [if_neg (by decide), g50, obs, r98, obs, if_pos rfl, g51, obs, g53, obs, w99, obs]
theorem va_2 {d : Int} {M : Mem} (hB : SB M) (d0 : 0 ≤ d) (d1 : d ≤ 40) (e : M.1 98 d = 2) : VA d 2 M = some M := by
  have g50 : gf M 62 9 54 50 = some 98 := by simp [gf, hB.m_]
  have r98 : rd M 10 98 d = some 2 := by rw [rd_v (n := 42) (by simp [hB.m_]) d0 (by omega), e]
  unfold VA
  rw [if_neg (by decide), g50, obs, r98, obs, if_neg (by decide)]
theorem lay_turn {k : Mem → Option (Int × Mem)} {n : Nat} {d st d' : Int} {M N N' : Mem} (hB : SB M) (d0 : 0 ≤ d) (d1 : d ≤ 40) (e : M.1 98 d = st) (ea : VA d st M = some N) (eb : ∀ K, VB d N K = K (d', N')) : L_M_layTree_32 k 62 (n + 1) d M = L_M_layTree_32 k 62 n d' N' := by
  have g50 : gf M 62 9 54 50 = some 98 := by simp [gf, hB.m_]
  have r98 : rd M 10 98 d = some st := by rw [rd_v (n := 42) (by simp [hB.m_]) d0 (by omega), e]
  rw [lay_s, if_neg (by omega), g50, obs, r98, obs, ea, obs, eb]
