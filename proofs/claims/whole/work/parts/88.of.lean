/-! calls: made of two -/
theorem ishl6 {f : Int} (f0 : 0 ≤ f) (f1 : f < 64) : ishl f 6 = f * 64 := by
  obtain ⟨a, rfl⟩ : ∃ a : Nat, f = a := ⟨f.toNat, by omega⟩
  have := ishl_n (a := a) (k := 6) (by decide) (by omega)
  rw [show (6 : Int) = ((6 : Nat) : Int) from rfl, this]
  omega
theorem bt_6 {f q : Int} (f0 : 0 ≤ f) (f1 : f < 64) (q0 : 0 ≤ q) : bt (f * 64) q ↔ 6 ≤ q ∧ bt f (q - 6) := by
  by_cases h : 6 ≤ q
  · have := bt_hi (set := f * 64) (x := q - 6) (by omega) (by omega)
    rw [show q - 6 + 6 = q by omega, show f * 64 / 64 = f by omega] at this
    rw [← this]
    exact ⟨fun w => ⟨h, w⟩, fun w => w.2⟩
  · have := bt_lo (set := f * 64) (x := q) (by omega) q0 (by omega)
    rw [show f * 64 % 64 = 0 by omega] at this
    rw [← this]
    exact ⟨fun w => absurd w (bt_zero q), fun w => absurd w.1 h⟩
theorem wvs : wv 0 = some 14 ∧ wv 1 = some 8 ∧ wv 2 = some 2 ∧ wv 3 = some 6 := by decide
theorem wbits : (iand (ishr 14 0) 1 = 0 ∧ iand (ishr 14 1) 1 = 1 ∧ iand (ishr 14 2) 1 = 1 ∧ iand (ishr 14 3) 1 = 1) ∧ (iand (ishr 8 0) 1 = 0 ∧ iand (ishr 8 1) 1 = 0 ∧ iand (ishr 8 2) 1 = 0 ∧ iand (ishr 8 3) 1 = 1) ∧ (iand (ishr 2 0) 1 = 0 ∧ iand (ishr 2 1) 1 = 1 ∧ iand (ishr 2 2) 1 = 0 ∧ iand (ishr 2 3) 1 = 0) ∧ (iand (ishr 6 0) 1 = 0 ∧ iand (ishr 6 1) 1 = 1 ∧ iand (ishr 6 2) 1 = 1 ∧ iand (ishr 6 3) 1 = 0) := by decide
def wayOf (w : Int) : Int := if w = 0 then 14 else if w = 1 then 8 else if w = 2 then 2 else 6
theorem wv_ok {w : Int} (w0 : 0 ≤ w) (w1 : w < 4) : wv w = some (wayOf w) := by
  have : w = 0 ∨ w = 1 ∨ w = 2 ∨ w = 3 := by omega
  rcases this with q | q | q | q <;> subst q <;> simp [wvs, wayOf]
theorem way_two {w p q : Int} (w0 : 0 ≤ w) (w1 : w < 4) (hp : p = 0 ∨ p = 1) (hq : q = 0 ∨ q = 1) : (if iand (ishr (wayOf w) (p + 2 * q)) 1 = 0 then (0 : Int) else 1) = two w p q := by
  have : w = 0 ∨ w = 1 ∨ w = 2 ∨ w = 3 := by omega
  rcases this with z | z | z | z <;> subst z <;> rcases hp with z | z <;> subst z <;> rcases hq with z | z <;> subst z <;> simp [wayOf, two, wbits]
theorem acN_of {N0 M N : Mem} {p p' w a b : Int} (w0 : 0 ≤ w) (w1 : w < 4) (hM : MOK N0 p) (hM' : MOK N0 p') (hn : NtOk M) (h3 : M.1 8 3 = N0.1 p 11) (h4 : M.1 8 4 = ishl (N0.1 p' 11) 6) (h5 : M.1 8 5 = wayOf w) (hA : BA N) (e21 : N.1 62 21 = w) (hE : Eqm (N0.1 1 1) (rkC N0) (mch N0 p) (mchR N 16)) (hE' : Eqm (N0.1 1 1) (rkC N0) (mch N0 p') (mchR N 17)) (h : R1 M (N0.1 p 10) (N0.1 p' 10) a b) : acN M a = 1 ↔ fn1 N b = 1 := by
  obtain ⟨x, y, hx, hy, eb, hv, hb⟩ := h
  have r := vs_4096 hn hv
  have k6 : 0 ≤ N0.1 p 10 ∧ N0.1 p 10 ≤ 6 := hM.2.2.1.1
  have k6' : 0 ≤ N0.1 p' 10 ∧ N0.1 p' 10 ≤ 6 := hM'.2.2.1.1
  have f := hM.2.2.2
  have f' := hM'.2.2.2
  have i1 : iand a (N0.1 p 11) ≠ 0 ↔ N.1 75 (96 + x) = 1 := by
    have fi : bt (N0.1 p 11) x ↔ N.1 75 (96 + x) = 1 := fin_iff hE hx.1 hx.2
    rw [iand_ne r.1 r.2 f.1 (by omega), ← fi]
    constructor
    · intro ⟨i, i0, u, v⟩
      have i6 : i < 6 := bt_lt (k := 6) f.1 f.2 v i0
      rcases (hb i i0).mp u with z | z
      · rw [z] at v; exact v
      · omega
    · intro u
      exact ⟨x, hx.1, (hb x hx.1).mpr (Or.inl rfl), u⟩
  have i2 : iand a (ishl (N0.1 p' 11) 6) ≠ 0 ↔ N.1 75 (102 + y) = 1 := by
    have fi : bt (N0.1 p' 11) y ↔ N.1 75 (102 + y) = 1 := fin_iff hE' hy.1 hy.2
    rw [ishl6 f'.1 f'.2, iand_ne r.1 r.2 (by omega) (by omega), ← fi]
    constructor
    · intro ⟨i, i0, u, v⟩
      rw [bt_6 f'.1 f'.2 i0] at v
      rcases (hb i i0).mp u with z | z
      · omega
      · rw [z, show 6 + y - 6 = y by omega] at v; exact v.2
    · intro u
      refine ⟨6 + y, by omega, (hb (6 + y) (by omega)).mpr (Or.inr rfl), ?_⟩
      rw [bt_6 f'.1 f'.2 (by omega), show 6 + y - 6 = y by omega]
      exact ⟨by omega, u⟩
  have b1 := hA (96 + x) (by omega) (by omega)
  have b2 := hA (102 + y) (by omega) (by omega)
  have e1 : b / 8 = x := by omega
  have e2 : b % 8 = y := by omega
  unfold acN fn1
  rw [e1, e2, e21, h3, h4, h5]
  have s1 : (if iand a (N0.1 p 11) = 0 then (0 : Int) else 1) = N.1 75 (96 + x) := by
    by_cases z : iand a (N0.1 p 11) = 0
    · rw [if_pos z]
      rcases b1 with u | u
      · exact u.symm
      · exact absurd z (i1.mpr u)
    · rw [if_neg z]; exact (i1.mp z).symm
  have s2 : (if iand a (ishl (N0.1 p' 11) 6) = 0 then (0 : Int) else 2) = 2 * N.1 75 (102 + y) := by
    by_cases z : iand a (ishl (N0.1 p' 11) 6) = 0
    · rw [if_pos z]
      rcases b2 with u | u
      · rw [u]; rfl
      · exact absurd z (i2.mpr u)
    · rw [if_neg z, i2.mp z]; rfl
  rw [s1, s2, way_two w0 w1 b1 b2]
theorem NS.env_hi {N0 M : Mem} {p' one oth way : Int} {T : Int → Int → Int → Int → Prop} (hg : SgOk N0) (hM' : MOK N0 p') (hS : NS N0 M (6 + N0.1 p' 10) one oth way T) (h1 : 0 ≤ one ∧ one < 4096) (h2 : 0 ≤ oth ∧ oth < 4096) (h3 : 0 ≤ way ∧ way < 16) (hT : ∀ s a b q, 0 ≤ s → s < N0.1 1 1 → 6 ≤ q → (T s a b q ↔ WE N0 p' 6 s s a b q)) : Env M := by
  have k6' : 0 ≤ N0.1 p' 10 ∧ N0.1 p' 10 ≤ 6 := hM'.2.2.1.1
  have hn := hS.nt (by omega) h1 h2 h3
  have hgM := hS.sg hg
  refine ⟨hn, hgM, Cd.hi (fun z hz => ?_), hS.2.2.1⟩
  have em' : mN (mch N0 p') = N0.1 p' 10 := rfl
  have key : vs M z ∧ ∃ c, (0 ≤ c ∧ c < N0.1 p' 10) ∧ ∀ q, 6 ≤ q → (bt z q ↔ q = 6 + c) := by
    unfold RN at hz
    rw [hS.n1, hS.rk] at hz
    refine hz (fun z => vs M z ∧ ∃ c, (0 ≤ c ∧ c < N0.1 p' 10) ∧ ∀ q, 6 ≤ q → (bt z q ↔ q = 6 + c)) ?_
    intro s x y s0 s1 hx hy
    obtain ⟨hv, hb⟩ := hS.dn hg (by omega) hn s0 s1 (fun q => (hx q).1) (fun q => (hy q).1)
    refine ⟨hv, ?_⟩
    have ex : ∃ c, (1 ≤ rkC N0 s → (0 ≤ c ∧ c < N0.1 p' 10) ∧ ∀ q, 6 ≤ q → (bt x q ↔ q = 6 + c)) ∧ (¬ 1 ≤ rkC N0 s → c = 0) := by
      by_cases q : 1 ≤ rkC N0 s
      · obtain ⟨c, w⟩ := (hx q).2
        exact ⟨c, fun _ => w, fun h => absurd q h⟩
      · exact ⟨0, fun h => absurd h q, fun _ => rfl⟩
    have ey : ∃ c, (2 ≤ rkC N0 s → (0 ≤ c ∧ c < N0.1 p' 10) ∧ ∀ q, 6 ≤ q → (bt y q ↔ q = 6 + c)) ∧ (¬ 2 ≤ rkC N0 s → c = 0) := by
      by_cases q : 2 ≤ rkC N0 s
      · obtain ⟨c, w⟩ := (hy q).2
        exact ⟨c, fun _ => w, fun h => absurd q h⟩
      · exact ⟨0, fun h => absurd h q, fun _ => rfl⟩
    obtain ⟨c, hc, hc0⟩ := ex
    obtain ⟨d, hd, hd0⟩ := ey
    have hA' : Arg (rkC N0) (N0.1 p' 10) s c d := argx (fun q => (hc q).1) (fun q => (hd q).1) hc0 hd0
    have t' := hM'.2.2.1.2 _ _ _ s0 s1 hA'
    rw [em'] at t'
    refine ⟨_, t', fun q q6 => ?_⟩
    rw [hb q (by omega)]
    have w2 := we_single (A := N0) (p := p') (base := 6) (s1 := s) (s := s) (st := 6 + N0.1 p' 10) (X := x) (Y := y) (cx := c) (cy := d) (q := q) k6'.2 (Int.le_refl _) (by decide) (fun r => ⟨(hc r).1, fun x0 z0 z1 => by rw [(hc r).2 (6 + x0) (by omega)]; omega⟩) hc0 (fun r => ⟨(hd r).1, fun x0 z0 z1 => by rw [(hd r).2 (6 + x0) (by omega)]; omega⟩) hd0
    rw [← w2]
    constructor
    · intro ⟨a, b, hab, z⟩
      exact ⟨a, b, hab, (hT s a b q s0 s1 q6).mp z⟩
    · intro ⟨a, b, hab, z⟩
      exact ⟨a, b, hab, (hT s a b q s0 s1 q6).mpr z⟩
  obtain ⟨hv, c, hc, hb⟩ := key
  have r := vs_4096 hn hv
  exact ⟨r, c, hc.1, by omega, hi_pow r.1 r.2 hc.1 (by omega) hb⟩
theorem WE.lo {N0 : Mem} {p s s1 a b q : Int} (hM : MOK N0 p) (s0 : 0 ≤ s1) (s2 : s1 < N0.1 1 1) (er : rkC N0 s1 = rkC N0 s) (h : WE N0 p 0 s1 s a b q) : q < 6 := by
  obtain ⟨x0, y0, hA, -, -, e⟩ := h
  have k6 : 0 ≤ N0.1 p 10 ∧ N0.1 p 10 ≤ 6 := hM.2.2.1.1
  have t := hM.2.2.1.2 _ _ _ s0 s2 (arg_rk er hA)
  have em : mN (mch N0 p) = N0.1 p 10 := rfl
  rw [em] at t
  omega
/-- the reference loads two tongues -/
theorem load2_ok {X : Mem} {tc a b : Int} (hI : IB X tc) (a0 : 0 ≤ a) (a1 : a < tc) (b0 : 0 ≤ b) (b1 : b < tc) (fr1 : X.1 (100 + 12 * a) 7 = 0) (fr2 : X.1 (100 + 12 * b) 7 = 0) (h12 : X.1 (102 + 12 * a) 12 = 0) (hb : X.1 (102 + 12 * b) 12 = 0 ∨ X.1 (102 + 12 * b) 12 = 1) : ∃ Ya r Yb, D_M_load 62 a 16 X = some (0, Ya) ∧ D_M_load 62 b 17 Ya = some (r, Yb) ∧ SB Ya ∧ IB Yb tc ∧ KR X Yb ∧ Yb.1 62 4 = X.1 62 4 ∧ (X.1 (102 + 12 * b) 12 = 1 → r = -5) ∧ (X.1 (102 + 12 * b) 12 = 0 → r = 0 ∧ Eqm (X.1 1 1) (rkC X) (mch X (102 + 12 * a)) (mchR Yb 16) ∧ Eqm (X.1 1 1) (rkC X) (mch X (102 + 12 * b)) (mchR Yb 17) ∧ MW (X.1 1 1) (rkC X) (mchR Yb 16) ∧ MW (X.1 1 1) (rkC X) (mchR Yb 17)) := by
  obtain ⟨r1, Ya, d1, hIa, hKa, hra⟩ := load_k_ok (m := 16) hI a0 a1 fr1 (Or.inl rfl)
  have ka := hKa.kr
  have cl : ∀ e, 100 ≤ e → Ya.1 e = X.1 e := fun e q => ka.2 e (by omega)
  obtain ⟨r2, Yb, d2, hIb, hKb, hrb⟩ := load_k_ok (m := 17) hIa b0 b1 (by rw [cl _ (by omega)]; exact fr2) (Or.inr rfl)
  obtain ⟨z1, -, hMa, hE, hW⟩ : r1 = 0 ∧ X.1 (102 + 12 * a) 12 = 0 ∧ MOK X (102 + 12 * a) ∧ Eqm (X.1 1 1) (rkC X) (mch X (102 + 12 * a)) (mchR Ya 16) ∧ MW (X.1 1 1) (rkC X) (mchR Ya 16) := by
    rcases hra with q | q
    · have := q.2; omega
    · exact q
  subst z1
  have n1 : Ya.1 1 = X.1 1 := ka.2 1 (by decide)
  have n2 : Ya.1 2 = X.1 2 := ka.2 2 (by decide)
  have ek : rkC Ya = rkC X := rk_c n1 n2
  have k6 : mN (mch X (102 + 12 * a)) ≤ 6 := hMa.2.2.1.1.2
  have hE16 : Eqm (X.1 1 1) (rkC X) (mch X (102 + 12 * a)) (mchR Yb 16) := hE.cr hI.sg.1.2.1 k6 (hKb.2.2.2.1 16 (by decide)) (fun j j0 j1 => hKb.2.2.2.2.1 _ (by omega)) (fun e c e0 e1 c0 c1 => hKb.2.2.2.2.2 e _ e0 e1 (by omega))
  refine ⟨Ya, r2, Yb, d1, d2, hIa.sb, hIb, ka.tr hKb.kr, ?_, fun w => ?_, fun w => ?_⟩
  · rw [hKb.2.2.1 4 (by decide) (by decide) (by decide) (by decide), hKa.2.2.1 4 (by decide) (by decide) (by decide) (by decide)]
  · rcases hrb with q | q
    · exact q.1
    · have := q.2.1; rw [cl _ (by omega)] at this; omega
  · rcases hrb with q | ⟨q1, q2, q3, q4, q5⟩
    · have := q.2; rw [cl _ (by omega)] at this; omega
    · rw [n1, ek, mch_c ek (fun e e0 e1 => cl e (by omega))] at q4
      rw [n1, ek] at q5
      exact ⟨q1, hE16, q4, hE16.mw hMa.2.2.1, q5⟩
/-- looking at two tongues -/
def TWO (M : Mem) (tc a b : Int) (M2 : Mem) : Prop := IB M2 tc ∧ FQ M M2 ∧ M2.1 (100 + 12 * a) 7 = 0 ∧ M2.1 (100 + 12 * b) 7 = 0
theorem two_ok {M : Mem} {tc a b : Int} (hI : IB M tc) (a0 : 0 ≤ a) (a1 : a < tc) (b0 : 0 ≤ b) (b1 : b < tc) : ∃ r1 M1 r2 M2, D_T_isLarge 0 (100 + 12 * a) M = some (r1, M1) ∧ D_T_isLarge 0 (100 + 12 * b) M1 = some (r2, M2) ∧ IB M1 tc ∧ FQ M M1 ∧ M1.1 (100 + 12 * a) 7 = 0 ∧ TWO M tc a b M2 ∧ r1 = M1.1 (102 + 12 * a) 12 ∧ r1 = M2.1 (102 + 12 * a) 12 ∧ r2 = M2.1 (102 + 12 * b) 12 ∧ (r1 = 0 ∨ r1 = 1) ∧ (r2 = 0 ∨ r2 = 1) := by
  obtain ⟨r1, M1, e1, hI1, hF1, er1, r01, h7, ho1, hs1⟩ := isLarge_ok hI a0 a1
  obtain ⟨r2, M2, e2, hI2, hF2, er2, r02, h7', ho2, hs2⟩ := isLarge_ok hI1 b0 b1
  have key : M2.1 (100 + 12 * a) = M1.1 (100 + 12 * a) ∧ M2.1 (102 + 12 * a) = M1.1 (102 + 12 * a) := by
    by_cases z : a = b
    · have := hs2 (by rw [← z]; exact h7)
      rw [this]; exact ⟨rfl, rfl⟩
    · exact ⟨ho2 a z a0 _ (by omega) (by omega), ho2 a z a0 _ (by omega) (by omega)⟩
  exact ⟨r1, M1, r2, M2, e1, e2, hI1, hF1, h7, ⟨hI2, hF1.tr hF2, by rw [key.1]; exact h7, h7'⟩, er1, by rw [key.2]; exact er1, er2, r01, r02⟩
theorem TG.mok {M : Mem} {k : Int} (h : TG M k) (h7 : M.1 (100 + 12 * k) 7 = 0) (h12 : M.1 (102 + 12 * k) 12 = 0) : MOK M (102 + 12 * k) := by
  rcases h with ⟨-, -, -, -, -, -, -, -, w⟩ | ⟨-, -, -, -, w, -, -⟩
  · rcases w with w | ⟨-, w⟩
    · omega
    · rcases w with w | w
      · have := w.1; omega
      · exact w.2.1
  · exact w
theorem of_both {L : Nat} {xs : Int → Int} {M : Mem} (h : Inv L xs M) (w a b : Int) : Both L xs (D_T_of 0 w a b) (D_M_of 62 w a b) M := by
  have h0 := h
  obtain ⟨tc, hI, e7, e4, hC⟩ := h
  have hB := hI.sb
  have hg := hI.sg
  have t0 := hI.tc_
  have fa := find_ok hB hI.sl e7 t0.2 a
  have fb := find_ok hB hI.sl e7 t0.2 b
  have ia := isTongue_ok hB (by rw [e4]; exact t0) a
  have ib := isTongue_ok hB (by rw [e4]; exact t0) b
  rw [e4] at ia ib
  have same : ∀ v, D_T_of 0 w a b M = some (v, M) → D_M_of 62 w a b M = some (v, M) → Both L xs (D_T_of 0 w a b) (D_M_of 62 w a b) M := fun v p q => ⟨v, M, M, p, q, hC, h0, hB⟩
  by_cases qw : 0 ≤ w ∧ w < 4
  · have w1 : ¬ w < 0 := by omega
    have w2 : ¬ 4 ≤ w := by omega
    have iw : ∀ X : Mem, D_M_in w 0 3 X = some (1, X) := fun X => by rw [in_ok, if_pos (by omega)]
    by_cases qa : 0 ≤ a ∧ a < tc
    · rw [if_pos qa] at fa ia
      have na : ¬ 100 + 12 * a < 0 := by omega
      by_cases qb : 0 ≤ b ∧ b < tc
      · rw [if_pos qb] at fb ib
        have nb : ¬ 100 + 12 * b < 0 := by omega
        by_cases t16 : tc < 16
        · have n16 : ¬ tc = 16 := by omega
          obtain ⟨r1, M1, r2, M2, d1, d2, hI1, hF1, h7, hT, er1, er1', er2, r01, r02⟩ := two_ok hI qa.1 qa.2 qb.1 qb.2
          have hB1 := hI1.sb
          have m624 : ∀ X : Mem, KR M1 X ∨ KR M2 X → X.1 62 4 = X.1 62 4 := fun _ _ => rfl
          have c1 : M1.1 62 = M.1 62 := hF1.2 62 (by decide)
          have ia1 := isTongue_ok hB1 (by rw [c1, e4]; exact t0) a
          have ib1 := isTongue_ok hB1 (by rw [c1, e4]; exact t0) b
          rw [c1, e4, if_pos qa] at ia1
          rw [c1, e4, if_pos qb] at ib1
          have f4 : M1.1 62 4 = tc := by rw [c1]; exact e4
          rcases r01 with z1 | z1
          · subst z1
            obtain ⟨hI2, hF2, fr1, fr2⟩ := hT
            have hB2 := hI2.sb
            have c2 : M2.1 62 = M.1 62 := hF2.2 62 (by decide)
            have ia2 := isTongue_ok hB2 (by rw [c2, e4]; exact t0) a
            have ib2 := isTongue_ok hB2 (by rw [c2, e4]; exact t0) b
            rw [c2, e4, if_pos qa] at ia2
            rw [c2, e4, if_pos qb] at ib2
            have f42 : M2.1 62 4 = tc := by rw [c2]; exact e4
            have sc2 := hF2.sc hC
            have hMa := (hI2.2.2.2.2.2.2.2.2.2.2 a qa.1 qa.2).mok fr1 er1'.symm
            rcases r02 with z2 | z2
            · subst z2
              have hMb := (hI2.2.2.2.2.2.2.2.2.2.2 b qb.1 qb.2).mok fr2 er2.symm
              obtain ⟨M3, e3, hN⟩ := setBoth_ok (way := wayOf w) hB2 hI2.sg.1 hMa hMb
              have k6' : 0 ≤ M2.1 (102 + 12 * b) 10 ∧ M2.1 (102 + 12 * b) 10 ≤ 6 := hMb.2.2.1.1
              have ffa := hMa.2.2.2
              have ffb := hMb.2.2.2
              have wr16 : 0 ≤ wayOf w ∧ wayOf w < 16 := by unfold wayOf; split <;> (try split) <;> (try split) <;> omega
              have ot : 0 ≤ ishl (M2.1 (102 + 12 * b) 11) 6 ∧ ishl (M2.1 (102 + 12 * b) 11) 6 < 4096 := by rw [ishl6 ffb.1 ffb.2]; omega
              have hn := hN.nt (by omega) ⟨ffa.1, by omega⟩ ot wr16
              have E3 : Env M3 := hN.env_hi hI2.sg.1 hMb ⟨ffa.1, by omega⟩ ot wr16 (fun s x y q s0 s1 q6 => by
                constructor
                · intro z
                  rcases z.2 with u | u
                  · have := u.lo hMa s0 s1 rfl; omega
                  · exact u
                · intro z
                  exact ⟨⟨s0, s1⟩, Or.inr z⟩)
              have hNf : Nf M2 M3 := ⟨hN.1, hN.2.1, hN.2.2.1⟩
              have e72 : M2.1 0 7 = tc := by rw [hF2.2 0 (by decide)]; exact e7
              obtain ⟨r, M4, e4', hK⟩ := keep_ok hI2 hNf E3 e72 t16
              have hK0 := hK
              obtain ⟨hI4, -, hFK, -⟩ := hK
              have hB4 := hI4.sb
              have sa := fun e q q' => hFK.2.2 a qa.1 qa.2 e q q'
              have sb := fun e q q' => hFK.2.2 b qb.1 qb.2 e q q'
              have c4 : M4.1 62 = M.1 62 := by rw [hFK.2.1 62 (by decide)]; exact c2
              have n41 : M4.1 1 = M2.1 1 := hFK.2.1 1 (by decide)
              have ek4 : rkC M4 = rkC M2 := rk_c n41 (hFK.2.1 2 (by decide))
              have ia4 := isTongue_ok hB4 (by rw [c4, e4]; exact t0) a
              have ib4 := isTongue_ok hB4 (by rw [c4, e4]; exact t0) b
              rw [c4, e4, if_pos qa] at ia4
              rw [c4, e4, if_pos qb] at ib4
              have f44 : M4.1 62 4 = tc := by rw [c4]; exact e4
              have l4 : M4.1 (102 + 12 * a) 12 = 0 := by rw [sa _ (by omega) (by omega)]; exact er1'.symm
              have l4' : M4.1 (102 + 12 * b) 12 = 0 := by rw [sb _ (by omega) (by omega)]; exact er2.symm
              obtain ⟨Ya, r', Yb, g1, g2, hBa, hIb, hKR, f4b, -, hok⟩ := load2_ok hI4 qa.1 qa.2 qb.1 qb.2 (by rw [sa _ (by omega) (by omega)]; exact fr1) (by rw [sb _ (by omega) (by omega)]; exact fr2) l4 (Or.inl l4')
              obtain ⟨z', hE, hE', hW, hW'⟩ := hok l4'
              subst z'
              rw [n41, ek4, mch_c ek4 (fun e q q' => sa e (by omega) (by omega))] at hE
              rw [n41, ek4, mch_c ek4 (fun e q q' => sb e (by omega) (by omega))] at hE'
              have hBb := hIb.sb
              have sc4 : SC L xs M4 := ⟨by rw [hFK.1 _ (by omega)]; exact sc2.1, by rw [hFK.2.1 _ (by omega)]; exact sc2.2⟩
              -- the mode
              have hIN : IB (up (up Yb 62 20 1) 62 21 w) tc := (hIb.f62 (by decide)).f62 (by decide)
              have hKN : KR M4 (up (up Yb 62 20 1) 62 21 w) := (hKR.up (by decide)).up (by decide)
              have f20 : (up (up Yb 62 20 1) 62 21 w).1 62 20 = 1 := by simp [-Option.bind_some, -Option.bind_none, gf, pf, rd, wt, ck, ln, lt, bz, nq, up_1, up_2, obs, obn]
              have f21 : (up (up Yb 62 20 1) 62 21 w).1 62 21 = w := by simp [-Option.bind_some, -Option.bind_none, gf, pf, rd, wt, ck, ln, lt, bz, nq, up_1, up_2, obs, obn]
              have f4N : (up (up Yb 62 20 1) 62 21 w).1 62 4 = tc := by simp [-Option.bind_some, -Option.bind_none, gf, pf, rd, wt, ck, ln, lt, bz, nq, up_1, up_2, obs, obn, f4b, f44]
              have oN : ∀ e, e ≠ 62 → (up (up Yb 62 20 1) 62 21 w).1 e = Yb.1 e := fun e q => by rw [up_n q, up_n q]
              have run : D_M_of 62 w a b M4 = (D_M_newTongue 62 (up (up Yb 62 20 1) 62 21 w)).bind fun x77 => some (x77.1, x77.2) := by
                unfold D_M_of
                simp [-Option.bind_some, -Option.bind_none, gf, pf, rd, wt, ck, ln, lt, bz, nq, up_1, up_2, obs, obn, iw, hB4.m_, ia4, ib4, f44, n16, g1, hBa.m_, g2, hBb.m_]
              generalize up (up Yb 62 20 1) 62 21 w = N at *
              have nN : N.1 1 = M2.1 1 := by rw [hKN.2 1 (by decide)]; exact n41
              have ekN : rkC N = rkC M2 := (rk_c (hKN.2 1 (by decide)) (hKN.2 2 (by decide))).trans ek4
              have k6a : mN (mch M2 (102 + 12 * a)) ≤ 6 := hMa.2.2.1.1.2
              have k6b : mN (mch M2 (102 + 12 * b)) ≤ 6 := hMb.2.2.1.1.2
              have n26 := hI2.sg.1.2.1
              have hEN := hE.cr (M' := N) n26 k6a (by rw [oN 73 (by decide)]) (fun j _ _ => by rw [oN 74 (by decide)]) (fun e c q q' _ _ => by rw [oN e (by omega)])
              have hEN' := hE'.cr (M' := N) n26 k6b (by rw [oN 73 (by decide)]) (fun j _ _ => by rw [oN 74 (by decide)]) (fun e c q q' _ _ => by rw [oN e (by omega)])
              have hWN := hEN.mw hMa.2.2.1
              have hWN' := hEN'.mw hMb.2.2.1
              have ra := (ra1 hIN.rc (by rw [nN, ekN]; exact hWN) (by rw [nN, ekN]; exact hWN') f20).1
              obtain ⟨M5, e5, hInv⟩ := made_end t16 hK0 hIN hKN f4N ra (fun z c j => acN_of qw.1 qw.2 hMa hMb hn hN.2.2.2.1.2.1 hN.2.2.2.1.2.2.1 hN.2.2.2.1.2.2.2 hIN.2.2.2.2.2.2.2.2.1 f21 hEN hEN' (joint1 hI2.sg.1 hMa hMb hn hN ekN hEN hEN' j)) (hKN.sc sc4)
              refine ⟨r, M4, M5, ?_, ?_, sc4, hInv, hB4⟩
              · have ats := hI2.sl.at qa.1 qa.2
                have bts := hI2.sl.at qb.1 qb.2
                have u1 : M2.1 (100 + 12 * a) 1 = 102 + 12 * a := by rw [ats.2.1.2.2.2.1]; omega
                have u2 : M2.1 (100 + 12 * b) 1 = 102 + 12 * b := by rw [bts.2.1.2.2.2.1]; omega
                have u3 := ats.2.1.1
                have u4 := bts.2.1.1
                have wvv := wv_ok qw.1 qw.2
                have hBn := hN.2.2.1
                clear ats bts
                unfold D_T_of
                simp [-Option.bind_some, -Option.bind_none, gf, pf, rd, wt, ck, ln, lt, bz, nq, up_1, up_2, obs, obn, hB.t_, fa, fb, w1, w2, na, nb, e7, t16, d1, hB1.t_, d2, hB2.t_, u1, u2, u3, u4, wvv, hB2.n_, e3, hBn.t_, e4']
              · rw [run, e5, obs]
            · subst z2
              obtain ⟨Ya, r', Yb, g1, g2, hBa, hIb, hKR, f4b, hlg, -⟩ := load2_ok hI2 qa.1 qa.2 qb.1 qb.2 fr1 fr2 er1'.symm (Or.inr er2.symm)
              have z' := hlg er2.symm
              subst z'
              refine ⟨-5, M2, Yb, ?_, ?_, sc2, ⟨tc, hIb, ?_, by rw [f4b]; exact f42, hKR.sc sc2⟩, hB2⟩
              · unfold D_T_of
                simp [-Option.bind_some, -Option.bind_none, gf, pf, rd, wt, ck, ln, lt, bz, nq, up_1, up_2, obs, obn, hB.t_, fa, fb, w1, w2, na, nb, e7, t16, d1, hB1.t_, d2]
              · unfold D_M_of
                simp [-Option.bind_some, -Option.bind_none, gf, pf, rd, wt, ck, ln, lt, bz, nq, up_1, up_2, obs, obn, iw, hB2.m_, ia2, ib2, f42, n16, g1, hBa.m_, g2]
              · rw [hKR.2 0 (by decide), hF2.2 0 (by decide)]; exact e7
          · subst z1
            obtain ⟨r', Ma, da, hIa, hKa, hra⟩ := load_k_ok (m := 16) hI1 qa.1 qa.2 h7 (Or.inl rfl)
            have sc1 := hF1.sc hC
            have er' : r' = -5 := by
              rcases hra with q | q
              · exact q.1
              · have := q.2.1; omega
            subst er'
            refine ⟨-5, M1, Ma, ?_, ?_, sc1, ⟨tc, hIa, ?_, ?_, hKa.sc sc1⟩, hB1⟩
            · unfold D_T_of
              simp [-Option.bind_some, -Option.bind_none, gf, pf, rd, wt, ck, ln, lt, bz, nq, up_1, up_2, obs, obn, hB.t_, fa, fb, w1, w2, na, nb, e7, t16, d1]
            · unfold D_M_of
              simp [-Option.bind_some, -Option.bind_none, gf, pf, rd, wt, ck, ln, lt, bz, nq, up_1, up_2, obs, obn, iw, hB1.m_, ia1, ib1, f4, n16, da]
            · rw [hKa.2.1 0 (by decide) (by decide), hF1.2 0 (by decide)]; exact e7
            · rw [hKa.2.2.1 4 (by decide) (by decide) (by decide) (by decide)]; exact f4
        · have n16 : tc = 16 := by omega
          refine same (-4) ?_ ?_
          · unfold D_T_of
            simp [-Option.bind_some, -Option.bind_none, gf, pf, rd, wt, ck, ln, lt, bz, nq, up_1, up_2, obs, obn, hB.t_, fa, fb, w1, w2, na, nb, e7, t16]
          · unfold D_M_of
            simp [-Option.bind_some, -Option.bind_none, gf, pf, rd, wt, ck, ln, lt, bz, nq, up_1, up_2, obs, obn, iw, hB.m_, ia, ib, e4, n16]
      · rw [if_neg qb] at fb ib
        refine same (-2) ?_ ?_
        · unfold D_T_of
          simp [-Option.bind_some, -Option.bind_none, gf, pf, rd, wt, ck, ln, lt, bz, nq, up_1, up_2, obs, obn, hB.t_, fa, fb, w1, w2, na]
        · unfold D_M_of
          simp [-Option.bind_some, -Option.bind_none, gf, pf, rd, wt, ck, ln, lt, bz, nq, up_1, up_2, obs, obn, iw, hB.m_, ia, ib]
    · rw [if_neg qa] at fa ia
      refine same (-2) ?_ ?_
      · unfold D_T_of
        simp [-Option.bind_some, -Option.bind_none, gf, pf, rd, wt, ck, ln, lt, bz, nq, up_1, up_2, obs, obn, hB.t_, fa, fb, w1, w2]
      · unfold D_M_of
        simp [-Option.bind_some, -Option.bind_none, gf, pf, rd, wt, ck, ln, lt, bz, nq, up_1, up_2, obs, obn, iw, hB.m_, ia]
  · have iw : D_M_in w 0 3 M = some (0, M) := by rw [in_ok, if_neg (by omega)]
    refine same (-2) ?_ ?_
    · unfold D_T_of
      by_cases w1 : w < 0
      · simp [-Option.bind_some, -Option.bind_none, gf, pf, rd, wt, ck, ln, lt, bz, nq, up_1, up_2, obs, obn, hB.t_, fa, fb, w1]
      · have w2 : 4 ≤ w := by omega
        simp [-Option.bind_some, -Option.bind_none, gf, pf, rd, wt, ck, ln, lt, bz, nq, up_1, up_2, obs, obn, hB.t_, fa, fb, w1, w2]
    · unfold D_M_of
      simp [-Option.bind_some, -Option.bind_none, gf, pf, rd, wt, ck, ln, lt, bz, nq, up_1, up_2, obs, obn, iw]
