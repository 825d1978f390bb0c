/-! the two automata go together -/
theorem NS.rk {N M : Mem} {st one oth way : Int} {T : Int → Int → Int → Int → Prop} (h : NS N M st one oth way T) : rkC M = rkC N := by
  funext s
  unfold rkC
  rw [h.2.1 1 (by decide) (by decide), h.2.1 2 (by decide) (by decide)]
theorem NS.n1 {N M : Mem} {st one oth way : Int} {T : Int → Int → Int → Int → Prop} (h : NS N M st one oth way T) : M.1 1 1 = N.1 1 1 := by rw [h.2.1 1 (by decide) (by decide)]
theorem NS.sg {N M : Mem} {st one oth way : Int} {T : Int → Int → Int → Int → Prop} (h : NS N M st one oth way T) (hg : SgOk N) : SgOk M := by
  unfold SgOk
  rw [h.2.1 1 (by decide) (by decide), h.2.1 2 (by decide) (by decide)]
  exact hg
theorem NS.nt {N M : Mem} {st one oth way : Int} {T : Int → Int → Int → Int → Prop} (h : NS N M st one oth way T) (hs : 0 ≤ st ∧ st ≤ 12) (h1 : 0 ≤ one ∧ one < 4096) (h2 : 0 ≤ oth ∧ oth < 4096) (h3 : 0 ≤ way ∧ way < 16) : NtOk M := by
  obtain ⟨-, -, -, ⟨e1, e2, e3, e4⟩, hi, -⟩ := h
  unfold NtOk
  rw [e1, e2, e3, e4]
  exact ⟨hs.1, hs.2, hi, h1, h2, h3⟩
theorem NS.dn {N M : Mem} {st one oth way : Int} {T : Int → Int → Int → Int → Prop} (h : NS N M st one oth way T) (hg : SgOk N) (hs : 0 ≤ st ∧ st ≤ 12) (hn : NtOk M) {s x y : Int} (s0 : 0 ≤ s) (s1 : s < N.1 1 1) (hx : 1 ≤ rkC N s → vs M x) (hy : 2 ≤ rkC N s → vs M y) : vs M (dN M s x y) ∧ ∀ q, 0 ≤ q → (bt (dN M s x y) q ↔ ∃ a b, AB (rkC N) st s x y a b ∧ T s a b q) := by
  have hgM := h.sg hg
  have n6 := hg.2.1
  have hs6 : 0 ≤ s ∧ s < 6 := ⟨s0, by omega⟩
  refine ⟨dN_v hn hs6 (by rw [h.rk]; exact hx) (by rw [h.rk]; exact hy), fun q q0 => ?_⟩
  rw [dN_b hn hgM hs6 (by rw [h.rk]; exact hx) (by rw [h.rk]; exact hy), h.rk, h.2.2.2.1.1]
  have key : ∀ a b, AB (rkC N) st s x y a b → (bt (M.1 9 (cel (rkC N s) s a b 12)) q ↔ T s a b q) := by
    intro a b ⟨a1, a2, a3, a4⟩
    refine h.2.2.2.2.2 s a b s0 (by omega) ?_ ?_ ?_ ?_ a2 a4 q q0
    · by_cases w : 1 ≤ rkC N s
      · exact (a1 w).1
      · have := a2 w; omega
    · by_cases w : 1 ≤ rkC N s
      · have := a1 w; omega
      · have := a2 w; omega
    · by_cases w : 2 ≤ rkC N s
      · exact (a3 w).1
      · have := a4 w; omega
    · by_cases w : 2 ≤ rkC N s
      · have := a3 w; omega
      · have := a4 w; omega
  constructor
  · intro ⟨a, b, hab, w⟩
    exact ⟨a, b, hab, (key a b hab).mp w⟩
  · intro ⟨a, b, hab, w⟩
    exact ⟨a, b, hab, (key a b hab).mpr w⟩
/-- one class alone in a window -/
theorem we_single {A : Mem} {p base s1 s st X Y cx cy q : Int} (k6 : A.1 p 10 ≤ 6) (hst : base + A.1 p 10 ≤ st) (b0 : 0 ≤ base) (hX : 1 ≤ rkC A s → (0 ≤ cx ∧ cx < A.1 p 10) ∧ ∀ x0, 0 ≤ x0 → x0 < 6 → (bt X (base + x0) ↔ x0 = cx)) (hX0 : ¬ 1 ≤ rkC A s → cx = 0) (hY : 2 ≤ rkC A s → (0 ≤ cy ∧ cy < A.1 p 10) ∧ ∀ x0, 0 ≤ x0 → x0 < 6 → (bt Y (base + x0) ↔ x0 = cy)) (hY0 : ¬ 2 ≤ rkC A s → cy = 0) : (∃ a b, AB (rkC A) st s X Y a b ∧ WE A p base s1 s a b q) ↔ q = base + mT (mch A p) s1 cx cy := by
  constructor
  · intro ⟨a, b, ⟨a1, a2, a3, a4⟩, x0, y0, hA, w1, w2, w3⟩
    have ex : x0 = cx := by
      by_cases w : 1 ≤ rkC A s
      · have u := hA.1 w
        have v := (a1 w).2.2
        rw [w1 w] at v
        exact ((hX w).2 x0 u.1 (by omega)).mp v
      · rw [hA.2.1 w, hX0 w]
    have ey : y0 = cy := by
      by_cases w : 2 ≤ rkC A s
      · have u := hA.2.2.1 w
        have v := (a3 w).2.2
        rw [w2 w] at v
        exact ((hY w).2 y0 u.1 (by omega)).mp v
      · rw [hA.2.2.2 w, hY0 w]
    rw [w3, ex, ey]
  · intro e
    refine ⟨if 1 ≤ rkC A s then base + cx else 0, if 2 ≤ rkC A s then base + cy else 0, ⟨fun w => ?_, fun w => if_neg w, fun w => ?_, fun w => if_neg w⟩, cx, cy, ⟨fun w => (hX w).1, hX0, fun w => (hY w).1, hY0⟩, fun w => if_pos w, fun w => if_pos w, e⟩
    · rw [if_pos w]
      have u := (hX w).1
      exact ⟨by omega, by omega, ((hX w).2 cx u.1 (by omega)).mpr rfl⟩
    · rw [if_pos w]
      have u := (hY w).1
      exact ⟨by omega, by omega, ((hY w).2 cy u.1 (by omega)).mpr rfl⟩
theorem iand_ne {z w : Int} (z0 : 0 ≤ z) (z1 : z < 4096) (w0 : 0 ≤ w) (w1 : w < 4096) : iand z w ≠ 0 ↔ ∃ i, 0 ≤ i ∧ bt z i ∧ bt w i := by
  have r := iand_r z0 (show z < 2147483648 by omega) w0
  rw [bt_ne0 (k := 12) r.1 (by have := r.2.1; omega)]
  constructor
  · intro ⟨i, i0, i1, h⟩
    exact ⟨i, i0, (bt_and z0 (by omega) w0).mp h⟩
  · intro ⟨i, i0, h⟩
    exact ⟨i, i0, bt_lt (k := 12) z0 z1 h.1 i0, (bt_and z0 (by omega) w0).mpr h⟩
theorem iand_z {z : Int} (z0 : 0 ≤ z) (z1 : z < 4096) : iand z 0 = 0 := by
  refine Classical.byContradiction fun h => ?_
  obtain ⟨i, -, -, w⟩ := (iand_ne z0 z1 (by decide) (by decide)).mp h
  exact bt_zero i w
theorem w10 : iand (ishr 10 0) 1 = 0 ∧ iand (ishr 10 1) 1 = 1 := by decide
theorem w5 : iand (ishr 5 0) 1 = 1 ∧ iand (ishr 5 1) 1 = 0 := by decide
theorem ac_10 {M : Mem} {z : Int} (z0 : 0 ≤ z) (z1 : z < 4096) (h4 : M.1 8 4 = 0) (h5 : M.1 8 5 = 10) : acN M z = 1 ↔ iand z (M.1 8 3) ≠ 0 := by
  unfold acN
  rw [h4, h5, iand_z z0 z1, if_pos rfl]
  by_cases q : iand z (M.1 8 3) = 0
  · rw [if_pos q, show (0 : Int) + 0 = 0 from rfl, w10.1, if_pos rfl]
    exact ⟨fun h => by omega, fun h => absurd q h⟩
  · rw [if_neg q, show (1 : Int) + 0 = 1 from rfl, w10.2, if_neg (by decide)]
    exact ⟨fun _ => q, fun _ => rfl⟩
theorem ac_5 {M : Mem} {z : Int} (z0 : 0 ≤ z) (z1 : z < 4096) (h4 : M.1 8 4 = 0) (h5 : M.1 8 5 = 5) : acN M z = 1 ↔ iand z (M.1 8 3) = 0 := by
  unfold acN
  rw [h4, h5, iand_z z0 z1, if_pos rfl]
  by_cases q : iand z (M.1 8 3) = 0
  · rw [if_pos q, show (0 : Int) + 0 = 0 from rfl, w5.1, if_neg (by decide)]
    exact ⟨fun _ => q, fun _ => rfl⟩
  · rw [if_neg q, show (1 : Int) + 0 = 1 from rfl, w5.2, if_pos rfl]
    exact ⟨fun h => by omega, fun h => absurd h q⟩
/-! singles -/
def R2 (M : Mem) (c a b : Int) : Prop := (0 ≤ b ∧ b < c) ∧ vs M a ∧ ∀ q, 0 ≤ q → (bt a q ↔ q = b)
theorem joint2 {N0 M N : Mem} {p one oth way : Int} {φ : Int → Int} (hg : SgOk N0) (hM : MOK N0 p) (hn : NtOk M) (hS : NS N0 M (N0.1 p 10) one oth way (fun s a b q => (0 ≤ s ∧ s < N0.1 1 1) ∧ WE N0 p 0 (φ s) s a b q)) (en : N.1 1 1 = N0.1 1 1) (ek : rkC N = rkC N0) (hE : Eqm (N0.1 1 1) (rkC N0) (mch N0 p) (mchR N 16)) (hφ : ∀ s, 0 ≤ s → s < N0.1 1 1 → (0 ≤ φ s ∧ φ s < N0.1 1 1) ∧ rkC N0 (φ s) = rkC N0 s ∧ mpf (N.1 62 23) s = φ s) {a b : Int} (hJ : Jn (N0.1 1 1) (rkC N0) (dN M) (rX N (nx2 N)) a b) : R2 M (N0.1 p 10) a b := by
  have k6 : 0 ≤ N0.1 p 10 ∧ N0.1 p 10 ≤ 6 := hM.2.2.1.1
  refine hJ (R2 M (N0.1 p 10)) ?_
  intro s x y u v s0 s1 hx hy
  have ph := hφ s s0 s1
  obtain ⟨hv, hb⟩ := hS.dn hg (by omega) hn s0 s1 (fun q => (hx q).2.1) (fun q => (hy q).2.1)
  have hA : Arg (rkC N0) (N0.1 p 10) s (if 1 ≤ rkC N0 s then u else 0) (if 2 ≤ rkC N0 s then v else 0) := argx (fun q => by rw [if_pos q]; exact (hx q).1) (fun q => by rw [if_pos q]; exact (hy q).1) (fun q => if_neg q) (fun q => if_neg q)
  have hA' := arg_rk ph.2.1 hA
  have t := hM.2.2.1.2 _ _ _ ph.1.1 ph.1.2 hA'
  have em : mN (mch N0 p) = N0.1 p 10 := rfl
  rw [em] at t
  have e : rX N (nx2 N) s u v = mT (mch N0 p) (φ s) (if 1 ≤ rkC N0 s then u else 0) (if 2 ≤ rkC N0 s then v else 0) := by
    unfold rX nx2
    rw [ek, ph.2.2]
    exact (hE.2.2 _ _ _ ph.1.1 ph.1.2 (by rw [em]; exact hA')).symm
  rw [e]
  refine ⟨t, hv, fun q q0 => ?_⟩
  rw [hb q q0]
  have w := we_single (A := N0) (p := p) (base := 0) (s1 := φ s) (s := s) (st := N0.1 p 10) (X := x) (Y := y) (cx := if 1 ≤ rkC N0 s then u else 0) (cy := if 2 ≤ rkC N0 s then v else 0) (q := q) k6.2 (by omega) (Int.le_refl 0) (fun r => by
    rw [if_pos r]
    exact ⟨(hx r).1, fun x0 h0 h1 => by rw [Int.zero_add]; exact (hx r).2.2 x0 h0⟩) (fun r => if_neg r) (fun r => by
    rw [if_pos r]
    exact ⟨(hy r).1, fun x0 h0 h1 => by rw [Int.zero_add]; exact (hy r).2.2 x0 h0⟩) (fun r => if_neg r)
  rw [Int.zero_add] at w
  rw [← w]
  constructor
  · intro ⟨a, b, hab, _, z⟩
    exact ⟨a, b, hab, z⟩
  · intro ⟨a, b, hab, z⟩
    exact ⟨a, b, hab, ⟨s0, s1⟩, z⟩
theorem vs_4096 {M : Mem} (hn : NtOk M) {z : Int} (h : vs M z) : 0 ≤ z ∧ z < 4096 := ⟨h.1, val12 hn h.2⟩
/-- a single has a final class, or not -/
theorem single_and {M : Mem} (hn : NtOk M) {c a b w : Int} (h : R2 M c a b) (w0 : 0 ≤ w) (w1 : w < 4096) : iand a w ≠ 0 ↔ bt w b := by
  have r := vs_4096 hn h.2.1
  rw [iand_ne r.1 r.2 w0 w1]
  constructor
  · intro ⟨i, i0, h1, h2⟩
    rw [(h.2.2 i i0).mp h1] at h2
    exact h2
  · intro q
    exact ⟨b, h.1.1, (h.2.2 b h.1.1).mpr rfl, q⟩
theorem Cd.id {R : Int → Prop} (h : ∀ z, R z → 0 ≤ z ∧ z < 384) : Cd R := ⟨fun z => z, h, fun _ _ _ _ e => e⟩
theorem vs_64 {M : Mem} {z : Int} (h : vs M z) (hs : M.1 8 2 ≤ 6) : 0 ≤ z ∧ z < 64 := by
  refine ⟨h.1, ?_⟩
  have : (2 : Int) ^ (M.1 8 2).toNat ≤ 2 ^ 6 := by
    rw [← p2i, ← p2i]
    have := Nat.pow_le_pow_right (show 0 < 2 by decide) (show (M.1 8 2).toNat ≤ 6 by omega)
    omega
  have := h.2
  omega
/-- a net of few states -/
theorem NS.env6 {N M : Mem} {st one oth way : Int} {T : Int → Int → Int → Int → Prop} (h : NS N M st one oth way T) (hg : SgOk N) (hs : 0 ≤ st ∧ st ≤ 6) (h1 : 0 ≤ one ∧ one < 4096) (h2 : 0 ≤ oth ∧ oth < 4096) (h3 : 0 ≤ way ∧ way < 16) : Env M := by
  have hn := h.nt ⟨hs.1, by omega⟩ h1 h2 h3
  have hgM := h.sg hg
  refine ⟨hn, hgM, Cd.id (fun z hz => ?_), h.2.2.1⟩
  have := vs_64 (rch_vs hn hgM hz) (by rw [h.2.2.2.1.1]; exact hs.2)
  omega
/-! of two -/
def R1 (M : Mem) (c1 c2 a b : Int) : Prop := ∃ x y, (0 ≤ x ∧ x < c1) ∧ (0 ≤ y ∧ y < c2) ∧ b = 8 * x + y ∧ vs M a ∧ ∀ q, 0 ≤ q → (bt a q ↔ q = x ∨ q = 6 + y)
theorem joint1 {N0 M N : Mem} {p p' one oth way : Int} (hg : SgOk N0) (hM : MOK N0 p) (hM' : MOK N0 p') (hn : NtOk M) (hS : NS N0 M (6 + N0.1 p' 10) one oth way (fun s a b q => (0 ≤ s ∧ s < N0.1 1 1) ∧ (WE N0 p 0 s s a b q ∨ WE N0 p' 6 s s a b q))) (ek : rkC N = rkC N0) (hE : Eqm (N0.1 1 1) (rkC N0) (mch N0 p) (mchR N 16)) (hE' : Eqm (N0.1 1 1) (rkC N0) (mch N0 p') (mchR N 17)) {a b : Int} (hJ : Jn (N0.1 1 1) (rkC N0) (dN M) (rX N (nx1 N)) a b) : R1 M (N0.1 p 10) (N0.1 p' 10) a b := by
  have k6 : 0 ≤ N0.1 p 10 ∧ N0.1 p 10 ≤ 6 := hM.2.2.1.1
  have k6' : 0 ≤ N0.1 p' 10 ∧ N0.1 p' 10 ≤ 6 := hM'.2.2.1.1
  refine hJ (R1 M (N0.1 p 10) (N0.1 p' 10)) ?_
  intro s x y u v s0 s1 hx hy
  have ex : ∃ xc xd, (1 ≤ rkC N0 s → (0 ≤ xc ∧ xc < N0.1 p 10) ∧ (0 ≤ xd ∧ xd < N0.1 p' 10) ∧ u = 8 * xc + xd ∧ vs M x ∧ ∀ q, 0 ≤ q → (bt x q ↔ q = xc ∨ q = 6 + xd)) ∧ (¬ 1 ≤ rkC N0 s → xc = 0 ∧ xd = 0) := by
    by_cases q : 1 ≤ rkC N0 s
    · obtain ⟨xc, xd, w⟩ := hx q
      exact ⟨xc, xd, fun _ => w, fun h => absurd q h⟩
    · exact ⟨0, 0, fun h => absurd h q, fun _ => ⟨rfl, rfl⟩⟩
  have ey : ∃ yc yd, (2 ≤ rkC N0 s → (0 ≤ yc ∧ yc < N0.1 p 10) ∧ (0 ≤ yd ∧ yd < N0.1 p' 10) ∧ v = 8 * yc + yd ∧ vs M y ∧ ∀ q, 0 ≤ q → (bt y q ↔ q = yc ∨ q = 6 + yd)) ∧ (¬ 2 ≤ rkC N0 s → yc = 0 ∧ yd = 0) := by
    by_cases q : 2 ≤ rkC N0 s
    · obtain ⟨xc, xd, w⟩ := hy q
      exact ⟨xc, xd, fun _ => w, fun h => absurd q h⟩
    · exact ⟨0, 0, fun h => absurd h q, fun _ => ⟨rfl, rfl⟩⟩
  obtain ⟨xc, xd, hxc, hx0⟩ := ex
  obtain ⟨yc, yd, hyc, hy0⟩ := ey
  obtain ⟨hv, hb⟩ := hS.dn hg (by omega) hn s0 s1 (fun q => (hxc q).2.2.2.1) (fun q => (hyc q).2.2.2.1)
  have hA : Arg (rkC N0) (N0.1 p 10) s xc yc := argx (fun q => (hxc q).1) (fun q => (hyc q).1) (fun q => (hx0 q).1) (fun q => (hy0 q).1)
  have hA' : Arg (rkC N0) (N0.1 p' 10) s xd yd := argx (fun q => (hxc q).2.1) (fun q => (hyc q).2.1) (fun q => (hx0 q).2) (fun q => (hy0 q).2)
  have em : mN (mch N0 p) = N0.1 p 10 := rfl
  have em' : mN (mch N0 p') = N0.1 p' 10 := rfl
  have t := hM.2.2.1.2 _ _ _ s0 s1 hA
  have t' := hM'.2.2.1.2 _ _ _ s0 s1 hA'
  rw [em] at t
  rw [em'] at t'
  have dx : (if 1 ≤ rkC N0 s then u else 0) / 8 = xc ∧ (if 1 ≤ rkC N0 s then u else 0) % 8 = xd := by
    by_cases q : 1 ≤ rkC N0 s
    · rw [if_pos q]; have := hxc q; omega
    · rw [if_neg q]; have := hx0 q; omega
  have dy : (if 2 ≤ rkC N0 s then v else 0) / 8 = yc ∧ (if 2 ≤ rkC N0 s then v else 0) % 8 = yd := by
    by_cases q : 2 ≤ rkC N0 s
    · rw [if_pos q]; have := hyc q; omega
    · rw [if_neg q]; have := hy0 q; omega
  have e : rX N (nx1 N) s u v = 8 * mT (mch N0 p) s xc yc + mT (mch N0 p') s xd yd := by
    unfold rX nx1
    rw [ek, dx.1, dx.2, dy.1, dy.2, hE.2.2 _ _ _ s0 s1 (by rw [em]; exact hA), hE'.2.2 _ _ _ s0 s1 (by rw [em']; exact hA')]
  rw [e]
  refine ⟨_, _, t, t', rfl, hv, fun q q0 => ?_⟩
  rw [hb q q0]
  have w1 := we_single (A := N0) (p := p) (base := 0) (s1 := s) (s := s) (st := 6 + N0.1 p' 10) (X := x) (Y := y) (cx := xc) (cy := yc) (q := q) k6.2 (by omega) (Int.le_refl 0) (fun r => ⟨(hxc r).1, fun x0 h0 h1 => by
    rw [Int.zero_add, (hxc r).2.2.2.2 x0 h0]
    omega⟩) (fun r => (hx0 r).1) (fun r => ⟨(hyc r).1, fun x0 h0 h1 => by
    rw [Int.zero_add, (hyc r).2.2.2.2 x0 h0]
    omega⟩) (fun r => (hy0 r).1)
  have w2 := we_single (A := N0) (p := p') (base := 6) (s1 := s) (s := s) (st := 6 + N0.1 p' 10) (X := x) (Y := y) (cx := xd) (cy := yd) (q := q) k6'.2 (Int.le_refl _) (by decide) (fun r => ⟨(hxc r).2.1, fun x0 h0 h1 => by
    have := (hxc r).1
    rw [(hxc r).2.2.2.2 (6 + x0) (by omega)]
    omega⟩) (fun r => (hx0 r).2) (fun r => ⟨(hyc r).2.1, fun x0 h0 h1 => by
    have := (hyc r).1
    rw [(hyc r).2.2.2.2 (6 + x0) (by omega)]
    omega⟩) (fun r => (hy0 r).2)
  rw [Int.zero_add] at w1
  rw [← w1, ← w2]
  constructor
  · intro ⟨a, b, hab, _, z⟩
    rcases z with z | z
    · exact Or.inl ⟨a, b, hab, z⟩
    · exact Or.inr ⟨a, b, hab, z⟩
  · intro z
    rcases z with ⟨a, b, hab, z⟩ | ⟨a, b, hab, z⟩
    · exact ⟨a, b, hab, ⟨s0, s1⟩, Or.inl z⟩
    · exact ⟨a, b, hab, ⟨s0, s1⟩, Or.inr z⟩
/-- a code for sets with one class above -/
def lg6 (w : Int) : Int := if w < 2 then 0 else if w < 4 then 1 else if w < 8 then 2 else if w < 16 then 3 else if w < 32 then 4 else 5
theorem hi_pow {z c : Int} (z0 : 0 ≤ z) (z1 : z < 4096) (c0 : 0 ≤ c) (c1 : c < 6) (h : ∀ q, 6 ≤ q → (bt z q ↔ q = 6 + c)) : z / 64 = 2 ^ c.toNat := by
  have p := pow_r (k := c.toNat) (j := 6) (by omega)
  refine bt_ext (k := 6) (by omega) (by omega) p.1 p.2 (fun i i0 i1 => ?_)
  rw [bt_hi z0 i0, h (i + 6) (by omega), ← ishl1 c0 (by omega), bt_shl c0 (by omega) i0]
  omega
theorem Cd.hi {R : Int → Prop} (h : ∀ z, R z → (0 ≤ z ∧ z < 4096) ∧ ∃ c : Int, 0 ≤ c ∧ c < 6 ∧ z / 64 = 2 ^ c.toNat) : Cd R := by
  have key : ∀ z, R z → z / 64 = 1 ∨ z / 64 = 2 ∨ z / 64 = 4 ∨ z / 64 = 8 ∨ z / 64 = 16 ∨ z / 64 = 32 := by
    intro z hz
    obtain ⟨-, c, c0, c1, e⟩ := h z hz
    have : c = 0 ∨ c = 1 ∨ c = 2 ∨ c = 3 ∨ c = 4 ∨ c = 5 := by omega
    rcases this with q | q | q | q | q | q <;> subst q <;> rw [e] <;> decide
  refine ⟨fun z => (z % 64) * 6 + lg6 (z / 64), fun z hz => ?_, fun z w hz hw e => ?_⟩
  · have k := key z hz
    have := (h z hz).1
    show 0 ≤ (z % 64) * 6 + lg6 (z / 64) ∧ (z % 64) * 6 + lg6 (z / 64) < 384
    unfold lg6
    rcases k with k | k | k | k | k | k <;> rw [k] <;> simp <;> omega
  · have e : (z % 64) * 6 + lg6 (z / 64) = (w % 64) * 6 + lg6 (w / 64) := e
    have kz := key z hz
    have kw := key w hw
    unfold lg6 at e
    rcases kz with k | k | k | k | k | k <;> rcases kw with k' | k' | k' | k' | k' | k' <;> rw [k, k'] at e <;> simp at e <;> omega
