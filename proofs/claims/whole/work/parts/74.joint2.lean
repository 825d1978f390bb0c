/-! the two automata go together: sets, within, grafted, told -/
theorem we_sets {A : Mem} {p s1 s st X Y q : Int} (hst : A.1 p 10 ≤ st) : (∃ a b, AB (rkC A) st s X Y a b ∧ WE A p 0 s1 s a b q) ↔ ∃ x0 y0, Arg (rkC A) (A.1 p 10) s x0 y0 ∧ (1 ≤ rkC A s → bt X x0) ∧ (2 ≤ rkC A s → bt Y y0) ∧ q = mT (mch A p) s1 x0 y0 := by
  constructor
  · intro ⟨a, b, ⟨a1, a2, a3, a4⟩, x0, y0, hA, w1, w2, w3⟩
    rw [Int.zero_add] at w3
    refine ⟨x0, y0, hA, fun w => ?_, fun w => ?_, w3⟩
    · have v := (a1 w).2.2
      rw [w1 w, Int.zero_add] at v
      exact v
    · have v := (a3 w).2.2
      rw [w2 w, Int.zero_add] at v
      exact v
  · intro ⟨x0, y0, hA, w1, w2, w3⟩
    refine ⟨x0, y0, ⟨fun w => ?_, hA.2.1, fun w => ?_, hA.2.2.2⟩, x0, y0, hA, fun _ => by omega, fun _ => by omega, by omega⟩
    · have := hA.1 w
      exact ⟨this.1, by omega, w1 w⟩
    · have := hA.2.2.1 w
      exact ⟨this.1, by omega, w2 w⟩
theorem argE {n : Int} {rk : Int → Int} {m m' : Mch} (h : Eqm n rk m m') {s x y : Int} : Arg rk (mN m) s x y ↔ Arg rk (mN m') s x y := by rw [h.1]
/-- what a sign makes of sets, on both sides -/
theorem bySt_b {N0 N : Mem} {p s x y q : Int} (hM : MOK N0 p) (ek : rkC N = rkC N0) (hE : Eqm (N0.1 1 1) (rkC N0) (mch N0 p) (mchR N 16)) (s0 : 0 ≤ s) (s1 : s < N0.1 1 1) (q0 : 0 ≤ q) : bt (bySt N s x y) q ↔ ∃ x0 y0, Arg (rkC N0) (N0.1 p 10) s x0 y0 ∧ (1 ≤ rkC N0 s → bt x x0) ∧ (2 ≤ rkC N0 s → bt y y0) ∧ q = mT (mch N0 p) s x0 y0 := by
  have k6 : 0 ≤ N0.1 p 10 ∧ N0.1 p 10 ≤ 6 := hM.2.2.1.1
  have em : mN (mch N0 p) = N0.1 p 10 := rfl
  have em' : mN (mchR N 16) = N.1 73 16 := rfl
  have e73 : N.1 73 16 = N0.1 p 10 := by rw [← em, ← em', hE.1]
  unfold bySt
  rw [(sOf_b (k := 6) (by decide)).2 q q0, e73, ek]
  constructor
  · intro ⟨_, a, b, hA, w1, w2, w3⟩
    refine ⟨a, b, hA, w1, w2, ?_⟩
    rw [w3, hE.2.2 s a b s0 s1 (by rw [em]; exact hA)]
  · intro ⟨a, b, hA, w1, w2, w3⟩
    have t := hM.2.2.1.2 s a b s0 s1 hA
    rw [em] at t
    refine ⟨by omega, a, b, hA, w1, w2, ?_⟩
    rw [w3, hE.2.2 s a b s0 s1 (by rw [em]; exact hA)]
theorem bySt_c {N : Mem} {s x y x' y' : Int} (h1 : 1 ≤ rkC N s → x = x') (h2 : 2 ≤ rkC N s → y = y') : bySt N s x y = bySt N s x' y' := by
  unfold bySt
  congr 1
  funext q
  refine propext ⟨fun ⟨a, b, hA, w1, w2, w3⟩ => ⟨a, b, hA, fun w => by rw [← h1 w]; exact w1 w, fun w => by rw [← h2 w]; exact w2 w, w3⟩, fun ⟨a, b, hA, w1, w2, w3⟩ => ⟨a, b, hA, fun w => by rw [h1 w]; exact w1 w, fun w => by rw [h2 w]; exact w2 w, w3⟩⟩
/-! renamed: the same sets -/
theorem joint3 {N0 M N : Mem} {p one oth way map : Int} (hg : SgOk N0) (hM : MOK N0 p) (hn : NtOk M) (hm : MapOk N0 map) (e23 : N.1 62 23 = map) (hS : NS N0 M (N0.1 p 10) one oth way (fun s a b q => ∃ t, (0 ≤ t ∧ t < N0.1 1 1) ∧ s = mpf map t ∧ WE N0 p 0 t s a b q)) (en : N.1 1 1 = N0.1 1 1) (ek : rkC N = rkC N0) (hE : Eqm (N0.1 1 1) (rkC N0) (mch N0 p) (mchR N 16)) {a b : Int} (hJ : Jn (N0.1 1 1) (rkC N0) (dN M) (rX N (nx3 N)) a b) : a = b ∧ vs M a := by
  have k6 : 0 ≤ N0.1 p 10 ∧ N0.1 p 10 ≤ 6 := hM.2.2.1.1
  refine hJ (fun a b => a = b ∧ vs M a) ?_
  intro s x y u v s0 s1 hx hy
  obtain ⟨hv, hb⟩ := hS.dn hg (by omega) hn s0 s1 (fun q => (hx q).2) (fun q => (hy q).2)
  refine ⟨?_, hv⟩
  have v6 := vs_64 hv (by rw [hS.2.2.2.1.1]; exact k6.2)
  show dN M s x y = nx3 N s (if 1 ≤ rkC N s then u else 0) (if 2 ≤ rkC N s then v else 0)
  unfold nx3
  refine sOf_u (by decide) v6.1 v6.2 (fun q q0 q1 => ?_)
  rw [hb q q0, en, e23]
  constructor
  · intro ⟨a, b, hab, t, ht, e, w⟩
    refine ⟨t, ht, e.symm, ?_⟩
    have r := (hm t ht.1 ht.2).2
    rw [← e] at r
    rw [bySt_b hM ek hE ht.1 ht.2 q0]
    obtain ⟨x0, y0, hA, w1, w2, w3⟩ := (we_sets (A := N0) (p := p) (st := N0.1 p 10) (Int.le_refl _)).mp ⟨a, b, hab, w⟩
    refine ⟨x0, y0, arg_rk r.symm hA, fun z => ?_, fun z => ?_, w3⟩
    · rw [← r] at z
      rw [ek, if_pos z, ← (hx z).1]; exact w1 z
    · rw [← r] at z
      rw [ek, if_pos z, ← (hy z).1]; exact w2 z
  · intro ⟨t, ht, e, w⟩
    have r := (hm t ht.1 ht.2).2
    rw [e] at r
    rw [bySt_b hM ek hE ht.1 ht.2 q0] at w
    obtain ⟨x0, y0, hA, w1, w2, w3⟩ := w
    obtain ⟨a, b, hab, z⟩ := (we_sets (A := N0) (p := p) (s1 := t) (s := s) (st := N0.1 p 10) (X := x) (Y := y) (q := q) (Int.le_refl _)).mpr ⟨x0, y0, arg_rk r hA, fun z => by
      have := w1 (by rw [← r]; exact z)
      rw [ek, if_pos z, ← (hx z).1] at this; exact this, fun z => by
      have := w2 (by rw [← r]; exact z)
      rw [ek, if_pos z, ← (hy z).1] at this; exact this, w3⟩
    exact ⟨a, b, hab, t, ht, e.symm, z⟩
theorem fin_iff {N0 N : Mem} {p m : Int} (hE : Eqm (N0.1 1 1) (rkC N0) (mch N0 p) (mchR N m)) {c : Int} (c0 : 0 ≤ c) (c1 : c < N0.1 p 10) : bt (N0.1 p 11) c ↔ N.1 75 (6 * m + c) = 1 := (hE.2.1 c c0 c1).2.2.2.2
/-- sets with a final class -/
theorem sets_and {N0 N : Mem} {p z : Int} (hM : MOK N0 p) (hE : Eqm (N0.1 1 1) (rkC N0) (mch N0 p) (mchR N 16)) (z0 : 0 ≤ z) (z1 : z < 4096) (hz : ∀ i, 0 ≤ i → i < 6 → bt z i → i < N0.1 p 10) : iand z (N0.1 p 11) ≠ 0 ↔ ∃ c, 0 ≤ c ∧ c < N.1 73 16 ∧ bt z c ∧ N.1 75 (96 + c) = 1 := by
  have em : mN (mch N0 p) = N0.1 p 10 := rfl
  have em' : mN (mchR N 16) = N.1 73 16 := rfl
  have e73 : N.1 73 16 = N0.1 p 10 := by rw [← em, ← em', hE.1]
  have f := hM.2.2.2
  rw [iand_ne z0 z1 f.1 (by omega), e73]
  constructor
  · intro ⟨i, i0, h1, h2⟩
    have i6 : i < 6 := bt_lt (k := 6) f.1 f.2 h2 i0
    have ic := hz i i0 i6 h1
    exact ⟨i, i0, ic, h1, (fin_iff hE i0 ic).mp h2⟩
  · intro ⟨i, i0, i1, h1, h2⟩
    exact ⟨i, i0, h1, (fin_iff hE i0 i1).mpr h2⟩
/-! within -/
def R4 (N0 M : Mem) (p a b : Int) : Prop := ∃ c', (0 ≤ c' ∧ c' < N0.1 p 10) ∧ (0 ≤ b ∧ b / 2 < N0.1 p 10) ∧ (b % 2 = 1 ↔ fnl N0 p c') ∧ (b % 2 = 0 → c' = b / 2) ∧ vs M a ∧ ∀ q, 0 ≤ q → (bt a q ↔ q = c')
theorem joint4 {N0 M N : Mem} {p one oth way : Int} (hg : SgOk N0) (hM : MOK N0 p) (hn : NtOk M) (hS : NS N0 M (N0.1 p 10) one oth way (fun s a b q => (0 ≤ s ∧ s < N0.1 1 1) ∧ ∃ x0 y0, Arg (rkC N0) (N0.1 p 10) s x0 y0 ∧ (1 ≤ rkC N0 s → a = x0) ∧ (2 ≤ rkC N0 s → b = y0) ∧ q = wto N0 p s x0 y0)) (ek : rkC N = rkC N0) (hE : Eqm (N0.1 1 1) (rkC N0) (mch N0 p) (mchR N 16)) {a b : Int} (hJ : Jn (N0.1 1 1) (rkC N0) (dN M) (rX N (nx4 N)) a b) : R4 N0 M p a b := by
  have k6 : 0 ≤ N0.1 p 10 ∧ N0.1 p 10 ≤ 6 := hM.2.2.1.1
  have ff := hM.2.2.2
  have fb : ∀ c, 0 ≤ c → c < N0.1 p 10 → (fnl N0 p c ↔ N.1 75 (96 + c) = 1) := fun c c0 c1 => (bt_1 ff.1 (by omega) c0 (by omega)).trans (fin_iff hE c0 c1)
  refine hJ (R4 N0 M p) ?_
  intro s x y u v s0 s1 hx hy
  have ex : ∃ xc, (1 ≤ rkC N0 s → (0 ≤ xc ∧ xc < N0.1 p 10) ∧ (0 ≤ u ∧ u / 2 < N0.1 p 10) ∧ (u % 2 = 1 ↔ fnl N0 p xc) ∧ (u % 2 = 0 → xc = u / 2) ∧ vs M x ∧ ∀ q, 0 ≤ q → (bt x q ↔ q = xc)) ∧ (¬ 1 ≤ rkC N0 s → xc = 0) := by
    by_cases q : 1 ≤ rkC N0 s
    · obtain ⟨xc, w⟩ := hx q
      exact ⟨xc, fun _ => w, fun h => absurd q h⟩
    · exact ⟨0, fun h => absurd h q, fun _ => rfl⟩
  have ey : ∃ yc, (2 ≤ rkC N0 s → (0 ≤ yc ∧ yc < N0.1 p 10) ∧ (0 ≤ v ∧ v / 2 < N0.1 p 10) ∧ (v % 2 = 1 ↔ fnl N0 p yc) ∧ (v % 2 = 0 → yc = v / 2) ∧ vs M y ∧ ∀ q, 0 ≤ q → (bt y q ↔ q = yc)) ∧ (¬ 2 ≤ rkC N0 s → yc = 0) := by
    by_cases q : 2 ≤ rkC N0 s
    · obtain ⟨xc, w⟩ := hy q
      exact ⟨xc, fun _ => w, fun h => absurd q h⟩
    · exact ⟨0, fun h => absurd h q, fun _ => rfl⟩
  obtain ⟨xc, hxc, hx0⟩ := ex
  obtain ⟨yc, hyc, hy0⟩ := ey
  obtain ⟨hv, hb⟩ := hS.dn hg (by omega) hn s0 s1 (fun q => (hxc q).2.2.2.2.1) (fun q => (hyc q).2.2.2.2.1)
  have hA : Arg (rkC N0) (N0.1 p 10) s xc yc := argx (fun q => (hxc q).1) (fun q => (hyc q).1) hx0 hy0
  have wr' := wto_r hM ⟨s0, s1⟩ hA
  -- the true class
  have hA2 : Arg (rkC N0) (N0.1 p 10) s ((if 1 ≤ rkC N0 s then u else 0) / 2) ((if 2 ≤ rkC N0 s then v else 0) / 2) := argx (fun q => by rw [if_pos q]; have := (hxc q).2.1; omega) (fun q => by rw [if_pos q]; have := (hyc q).2.1; omega) (fun q => by rw [if_neg q]; rfl) (fun q => by rw [if_neg q]; rfl)
  have em : mN (mch N0 p) = N0.1 p 10 := rfl
  have t := hM.2.2.1.2 _ _ _ s0 s1 hA2
  rw [em] at t
  have e : rX N (nx4 N) s u v = nx4 N s (if 1 ≤ rkC N0 s then u else 0) (if 2 ≤ rkC N0 s then v else 0) := by
    unfold rX
    rw [ek]
  rw [e]
  unfold nx4
  rw [ek, ← hE.2.2 _ _ _ s0 s1 (by rw [em]; exact hA2)]
  generalize hc : mT (mch N0 p) s ((if 1 ≤ rkC N0 s then u else 0) / 2) ((if 2 ≤ rkC N0 s then v else 0) / 2) = c at *
  refine ⟨wto N0 p s xc yc, wr', ?_, ?_, ?_, hv, fun q q0 => ?_⟩
  · split <;> omega
  · -- whether it has one
    by_cases q1 : 1 ≤ rkC N0 s ∧ fnl N0 p xc
    · have ew : wto N0 p s xc yc = xc := by unfold wto; exact if_pos q1
      have : (if 1 ≤ rkC N0 s then u else 0) % 2 = 1 := by rw [if_pos q1.1]; exact (hxc q1.1).2.2.1.mpr q1.2
      rw [if_pos (Or.inl ⟨q1.1, this⟩), ew]
      exact ⟨fun _ => q1.2, fun _ => by omega⟩
    · by_cases q2 : 2 ≤ rkC N0 s ∧ fnl N0 p yc
      · have ew : wto N0 p s xc yc = yc := by unfold wto; rw [if_neg q1]; exact if_pos q2
        have : (if 2 ≤ rkC N0 s then v else 0) % 2 = 1 := by rw [if_pos q2.1]; exact (hyc q2.1).2.2.1.mpr q2.2
        rw [if_pos (Or.inr (Or.inl ⟨q2.1, this⟩)), ew]
        exact ⟨fun _ => q2.2, fun _ => by omega⟩
      · have ew : wto N0 p s xc yc = mT (mch N0 p) s xc yc := by unfold wto; rw [if_neg q1, if_neg q2]
        have n1 : ¬ (1 ≤ rkC N0 s ∧ (if 1 ≤ rkC N0 s then u else 0) % 2 = 1) := fun w => q1 ⟨w.1, (hxc w.1).2.2.1.mp (by have := w.2; rw [if_pos w.1] at this; exact this)⟩
        have n2 : ¬ (2 ≤ rkC N0 s ∧ (if 2 ≤ rkC N0 s then v else 0) % 2 = 1) := fun w => q2 ⟨w.1, (hyc w.1).2.2.1.mp (by have := w.2; rw [if_pos w.1] at this; exact this)⟩
        have ec : mT (mch N0 p) s xc yc = c := by
          rw [← hc]
          congr 1
          · by_cases w : 1 ≤ rkC N0 s
            · rw [if_pos w]
              have : ¬ u % 2 = 1 := fun z => n1 ⟨w, by rw [if_pos w]; exact z⟩
              exact (hxc w).2.2.2.1 (by omega)
            · rw [if_neg w, hx0 w]; rfl
          · by_cases w : 2 ≤ rkC N0 s
            · rw [if_pos w]
              have : ¬ v % 2 = 1 := fun z => n2 ⟨w, by rw [if_pos w]; exact z⟩
              exact (hyc w).2.2.2.1 (by omega)
            · rw [if_neg w, hy0 w]; rfl
        rw [ew, ec, fb c t.1 t.2]
        by_cases w : N.1 75 (96 + c) = 1
        · rw [if_pos (Or.inr (Or.inr w))]
          exact ⟨fun _ => w, fun _ => by omega⟩
        · rw [if_neg (fun z => by
            rcases z with z | z | z
            · exact n1 z
            · exact n2 z
            · exact w z)]
          exact ⟨fun z => by omega, fun z => absurd z w⟩
  · intro z0
    by_cases q1 : 1 ≤ rkC N0 s ∧ fnl N0 p xc
    · have : (if 1 ≤ rkC N0 s then u else 0) % 2 = 1 := by rw [if_pos q1.1]; exact (hxc q1.1).2.2.1.mpr q1.2
      rw [if_pos (Or.inl ⟨q1.1, this⟩)] at z0
      omega
    · by_cases q2 : 2 ≤ rkC N0 s ∧ fnl N0 p yc
      · have : (if 2 ≤ rkC N0 s then v else 0) % 2 = 1 := by rw [if_pos q2.1]; exact (hyc q2.1).2.2.1.mpr q2.2
        rw [if_pos (Or.inr (Or.inl ⟨q2.1, this⟩))] at z0
        omega
      · have ew : wto N0 p s xc yc = mT (mch N0 p) s xc yc := by unfold wto; rw [if_neg q1, if_neg q2]
        have n1 : ¬ (1 ≤ rkC N0 s ∧ (if 1 ≤ rkC N0 s then u else 0) % 2 = 1) := fun w => q1 ⟨w.1, (hxc w.1).2.2.1.mp (by have := w.2; rw [if_pos w.1] at this; exact this)⟩
        have n2 : ¬ (2 ≤ rkC N0 s ∧ (if 2 ≤ rkC N0 s then v else 0) % 2 = 1) := fun w => q2 ⟨w.1, (hyc w.1).2.2.1.mp (by have := w.2; rw [if_pos w.1] at this; exact this)⟩
        have ec : mT (mch N0 p) s xc yc = c := by
          rw [← hc]
          congr 1
          · by_cases w : 1 ≤ rkC N0 s
            · rw [if_pos w]
              have : ¬ u % 2 = 1 := fun z => n1 ⟨w, by rw [if_pos w]; exact z⟩
              exact (hxc w).2.2.2.1 (by omega)
            · rw [if_neg w, hx0 w]; rfl
          · by_cases w : 2 ≤ rkC N0 s
            · rw [if_pos w]
              have : ¬ v % 2 = 1 := fun z => n2 ⟨w, by rw [if_pos w]; exact z⟩
              exact (hyc w).2.2.2.1 (by omega)
            · rw [if_neg w, hy0 w]; rfl
        rw [ew, ec]
        split <;> omega
  · rw [hb q q0]
    constructor
    · intro ⟨a, b, ⟨a1, a2, a3, a4⟩, _, x0, y0, hA', w1, w2, w3⟩
      have ex : x0 = xc := by
        by_cases w : 1 ≤ rkC N0 s
        · have z := (a1 w).2.2
          rw [w1 w] at z
          exact ((hxc w).2.2.2.2.2 x0 (hA'.1 w).1).mp z
        · rw [hA'.2.1 w, hx0 w]
      have ey : y0 = yc := by
        by_cases w : 2 ≤ rkC N0 s
        · have z := (a3 w).2.2
          rw [w2 w] at z
          exact ((hyc w).2.2.2.2.2 y0 (hA'.2.2.1 w).1).mp z
        · rw [hA'.2.2.2 w, hy0 w]
      rw [w3, ex, ey]
    · intro w
      refine ⟨xc, yc, ⟨fun z => ?_, hx0, fun z => ?_, hy0⟩, ⟨s0, s1⟩, xc, yc, hA, fun _ => rfl, fun _ => rfl, w⟩
      · exact ⟨(hxc z).1.1, (hxc z).1.2, ((hxc z).2.2.2.2.2 xc (hxc z).1.1).mpr rfl⟩
      · exact ⟨(hyc z).1.1, (hyc z).1.2, ((hyc z).2.2.2.2.2 yc (hyc z).1.1).mpr rfl⟩
