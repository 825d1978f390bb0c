/-! the two automata go together: grafted, told -/
def R5 (M : Mem) (n1 n2 a b : Int) : Prop := ∃ S c, (0 ≤ S ∧ S < 64) ∧ (0 ≤ c ∧ c < n2) ∧ b = 8 * S + c ∧ (∀ q, 0 ≤ q → bt S q → q < n1) ∧ vs M a ∧ ∀ q, 0 ≤ q → (bt a q ↔ bt S q ∨ q = 6 + c)
theorem bt_64 {S q : Int} (h : 0 ≤ S ∧ S < 64) (q0 : 0 ≤ q) (b : bt S q) : q < 6 := bt_lt (k := 6) h.1 h.2 b q0
theorem joint5 {N0 M N : Mem} {p p' leaf one oth way : Int} (hg : SgOk N0) (hM : MOK N0 p) (hM' : MOK N0 p') (hn : NtOk M) (hBA : BA N) (hl : 0 ≤ leaf ∧ leaf < N0.1 1 1) (rl : rkC N0 leaf = 0) (e24 : N.1 62 24 = leaf) (hS : NS N0 M (6 + N0.1 p' 10) one oth way (fun s a b q => (0 ≤ s ∧ s < N0.1 1 1) ∧ (WE N0 p' 6 s s a b q ∨ (s ≠ leaf ∧ WE N0 p 0 s s a b q) ∨ WG N0 p p' leaf s a b q))) (ek : rkC N = rkC N0) (hE : Eqm (N0.1 1 1) (rkC N0) (mch N0 p) (mchR N 16)) (hE' : Eqm (N0.1 1 1) (rkC N0) (mch N0 p') (mchR N 17)) {a b : Int} (hJ : Jn (N0.1 1 1) (rkC N0) (dN M) (rX N (nx5 N)) a b) : R5 M (N0.1 p 10) (N0.1 p' 10) a b := by
  have k6 : 0 ≤ N0.1 p 10 ∧ N0.1 p 10 ≤ 6 := hM.2.2.1.1
  have k6' : 0 ≤ N0.1 p' 10 ∧ N0.1 p' 10 ≤ 6 := hM'.2.2.1.1
  have ff' := hM'.2.2.2
  have fb : ∀ c, 0 ≤ c → c < N0.1 p' 10 → (fnl N0 p' c ↔ N.1 75 (102 + c) = 1) := fun c c0 c1 => (bt_1 ff'.1 (by omega) c0 (by omega)).trans (fin_iff hE' c0 c1)
  have em : mN (mch N0 p) = N0.1 p 10 := rfl
  have em' : mN (mch N0 p') = N0.1 p' 10 := rfl
  have lA : Arg (rkC N0) (N0.1 p 10) leaf 0 0 := argx (fun q => by omega) (fun q => by omega) (fun _ => rfl) (fun _ => rfl)
  have lt' := hM.2.2.1.2 _ _ _ hl.1 hl.2 lA
  rw [em] at lt'
  have lE := hE.2.2 _ _ _ hl.1 hl.2 (by rw [em]; exact lA)
  refine hJ (R5 M (N0.1 p 10) (N0.1 p' 10)) ?_
  intro s x y u v s0 s1 hx hy
  have ex : ∃ X c, (0 ≤ X ∧ X < 64) ∧ (1 ≤ rkC N0 s → (0 ≤ c ∧ c < N0.1 p' 10) ∧ u = 8 * X + c ∧ (∀ q, 0 ≤ q → bt X q → q < N0.1 p 10) ∧ vs M x ∧ ∀ q, 0 ≤ q → (bt x q ↔ bt X q ∨ q = 6 + c)) ∧ (¬ 1 ≤ rkC N0 s → X = 0 ∧ c = 0) := by
    by_cases q : 1 ≤ rkC N0 s
    · obtain ⟨X, c, w0, w⟩ := hx q
      exact ⟨X, c, w0, fun _ => w, fun h => absurd q h⟩
    · exact ⟨0, 0, by decide, fun h => absurd h q, fun _ => ⟨rfl, rfl⟩⟩
  have ey : ∃ Y d, (0 ≤ Y ∧ Y < 64) ∧ (2 ≤ rkC N0 s → (0 ≤ d ∧ d < N0.1 p' 10) ∧ v = 8 * Y + d ∧ (∀ q, 0 ≤ q → bt Y q → q < N0.1 p 10) ∧ vs M y ∧ ∀ q, 0 ≤ q → (bt y q ↔ bt Y q ∨ q = 6 + d)) ∧ (¬ 2 ≤ rkC N0 s → Y = 0 ∧ d = 0) := by
    by_cases q : 2 ≤ rkC N0 s
    · obtain ⟨X, c, w0, w⟩ := hy q
      exact ⟨X, c, w0, fun _ => w, fun h => absurd q h⟩
    · exact ⟨0, 0, by decide, fun h => absurd h q, fun _ => ⟨rfl, rfl⟩⟩
  obtain ⟨X, c, rX', hxc, hx0⟩ := ex
  obtain ⟨Y, d, rY', hyc, hy0⟩ := ey
  obtain ⟨hv, hb⟩ := hS.dn hg (by omega) hn s0 s1 (fun q => (hxc q).2.2.2.1) (fun q => (hyc q).2.2.2.1)
  have hA' : Arg (rkC N0) (N0.1 p' 10) s c d := argx (fun q => (hxc q).1) (fun q => (hyc q).1) (fun q => (hx0 q).2) (fun q => (hy0 q).2)
  have t' := hM'.2.2.1.2 _ _ _ s0 s1 hA'
  rw [em'] at t'
  have dx : (if 1 ≤ rkC N0 s then u else 0) / 8 = X ∧ (if 1 ≤ rkC N0 s then u else 0) % 8 = c := by
    by_cases q : 1 ≤ rkC N0 s
    · rw [if_pos q]; have := hxc q; omega
    · rw [if_neg q]; have := hx0 q; omega
  have dy : (if 2 ≤ rkC N0 s then v else 0) / 8 = Y ∧ (if 2 ≤ rkC N0 s then v else 0) % 8 = d := by
    by_cases q : 2 ≤ rkC N0 s
    · rw [if_pos q]; have := hyc q; omega
    · rw [if_neg q]; have := hy0 q; omega
  have tE := hE'.2.2 _ _ _ s0 s1 (by rw [em']; exact hA')
  have ba := hBA (102 + mT (mch N0 p') s c d) (by omega) (by omega)
  have br : 0 ≤ bySt N s X Y ∧ bySt N s X Y < 2 ^ 6 := (sOf_b (k := 6) (by decide)).1
  have lr := ishl1_r (j := 6) (k := mT (mch N0 p) leaf 0 0) lt'.1 (by omega) (by decide)
  -- the set of the stock
  have G : ∃ S, rX N (nx5 N) s u v = 8 * S + mT (mch N0 p') s c d ∧ (0 ≤ S ∧ S < 64) ∧ ∀ q, 0 ≤ q → (bt S q ↔ (s ≠ leaf ∧ bt (bySt N s X Y) q) ∨ (fnl N0 p' (mT (mch N0 p') s c d) ∧ q = mT (mch N0 p) leaf 0 0)) := by
    refine ⟨ior (if s = leaf then 0 else bySt N s X Y) (if N.1 75 (102 + mT (mch N0 p') s c d) = 0 then 0 else ishl 1 (mT (mch N0 p) leaf 0 0)), ?_, ?_, fun q q0 => ?_⟩
    · unfold rX nx5 g5
      rw [ek, dx.1, dx.2, dy.1, dy.2, e24, ← tE, ← lE]
    · refine ior_r (k := 6) (by decide) ?_ ?_ ?_ ?_
      · split
        · decide
        · exact br.1
      · split
        · decide
        · exact br.2
      · split
        · decide
        · exact lr.1
      · split
        · decide
        · exact lr.2
    · rw [bt_or (by split <;> omega) (by split <;> omega) (by split <;> omega) (by split <;> omega)]
      refine or_congr ?_ ?_
      · by_cases z : s = leaf
        · rw [if_pos z]
          exact ⟨fun w => absurd w (bt_zero q), fun w => absurd z w.1⟩
        · rw [if_neg z]
          exact ⟨fun w => ⟨z, w⟩, fun w => w.2⟩
      · rw [fb _ t'.1 t'.2]
        by_cases z : N.1 75 (102 + mT (mch N0 p') s c d) = 0
        · rw [if_pos z]
          exact ⟨fun w => absurd w (bt_zero q), fun w => by have := w.1; omega⟩
        · rw [if_neg z, bt_shl lt'.1 (by omega) q0]
          exact ⟨fun w => ⟨by omega, w⟩, fun w => w.2⟩
  obtain ⟨S, eS, rS, bS⟩ := G
  rw [eS]
  have hwin : ∀ (z Z e : Int), (0 ≤ Z ∧ Z < 64) → (∀ q, 0 ≤ q → (bt z q ↔ bt Z q ∨ q = 6 + e)) → ∀ x0, 0 ≤ x0 → x0 < 6 → (bt z (6 + x0) ↔ x0 = e) := by
    intro z Z e rZ hz x0 h0 h1
    rw [hz (6 + x0) (by omega)]
    constructor
    · intro w
      rcases w with w | w
      · have := bt_64 rZ (by omega) w; omega
      · omega
    · intro w; right; omega
  have w2 := fun q => we_single (A := N0) (p := p') (base := 6) (s1 := s) (s := s) (st := 6 + N0.1 p' 10) (X := x) (Y := y) (cx := c) (cy := d) (q := q) k6'.2 (Int.le_refl _) (by decide) (fun r => ⟨(hxc r).1, hwin x X c rX' (hxc r).2.2.2.2⟩) (fun r => (hx0 r).2) (fun r => ⟨(hyc r).1, hwin y Y d rY' (hyc r).2.2.2.2⟩) (fun r => (hy0 r).2)
  have lowX : 1 ≤ rkC N0 s → ∀ x0, 0 ≤ x0 → x0 < 6 → (bt x x0 ↔ bt X x0) := fun r x0 h0 h1 => by
    have := (hxc r).1
    rw [(hxc r).2.2.2.2 x0 h0]
    exact ⟨fun w => by
      rcases w with w | w
      · exact w
      · omega, fun w => Or.inl w⟩
  have lowY : 2 ≤ rkC N0 s → ∀ x0, 0 ≤ x0 → x0 < 6 → (bt y x0 ↔ bt Y x0) := fun r x0 h0 h1 => by
    have := (hyc r).1
    rw [(hyc r).2.2.2.2 x0 h0]
    exact ⟨fun w => by
      rcases w with w | w
      · exact w
      · omega, fun w => Or.inl w⟩
  have w1 : ∀ q, 0 ≤ q → ((∃ a b, AB (rkC N0) (6 + N0.1 p' 10) s x y a b ∧ WE N0 p 0 s s a b q) ↔ bt (bySt N s X Y) q) := fun q q0 => by
    rw [we_sets (A := N0) (p := p) (by omega), bySt_b hM ek hE s0 s1 q0]
    constructor
    · intro ⟨x0, y0, hA, z1, z2, z3⟩
      exact ⟨x0, y0, hA, fun r => (lowX r x0 (hA.1 r).1 (by have := hA.1 r; omega)).mp (z1 r), fun r => (lowY r y0 (hA.2.2.1 r).1 (by have := hA.2.2.1 r; omega)).mp (z2 r), z3⟩
    · intro ⟨x0, y0, hA, z1, z2, z3⟩
      exact ⟨x0, y0, hA, fun r => (lowX r x0 (hA.1 r).1 (by have := hA.1 r; omega)).mpr (z1 r), fun r => (lowY r y0 (hA.2.2.1 r).1 (by have := hA.2.2.1 r; omega)).mpr (z2 r), z3⟩
  have w3 : ∀ q, (∃ a b, AB (rkC N0) (6 + N0.1 p' 10) s x y a b ∧ WG N0 p p' leaf s a b q) ↔ (fnl N0 p' (mT (mch N0 p') s c d) ∧ q = mT (mch N0 p) leaf 0 0) := fun q => by
    constructor
    · intro ⟨a, b, hab, x0, y0, hA, z1, z2, z3, z4⟩
      have := (w2 (6 + mT (mch N0 p') s x0 y0)).mp ⟨a, b, hab, x0, y0, hA, z1, z2, rfl⟩
      rw [show mT (mch N0 p') s x0 y0 = mT (mch N0 p') s c d by omega] at z3
      exact ⟨z3, z4⟩
    · intro ⟨z3, z4⟩
      obtain ⟨a, b, hab, x0, y0, hA, z1, z2, z⟩ := (w2 (6 + mT (mch N0 p') s c d)).mpr rfl
      refine ⟨a, b, hab, x0, y0, hA, z1, z2, ?_, z4⟩
      rw [show mT (mch N0 p') s x0 y0 = mT (mch N0 p') s c d by omega]
      exact z3
  refine ⟨S, _, rS, t', rfl, fun q q0 z => ?_, hv, fun q q0 => ?_⟩
  · rcases (bS q q0).mp z with w | w
    · obtain ⟨x0, y0, hA, -, -, e⟩ := (bySt_b hM ek hE s0 s1 q0).mp w.2
      have := hM.2.2.1.2 _ _ _ s0 s1 hA
      rw [em] at this
      omega
    · omega
  · rw [hb q q0, bS q q0, ← w1 q q0, ← w2 q, ← w3 q]
    constructor
    · intro ⟨a, b, hab, _, z⟩
      rcases z with z | z | z
      · exact Or.inr ⟨a, b, hab, z⟩
      · exact Or.inl (Or.inl ⟨z.1, a, b, hab, z.2⟩)
      · exact Or.inl (Or.inr ⟨a, b, hab, z⟩)
    · intro z
      rcases z with (⟨z0, a, b, hab, z⟩ | ⟨a, b, hab, z⟩) | ⟨a, b, hab, z⟩
      · exact ⟨a, b, hab, ⟨s0, s1⟩, Or.inr (Or.inl ⟨z0, z⟩)⟩
      · exact ⟨a, b, hab, ⟨s0, s1⟩, Or.inr (Or.inr z)⟩
      · exact ⟨a, b, hab, ⟨s0, s1⟩, Or.inl z⟩
/-! told: the same sets -/
def TR (N0 N : Mem) (t k : Int) : Prop := ∀ s x y q, 0 ≤ s → s < N0.1 1 1 → Arg (rkC N0) (N0.1 t 3) s x y → 0 ≤ q → (bt (SD N0 t s x y) q ↔ ∃ i, (0 ≤ i ∧ i < N.1 68 k) ∧ N.1 69 (40 * k + i) = s ∧ (1 ≤ rkC N0 s → N.1 70 (40 * k + i) = x) ∧ (2 ≤ rkC N0 s → N.1 71 (40 * k + i) = y) ∧ q = N.1 72 (40 * k + i))
theorem joint0 {N0 M N : Mem} {t k one oth way : Int} (hg : SgOk N0) (hT : TOK N0 t) (hn : NtOk M) (hR : RV N k) (e66 : N.1 66 k = N0.1 t 3) (hTR : TR N0 N t k) (hS : NS N0 M (N0.1 t 3) one oth way (fun s a b q => (0 ≤ s ∧ s < N0.1 1 1) ∧ ∃ x0 y0, Arg (rkC N0) (N0.1 t 3) s x0 y0 ∧ (1 ≤ rkC N0 s → a = x0) ∧ (2 ≤ rkC N0 s → b = y0) ∧ bt (SD N0 t s x0 y0) q)) (ek : rkC N = rkC N0) {a b : Int} (hJ : Jn (N0.1 1 1) (rkC N0) (dN M) (rX N (nx0 N k)) a b) : a = b ∧ vs M a := by
  have k5 := hT.2.2.1
  refine hJ (fun a b => a = b ∧ vs M a) ?_
  intro s x y u v s0 s1 hx hy
  obtain ⟨hv, hb⟩ := hS.dn hg (by omega) hn s0 s1 (fun q => (hx q).2) (fun q => (hy q).2)
  refine ⟨?_, hv⟩
  have v5 : 0 ≤ dN M s x y ∧ dN M s x y < 2 ^ 5 := by
    refine ⟨hv.1, ?_⟩
    have : (2 : Int) ^ (M.1 8 2).toNat ≤ 2 ^ 5 := by
      rw [hS.2.2.2.1.1, ← p2i, ← p2i]
      have := Nat.pow_le_pow_right (show 0 < 2 by decide) (show (N0.1 t 3).toNat ≤ 5 by omega)
      omega
    have := hv.2
    omega
  show dN M s x y = nx0 N k s (if 1 ≤ rkC N s then u else 0) (if 2 ≤ rkC N s then v else 0)
  unfold nx0
  refine sOf_u (by decide) v5.1 v5.2 (fun q q0 q1 => ?_)
  rw [hb q q0]
  constructor
  · intro ⟨a, b, ⟨a1, a2, a3, a4⟩, _, x0, y0, hA, w1, w2, w3⟩
    obtain ⟨i, hi, e1, e2, e3, e4⟩ := (hTR s x0 y0 q s0 s1 hA q0).mp w3
    refine ⟨i, hi, e1, ?_, ?_, e4⟩
    · rw [ek]
      by_cases r : 1 ≤ rkC N0 s
      · right
        rw [if_pos r, e2 r, ← w1 r, ← (hx r).1]
        exact (a1 r).2.2
      · left; omega
    · rw [ek]
      by_cases r : 2 ≤ rkC N0 s
      · right
        rw [if_pos r, e3 r, ← w2 r, ← (hy r).1]
        exact (a3 r).2.2
      · left; omega
  · intro ⟨i, hi, e1, e2, e3, e4⟩
    have rv := hR.2.2.2.2 i hi.1 hi.2
    rw [e1, ek, e66] at rv
    have hA : Arg (rkC N0) (N0.1 t 3) s (if 1 ≤ rkC N0 s then N.1 70 (40 * k + i) else 0) (if 2 ≤ rkC N0 s then N.1 71 (40 * k + i) else 0) := argx (fun r => by rw [if_pos r]; exact rv.2.1 r) (fun r => by rw [if_pos r]; exact rv.2.2.1 r) (fun r => if_neg r) (fun r => if_neg r)
    rw [ek] at e2 e3
    refine ⟨_, _, ⟨fun r => ?_, fun r => if_neg r, fun r => ?_, fun r => if_neg r⟩, ⟨s0, s1⟩, _, _, hA, fun _ => rfl, fun _ => rfl, (hTR s _ _ q s0 s1 hA q0).mpr ⟨i, hi, e1, fun r => (if_pos r).symm, fun r => (if_pos r).symm, e4⟩⟩
    · rw [if_pos r]
      have := rv.2.1 r
      refine ⟨this.1, this.2, ?_⟩
      rcases e2 with z | z
      · omega
      · rw [if_pos r, ← (hx r).1] at z; exact z
    · rw [if_pos r]
      have := rv.2.2.1 r
      refine ⟨this.1, this.2, ?_⟩
      rcases e3 with z | z
      · omega
      · rw [if_pos r, ← (hy r).1] at z; exact z
