/-! the reference: until nothing more is divided -/
abbrev IndX (N : Mem) (nx : Int → Int → Int → Int) (fn : Int → Int) (a b : Int) : Prop := Ind (N.1 1 1) (rkC N) (rX N nx) (fun z => fn z = 1) a b
abbrev LgX (N : Mem) (nx : Int → Int → Int → Int) (fn : Int → Int) : Prop := Lg (N.1 1 1) (rkC N) (rX N nx) (fun z => fn z = 1)
/-- the parts of the keys -/
def Pt (N A : Mem) (nx : Int → Int → Int → Int) (fn : Int → Int) (n : Int) (W L : Int → Int) : Prop := (0 ≤ n ∧ n ≤ 6) ∧ (∀ i, 0 ≤ i → i < A.1 62 26 → 0 ≤ W i ∧ W i < n) ∧ (∀ c, 0 ≤ c → c < n → 0 ≤ L c ∧ L c < A.1 62 26 ∧ W (L c) = c) ∧ (∀ i j, 0 ≤ i → i < A.1 62 26 → 0 ≤ j → j < A.1 62 26 → IndX N nx fn (A.1 80 i) (A.1 80 j) → W i = W j) ∧ ∀ i j, 0 ≤ i → i < A.1 62 26 → 0 ≤ j → j < A.1 62 26 → W i = W j → fn (A.1 80 i) = fn (A.1 80 j)
def Stb (N A : Mem) (W : Int → Int) : Prop := ∀ i j, 0 ≤ i → i < A.1 62 26 → 0 ≤ j → j < A.1 62 26 → W i = W j → Lk N A W i j
theorem Lk.rf (N A : Mem) (W : Int → Int) (i : Int) : Lk N A W i i := ⟨rfl, fun _ _ _ => ⟨fun _ => rfl, fun _ _ _ _ => ⟨rfl, rfl⟩⟩⟩
theorem Lk.sy {N A : Mem} {W : Int → Int} {i j : Int} (h : Lk N A W i j) : Lk N A W j i := ⟨h.1.symm, fun s a b => ⟨fun q => ((h.2 s a b).1 q).symm, fun q l c d => ⟨((h.2 s a b).2 q l c d).1.symm, ((h.2 s a b).2 q l c d).2.symm⟩⟩⟩
theorem Lk.tr {N A : Mem} {W : Int → Int} {i j k : Int} (h : Lk N A W i j) (h' : Lk N A W j k) : Lk N A W i k := ⟨h.1.trans h'.1, fun s a b => ⟨fun q => ((h.2 s a b).1 q).trans ((h'.2 s a b).1 q), fun q l c d => ⟨((h.2 s a b).2 q l c d).1.trans ((h'.2 s a b).2 q l c d).1, ((h.2 s a b).2 q l c d).2.trans ((h'.2 s a b).2 q l c d).2⟩⟩⟩
theorem ind_lk {N A : Mem} {nx : Int → Int → Int → Int} {fn : Int → Int} {W : Int → Int} (R : RA N nx fn) (h : KF N nx A) (hs : ∀ i j, 0 ≤ i → i < A.1 62 26 → 0 ≤ j → j < A.1 62 26 → IndX N nx fn (A.1 80 i) (A.1 80 j) → W i = W j) {i j : Int} (hi : 0 ≤ i ∧ i < A.1 62 26) (hj : 0 ≤ j ∧ j < A.1 62 26) (hI : IndX N nx fn (A.1 80 i) (A.1 80 j)) : Lk N A W i j := by
  have r := h.2.1.1
  have rS : ∀ l, 0 ≤ l → l < A.1 62 26 → RX N nx (A.1 80 l) := fun l a b => (h.2.1.2.1 l a b).1
  refine ⟨hs i j hi.1 hi.2 hj.1 hj.2 hI, fun s s0 s1 => ⟨fun r1 => ?_, fun r2 l l0 l1 => ⟨?_, ?_⟩⟩⟩
  · have ci := h.cm R (s := s) (x := i) (y := 0) s0 s1 (fun _ => hi) (fun q => by omega)
    have cj := h.cm R (s := s) (x := j) (y := 0) s0 s1 (fun _ => hj) (fun q => by omega)
    refine hs _ _ ci.1.1 ci.1.2 cj.1.1 cj.1.2 ?_
    rw [ci.2, cj.2]
    obtain ⟨E, hE, e⟩ := hI
    exact ⟨E, hE, ((hE _ _ e).2 s (A.1 80 0) s0 s1).1 (by omega) (fun q => by omega)⟩
  · have ci := h.cm R (s := s) (x := i) (y := l) s0 s1 (fun _ => hi) (fun _ => ⟨l0, l1⟩)
    have cj := h.cm R (s := s) (x := j) (y := l) s0 s1 (fun _ => hj) (fun _ => ⟨l0, l1⟩)
    refine hs _ _ ci.1.1 ci.1.2 cj.1.1 cj.1.2 ?_
    rw [ci.2, cj.2]
    obtain ⟨E, hE, e⟩ := hI
    exact ⟨E, hE, ((hE _ _ e).2 s (A.1 80 l) s0 s1).1 (by omega) (fun _ => rS l l0 l1)⟩
  · have ci := h.cm R (s := s) (x := l) (y := i) s0 s1 (fun _ => ⟨l0, l1⟩) (fun _ => hi)
    have cj := h.cm R (s := s) (x := l) (y := j) s0 s1 (fun _ => ⟨l0, l1⟩) (fun _ => hj)
    refine hs _ _ ci.1.1 ci.1.2 cj.1.1 cj.1.2 ?_
    rw [ci.2, cj.2]
    obtain ⟨E, hE, e⟩ := hI
    exact ⟨E, hE, ((hE _ _ e).2 s (A.1 80 l) s0 s1).2 (by omega) (rS l l0 l1)⟩
theorem big_lg {N A : Mem} {nx : Int → Int → Int → Int} {fn : Int → Int} {q : Int → Int → Prop} {L : Int → Int} (h : KF N nx A) (hB : Big (A.1 62 26) q L) (hs : ∀ i j, 0 ≤ i → i < A.1 62 26 → 0 ≤ j → j < A.1 62 26 → IndX N nx fn (A.1 80 i) (A.1 80 j) → q j i) : LgX N nx fn := by
  refine ⟨fun i => A.1 80 (L i), fun i hi => ?_, fun i j ij hj hI => ?_⟩
  · have w := hB.1 i (by omega) (by omega)
    exact (h.2.1.2.1 _ w.1 w.2).1
  · have wi := hB.1 i (by omega) (by omega)
    have wj := hB.1 j (by omega) (by omega)
    exact hB.2 i j (by omega) (by omega) (by omega) (hs _ _ wi.1 wi.2 wj.1 wj.2 hI)
theorem Dv.iff {r : Int} {q : Int → Int → Prop} {n : Int} {L W : Int → Int} (h : Dv r q n r L W) (sy : ∀ i j, q i j → q j i) (tr : ∀ i j k, q i j → q j k → q i k) {i j : Int} (hi : 0 ≤ i ∧ i < r) (hj : 0 ≤ j ∧ j < r) : W i = W j ↔ q i j := by
  obtain ⟨a1, a2, a3, a4, a5⟩ := h
  have wi := a5 i hi.1 hi.2
  have wj := a5 j hj.1 hj.2
  constructor
  · intro e
    rw [e] at wi
    exact tr _ _ _ wi.2.2 (sy _ _ wj.2.2)
  · intro e
    have w : q (L (W i)) (L (W j)) := tr _ _ _ (sy _ _ wi.2.2) (tr _ _ _ e wj.2.2)
    rcases Int.lt_trichotomy (W i) (W j) with l | l | l
    · exact absurd (sy _ _ w) (a4 _ _ wi.1 l wj.2.1)
    · exact l
    · exact absurd w (a4 _ _ wj.1 l wi.2.1)
/-- a finer division has more parts, or is the same -/
theorem finer {r n n' : Int} {W L W' L' : Int → Int} (n0 : 0 ≤ n) (n0' : 0 ≤ n') (hW' : ∀ i, 0 ≤ i → i < r → 0 ≤ W' i ∧ W' i < n') (hL : ∀ c, 0 ≤ c → c < n → 0 ≤ L c ∧ L c < r ∧ W (L c) = c) (hL' : ∀ c, 0 ≤ c → c < n' → 0 ≤ L' c ∧ L' c < r ∧ W' (L' c) = c) (hf : ∀ i j, 0 ≤ i → i < r → 0 ≤ j → j < r → W' i = W' j → W i = W j) (hW : ∀ i, 0 ≤ i → i < r → 0 ≤ W i ∧ W i < n) : n ≤ n' ∧ (n' = n → ∀ i j, 0 ≤ i → i < r → 0 ≤ j → j < r → W i = W j → W' i = W' j) := by
  have back : ∀ c, 0 ≤ c → c < n → W (L' (W' (L c))) = c := by
    intro c c0 c1
    have l := hL c c0 c1
    have w := hW' _ l.1 l.2.1
    have l' := hL' _ w.1 w.2
    rw [hf _ _ l'.1 l'.2.1 l.1 l.2.1 l'.2.2]
    exact l.2.2
  constructor
  · rcases Int.lt_or_le n' n with q | q
    · exfalso
      obtain ⟨i, j, ij, j1, e⟩ := fb_twice (m := n'.toNat) (n := n.toNat) (f := fun i => (W' (L i)).toNat) (fun i hi => by
        have l := hL i (by omega) (by omega)
        have w := hW' _ l.1 l.2.1
        show (W' (L i)).toNat < n'.toNat
        omega) (by omega)
      have li := hL i (by omega) (by omega)
      have wi := hW' _ li.1 li.2.1
      have lj := hL j (by omega) (by omega)
      have wj := hW' _ lj.1 lj.2.1
      have e : (W' (L i)).toNat = (W' (L j)).toNat := e
      have bi := back i (by omega) (by omega)
      have bj := back j (by omega) (by omega)
      rw [show W' (L i) = W' (L j) by omega] at bi
      omega
    · exact q
  · intro en i j i0 i1 j0 j1 e
    refine Classical.byContradiction fun ne => ?_
    have wi := hW' i i0 i1
    have wj := hW' j j0 j1
    have li := hL' _ wi.1 wi.2
    have lj := hL' _ wj.1 wj.2
    -- both parts lie in one
    have e1 : W (L' (W' i)) = W i := hf _ _ li.1 li.2.1 i0 i1 li.2.2
    have e2 : W (L' (W' j)) = W j := hf _ _ lj.1 lj.2.1 j0 j1 lj.2.2
    have g : ∀ c, 0 ≤ c → c < n → ∃ d, 0 ≤ d ∧ d < n' ∧ d ≠ W' i ∧ W (L' d) = c := by
      intro c c0 c1
      have l := hL c c0 c1
      have w := hW' _ l.1 l.2.1
      by_cases q : W' (L c) = W' i
      · have b := back c c0 c1
        rw [q, e1] at b
        exact ⟨W' j, wj.1, wj.2, fun z => ne z.symm, by rw [e2, ← e, b]⟩
      · exact ⟨W' (L c), w.1, w.2, q, back c c0 c1⟩
    have g2 : ∀ c : Nat, ∃ d : Int, c < n.toNat → 0 ≤ d ∧ d < n' ∧ d ≠ W' i ∧ W (L' d) = c := by
      intro c
      by_cases q : c < n.toNat
      · obtain ⟨d, hd⟩ := g c (by omega) (by omega)
        exact ⟨d, fun _ => hd⟩
      · exact ⟨0, fun w => absurd w q⟩
    obtain ⟨f, hf'⟩ : ∃ f : Nat → Int, ∀ c : Nat, c < n.toNat → 0 ≤ f c ∧ f c < n' ∧ f c ≠ W' i ∧ W (L' (f c)) = c := ⟨fun c => Classical.choose (g2 c), fun c => Classical.choose_spec (g2 c)⟩
    obtain ⟨a, b, ab, b1, ee⟩ := fb_twice (m := (n' - 1).toNat) (n := n.toNat) (f := fun c => if f c < W' i then (f c).toNat else (f c - 1).toNat) (fun c hc => by
      have w := hf' c hc
      show (if f c < W' i then (f c).toNat else (f c - 1).toNat) < (n' - 1).toNat
      split <;> omega) (by omega)
    have wa := hf' a (by omega)
    have wb := hf' b b1
    have ee : (if f a < W' i then (f a).toNat else (f a - 1).toNat) = (if f b < W' i then (f b).toNat else (f b - 1).toNat) := ee
    have : f a = f b := by
      split at ee <;> split at ee <;> omega
    rw [this] at wa
    have := wa.2.2.2
    have := wb.2.2.2
    omega
def MI (N A : Mem) (nx : Int → Int → Int → Int) (fn : Int → Int) (n before : Int) (M : Mem) : Prop := KG2 A M ∧ 0 ≤ before ∧ before ≤ n ∧ ((n = 7 ∧ before < 7 ∧ LgX N nx fn) ∨ (Pt N A nx fn n (M.1 82) (M.1 84) ∧ (before = n → Stb N A (M.1 82))))
theorem moore_lp {N A M : Mem} {nx : Int → Int → Int → Int} {fn : Int → Int} {m n0 : Int} (R : RA N nx fn) (h : KF N nx A) (P : Option (Int × Mem) → Prop) (k : Int → Mem → Option (Int × Mem)) (h7 : ∀ M', KG2 A M' → LgX N nx fn → P (k 7 M')) (hk : ∀ n M', KG2 A M' → Pt N A nx fn n (M'.1 82) (M'.1 84) → Stb N A (M'.1 82) → P (k n M')) (hI : MI N A nx fn n0 0 M) : P (L_M_make_23 k 62 m FU n0 0 M) := by
  refine lq2 (fun n a b M' => L_M_make_23 k 62 m n a b M') (fun n b M' => n ≤ 7 ∧ MI N A nx fn n b M') (fun n b => (2 * (8 - n) + (if b < n then 1 else 0)).toNat) P ?_ ⟨?_, hI⟩ (by
    have := FU_eq
    obtain ⟨-, -, b, w⟩ := hI
    split <;> omega)
  · clear hI M n0
    intro n' n b M ⟨n7, hG, b0, bn, hI⟩ ih
    show P (L_M_make_23 k 62 m (n' + 1) n b M)
    have mm := R.m (h.1.tr hG.1.1)
    have hS := mm.1.m_
    rw [L_M_make_23]
    rcases hI with ⟨e7, b7, hL⟩ | ⟨hP, hSt⟩
    · subst e7
      have nb : ¬ 7 ≤ b := by omega
      simp [-Option.bind_some, -Option.bind_none, gf, pf, rd, wt, ck, ln, lt, bz, nq, up_1, up_2, obs, obn, nb]
      exact h7 M hG hL
    · by_cases hb : n ≤ b
      · simp [-Option.bind_some, -Option.bind_none, gf, pf, rd, wt, ck, ln, lt, bz, nq, up_1, up_2, obs, obn, hb]
        exact hk n M hG hP (hSt (by omega))
      · have hn6 : ¬ 6 < n := by have := hP.1; omega
        obtain ⟨t, M2, ed, hG2, hd⟩ := divide_ok R h hG (h15_like (M := M) R h) (fun i => Lk.rf _ _ _ i)
        simp [-Option.bind_some, -Option.bind_none, gf, pf, rd, wt, ck, ln, lt, bz, nq, up_1, up_2, obs, obn, hb, hn6, hS, ed]
        rcases hd with ⟨et, hB⟩ | hD
        · subst et
          refine ih 7 n M2 ⟨by decide, hG2, hP.1.1, by have := hP.1; omega, Or.inl ⟨rfl, by have := hP.1; omega, ?_⟩⟩ ?_
          · refine big_lg h hB (fun i j i0 i1 j0 j1 hI => (ind_lk R h hP.2.2.2.1 ⟨i0, i1⟩ ⟨j0, j1⟩ hI).sy)
          · have := hP.1
            rw [if_pos (show n < 7 by omega), if_pos (show b < n by omega)]
            omega
        · have iff := fun i j (hi : 0 ≤ i ∧ i < A.1 62 26) (hj : 0 ≤ j ∧ j < A.1 62 26) => hD.iff (fun _ _ q => q.sy) (fun _ _ _ q q' => q.tr q') hi hj
          have rg := hD.1
          have hW' : ∀ i, 0 ≤ i → i < A.1 62 26 → 0 ≤ M2.1 82 i ∧ M2.1 82 i < t := fun i a b => ⟨(hD.2.2.2.2 i a b).1, (hD.2.2.2.2 i a b).2.1⟩
          have hL' : ∀ c, 0 ≤ c → c < t → 0 ≤ M2.1 84 c ∧ M2.1 84 c < A.1 62 26 ∧ M2.1 82 (M2.1 84 c) = c := hD.2.2.1
          have hf : ∀ i j, 0 ≤ i → i < A.1 62 26 → 0 ≤ j → j < A.1 62 26 → M2.1 82 i = M2.1 82 j → M.1 82 i = M.1 82 j := fun i j a b c d e => ((iff i j ⟨a, b⟩ ⟨c, d⟩).mp e).1
          have fi := finer hP.1.1 rg.1 hW' hP.2.2.1 hL' hf hP.2.1
          refine ih t n M2 ⟨by omega, hG2, hP.1.1, fi.1, Or.inr ⟨⟨rg, hW', hL', fun i j i0 i1 j0 j1 hI => ?_, fun i j i0 i1 j0 j1 e => ?_⟩, fun en => ?_⟩⟩ ?_
          · exact (iff i j ⟨i0, i1⟩ ⟨j0, j1⟩).mpr (ind_lk R h hP.2.2.2.1 ⟨i0, i1⟩ ⟨j0, j1⟩ hI)
          · exact hP.2.2.2.2 i j i0 i1 j0 j1 (hf i j i0 i1 j0 j1 e)
          · have up' := fi.2 en.symm
            intro i j i0 i1 j0 j1 e
            have lk := (iff i j ⟨i0, i1⟩ ⟨j0, j1⟩).mp e
            refine ⟨e, fun s s0 s1 => ⟨fun r1 => ?_, fun r2 l l0 l1 => ⟨?_, ?_⟩⟩⟩
            · have ci := (h.cm R (s := s) (x := i) (y := 0) s0 s1 (fun _ => ⟨i0, i1⟩) (fun q => by omega)).1
              have cj := (h.cm R (s := s) (x := j) (y := 0) s0 s1 (fun _ => ⟨j0, j1⟩) (fun q => by omega)).1
              exact up' _ _ ci.1 ci.2 cj.1 cj.2 ((lk.2 s s0 s1).1 r1)
            · have ci := (h.cm R (s := s) (x := i) (y := l) s0 s1 (fun _ => ⟨i0, i1⟩) (fun _ => ⟨l0, l1⟩)).1
              have cj := (h.cm R (s := s) (x := j) (y := l) s0 s1 (fun _ => ⟨j0, j1⟩) (fun _ => ⟨l0, l1⟩)).1
              exact up' _ _ ci.1 ci.2 cj.1 cj.2 ((lk.2 s s0 s1).2 r2 l l0 l1).1
            · have ci := (h.cm R (s := s) (x := l) (y := i) s0 s1 (fun _ => ⟨l0, l1⟩) (fun _ => ⟨i0, i1⟩)).1
              have cj := (h.cm R (s := s) (x := l) (y := j) s0 s1 (fun _ => ⟨l0, l1⟩) (fun _ => ⟨j0, j1⟩)).1
              exact up' _ _ ci.1 ci.2 cj.1 cj.2 ((lk.2 s s0 s1).2 r2 l l0 l1).2
          · have := hP.1
            have := fi.1
            rw [if_pos (show b < n by omega)]
            by_cases q : n < t
            · rw [if_pos q]; omega
            · rw [if_neg q]; omega
  · obtain ⟨-, -, -, w⟩ := hI
    rcases w with w | w
    · omega
    · have := w.1.1; omega
/-- the first division -/
theorem moore_0 {N A : Mem} {nx : Int → Int → Int → Int} {fn : Int → Int} (R : RA N nx fn) (h : KF N nx A) : OkV (if A.1 62 26 = 0 then some (0, A) else (D_M_divide 62 1 A).bind fun x17 => some (x17.1, x17.2)) (fun n M => MI N A nx fn n 0 M) := by
  have r := h.2.1.1
  by_cases q : A.1 62 26 = 0
  · rw [if_pos q]
    refine OkV.i ⟨KG2.rf A, Int.le_refl 0, Int.le_refl 0, Or.inr ⟨⟨by decide, fun i a b => by omega, fun c a b => by omega, fun i j a b => by omega, fun i j a b => by omega⟩, fun _ i j a b => by omega⟩⟩
  · rw [if_neg q]
    obtain ⟨t, M2, ed, hG2, hd⟩ := divide_ok R h (KG2.rf A) (h15_fin (M := A) R h) (fun i => rfl)
    rw [ed, obs]
    have fin : ∀ i j, 0 ≤ i → i < A.1 62 26 → 0 ≤ j → j < A.1 62 26 → IndX N nx fn (A.1 80 i) (A.1 80 j) → fn (A.1 80 i) = fn (A.1 80 j) := by
      intro i j _ _ _ _ ⟨E, hE, e⟩
      have w := (hE _ _ e).1
      have f1 := R.2.2.2.2.2 (A.1 80 i)
      have f2 := R.2.2.2.2.2 (A.1 80 j)
      have w : fn (A.1 80 i) = 1 ↔ fn (A.1 80 j) = 1 := w
      omega
    rcases hd with ⟨et, hB⟩ | hD
    · subst et
      refine OkV.i ⟨hG2, Int.le_refl 0, (show (0 : Int) ≤ 7 by decide), Or.inl ⟨rfl, (show (0 : Int) < 7 by decide), ?_⟩⟩
      exact big_lg h hB (fun i j i0 i1 j0 j1 hI => (fin i j i0 i1 j0 j1 hI).symm)
    · have iff := fun i j (hi : 0 ≤ i ∧ i < A.1 62 26) (hj : 0 ≤ j ∧ j < A.1 62 26) => hD.iff (fun _ _ q => q.symm) (fun _ _ _ q q' => q.trans q') hi hj
      have z := hD.2.2.2.2 0 (Int.le_refl 0) (by omega)
      refine OkV.i ⟨hG2, Int.le_refl 0, hD.1.1, Or.inr ⟨⟨hD.1, fun i a b => ⟨(hD.2.2.2.2 i a b).1, (hD.2.2.2.2 i a b).2.1⟩, hD.2.2.1, fun i j i0 i1 j0 j1 hI => ?_, fun i j i0 i1 j0 j1 e => ?_⟩, fun en => ?_⟩⟩
      · exact (iff i j ⟨i0, i1⟩ ⟨j0, j1⟩).mpr (fin i j i0 i1 j0 j1 hI)
      · exact (iff i j ⟨i0, i1⟩ ⟨j0, j1⟩).mp e
      · have en : 0 = t := en
        omega
/-- steady parts are a machine of kinds -/
theorem Pt.qm {N A : Mem} {nx : Int → Int → Int → Int} {fn : Int → Int} {n : Int} {W L : Int → Int} (R : RA N nx fn) (h : KF N nx A) (hP : Pt N A nx fn n W L) (hS : Stb N A W) : QM (N.1 1 1) (rkC N) (rX N nx) (fun z => fn z = 1) n (fun s a b => W (cm N A s (L a) (L b))) (fun k => fn (A.1 80 (L k)) = 1) (fun z => W (A.1 81 z)) := by
  have ax : ∀ s x y, 0 ≤ s → s < N.1 1 1 → (1 ≤ rkC N s → (0 ≤ A.1 81 x ∧ A.1 81 x < A.1 62 26) ∧ A.1 80 (A.1 81 x) = x) → (2 ≤ rkC N s → (0 ≤ A.1 81 y ∧ A.1 81 y < A.1 62 26) ∧ A.1 80 (A.1 81 y) = y) → A.1 81 (rX N nx s x y) = cm N A s (A.1 81 x) (A.1 81 y) ∧ (0 ≤ A.1 81 (rX N nx s x y) ∧ A.1 81 (rX N nx s x y) < A.1 62 26) ∧ A.1 80 (A.1 81 (rX N nx s x y)) = rX N nx s x y := by
    intro s x y s0 s1 hx hy
    have c := h.cm R (s := s) (x := A.1 81 x) (y := A.1 81 y) s0 s1 (fun q => (hx q).1) (fun q => (hy q).1)
    have e : rX N nx s (A.1 80 (A.1 81 x)) (A.1 80 (A.1 81 y)) = rX N nx s x y := rX_dg N nx _ _ _ _ _ (fun q => (hx q).2) (fun q => (hy q).2)
    rw [e] at c
    have k := (h.2.1.2.1 _ c.1.1 c.1.2).2
    rw [c.2] at k
    rw [k]
    exact ⟨rfl, c.1, c.2⟩
  have all : ∀ z, RX N nx z → (0 ≤ A.1 81 z ∧ A.1 81 z < A.1 62 26) ∧ A.1 80 (A.1 81 z) = z := by
    intro z hz
    refine hz (fun z => (0 ≤ A.1 81 z ∧ A.1 81 z < A.1 62 26) ∧ A.1 80 (A.1 81 z) = z) ?_
    intro s x y s0 s1 hx hy
    exact (ax s x y s0 s1 hx hy).2
  have ld : ∀ i, 0 ≤ i → i < A.1 62 26 → (0 ≤ L (W i) ∧ L (W i) < A.1 62 26) ∧ Lk N A W i (L (W i)) := by
    intro i i0 i1
    have w := hP.2.1 i i0 i1
    have l := hP.2.2.1 _ w.1 w.2
    exact ⟨⟨l.1, l.2.1⟩, hS i _ i0 i1 l.1 l.2.1 l.2.2.symm⟩
  refine ⟨hP.1, ?_, ?_, fun a ra => ?_, fun a ra => ?_, fun a a' ra ra' hI => ?_, fun k k0 k1 => ?_⟩
  · intro s x y x' y' e1 e2
    show W _ = W _
    unfold cm
    rw [ixr_c (fun q => by rw [e1 q]) (fun q => by rw [e2 q])]
  · intro s x y s0 s1 hx hy
    show W (A.1 81 (rX N nx s x y)) = W (cm N A s (L (W (A.1 81 x))) (L (W (A.1 81 y))))
    rw [(ax s x y s0 s1 (fun q => all x (hx q)) (fun q => all y (hy q))).1]
    have rg := R.2.1.1.rk s
    by_cases r0 : rkC N s = 0
    · unfold cm
      rw [ixr_c (fun q => by omega) (fun q => by omega)]
    · by_cases r1 : rkC N s = 1
      · have lx := ld (A.1 81 x) (all x (hx (by omega))).1.1 (all x (hx (by omega))).1.2
        have w := (lx.2.2 s s0 s1).1 r1
        unfold cm at w ⊢
        rw [ixr_c (y' := 0) (fun _ => rfl) (fun q => by omega), w]
        rw [ixr_c (y' := L (W (A.1 81 y))) (fun _ => rfl) (fun q => by omega)]
      · have r2 : rkC N s = 2 := by omega
        have ay := all y (hy (by omega))
        have lx := ld (A.1 81 x) (all x (hx (by omega))).1.1 (all x (hx (by omega))).1.2
        have ly := ld (A.1 81 y) ay.1.1 ay.1.2
        rw [((lx.2.2 s s0 s1).2 r2 _ ay.1.1 ay.1.2).1, ((ly.2.2 s s0 s1).2 r2 _ lx.1.1 lx.1.2).2]
  · exact hP.2.1 _ (all a ra).1.1 (all a ra).1.2
  · have w := all a ra
    have l := ld _ w.1.1 w.1.2
    have f := hP.2.2.2.2 _ _ w.1.1 w.1.2 l.1.1 l.1.2 l.2.1
    rw [w.2] at f
    show fn a = 1 ↔ fn (A.1 80 (L (W (A.1 81 a)))) = 1
    rw [f]
  · have w := all a ra
    have w' := all a' ra'
    refine hP.2.2.2.1 _ _ w.1.1 w.1.2 w'.1.1 w'.1.2 ?_
    rw [w.2, w'.2]
    exact hI
  · have l := hP.2.2.1 k k0 k1
    have kk := h.2.1.2.1 _ l.1 l.2.1
    refine ⟨A.1 80 (L k), kk.1, ?_⟩
    show W (A.1 81 (A.1 80 (L k))) = k
    rw [kk.2]
    exact l.2.2
