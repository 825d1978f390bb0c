/-! the reference: which keys are alike -/
def KG (A M : Mem) : Prop := KC A M ∧ M.1 62 26 = A.1 62 26 ∧ M.1 80 = A.1 80 ∧ M.1 81 = A.1 81 ∧ M.1 85 = A.1 85
theorem KG.rf (A : Mem) : KG A A := ⟨KC.rf A, rfl, rfl, rfl, rfl⟩
theorem KG.up {A M : Mem} (h : KG A M) {a k v : Int} (ha : (a = 62 ∧ (34 ≤ k ∧ k ≤ 38)) ∨ (76 ≤ a ∧ a ≤ 89 ∧ a ≠ 80 ∧ a ≠ 81 ∧ a ≠ 85)) : KG A (up M a k v) := by
  refine ⟨h.1.up (by omega), ?_, ?_, ?_, ?_⟩
  · rw [up_1, if_neg (by omega)]; exact h.2.1
  · rw [up_n (by omega)]; exact h.2.2.1
  · rw [up_n (by omega)]; exact h.2.2.2.1
  · rw [up_n (by omega)]; exact h.2.2.2.2
theorem KG.tr {A M M' : Mem} (h : KG A M) (h' : KG M M') : KG A M' := ⟨h.1.tr h'.1, h'.2.1.trans h.2.1, h'.2.2.1.trans h.2.2.1, h'.2.2.2.1.trans h.2.2.2.1, h'.2.2.2.2.trans h.2.2.2.2⟩
/-- all keys are found -/
def KF (N : Mem) (nx : Int → Int → Int → Int) (A : Mem) : Prop := KI N nx (PA N (A.1 62 26) 0 0 0) A
/-- the key that a sign makes of two -/
def cm (N A : Mem) (s x y : Int) : Int := A.1 85 (ixr (rkC N) s x y)
theorem KF.cm {N A : Mem} {nx : Int → Int → Int → Int} {fn : Int → Int} (R : RA N nx fn) (h : KF N nx A) {s x y : Int} (s0 : 0 ≤ s) (s1 : s < N.1 1 1) (hx : 1 ≤ rkC N s → 0 ≤ x ∧ x < A.1 62 26) (hy : 2 ≤ rkC N s → 0 ≤ y ∧ y < A.1 62 26) : (0 ≤ cm N A s x y ∧ cm N A s x y < A.1 62 26) ∧ A.1 80 (cm N A s x y) = rX N nx s (A.1 80 x) (A.1 80 y) := by
  have rg := R.2.1.1.rk s
  have w := h.2.2.1 s x y s0 s1 (by
    unfold PA
    by_cases r0 : rkC N s = 0
    · exact Or.inl r0
    · by_cases r1 : rkC N s = 1
      · have := hx (by omega); right; left; omega
      · have := hx (by omega); have := hy (by omega); right; right; omega)
  have rz : RX N nx (rX N nx s (A.1 80 x) (A.1 80 y)) := Rch.mk s0 s1 (fun q => (h.2.1.2.1 x (hx q).1 (hx q).2).1) (fun q => (h.2.1.2.1 y (hy q).1 (hy q).2).1)
  have zb := R.2.2.2.2.1 _ rz
  have e : Pilot.CTreeTonguesLaw_law_r3355_3c53dc.cm N A s x y = A.1 81 (rX N nx s (A.1 80 x) (A.1 80 y)) := w.2.2.1
  rcases h.2.1.2.2 _ zb.1 zb.2 with q | q
  · have := w.2.2.2; omega
  · rw [e]; exact ⟨⟨q.1, q.2.1⟩, q.2.2⟩
theorem partOf_ok {N A M : Mem} {nx : Int → Int → Int → Int} {fn : Int → Int} (R : RA N nx fn) (h : KF N nx A) (hG : KG A M) {s x y : Int} (s0 : 0 ≤ s) (s1 : s < N.1 1 1) (hx : 1 ≤ rkC N s → 0 ≤ x ∧ x < A.1 62 26) (hy : 2 ≤ rkC N s → 0 ≤ y ∧ y < A.1 62 26) (hx0 : ¬ 1 ≤ rkC N s → x = 0) (hy0 : ¬ 2 ≤ rkC N s → y = 0) : D_M_partOf 62 s x y M = some (M.1 82 (cm N A s x y), M) := by
  have hS := ((h.1.tr hG.1).sb R.1).m_
  have c := (h.cm R s0 s1 hx hy).1
  have r := h.2.1.1
  have n6 := R.2.1.1.2.1
  have ir := ixr_r (rk := rkC N) (x := x) (y := y) s0 (by omega) (fun q => by have := hx q; omega) (fun q => by have := hy q; omega)
  have xb : 0 ≤ x ∧ x < 512 := by
    by_cases q : 1 ≤ rkC N s
    · have := hx q; omega
    · have := hx0 q; omega
  have yb : 0 ≤ y ∧ y < 512 := by
    by_cases q : 2 ≤ rkC N s
    · have := hy q; omega
    · have := hy0 q; omega
  have ei : wr (wr (wr (262144 * s) + wr (512 * x)) + y) = ixr (rkC N) s x y := by
    rw [wr_eq (z := 262144 * s) (by omega) (by omega), wr_eq (z := 512 * x) (by omega) (by omega), wr_eq (z := 262144 * s + 512 * x) (by omega) (by omega), wr_eq (by omega) (by omega)]
    unfold ixr
    by_cases q1 : 1 ≤ rkC N s
    · rw [if_pos q1]
      by_cases q2 : 2 ≤ rkC N s
      · rw [if_pos q2]
      · rw [if_neg q2, hy0 q2]
    · rw [if_neg q1, if_neg (show ¬ 2 ≤ rkC N s by omega), hx0 q1, hy0 (by omega)]
  have e85 : M.1 85 (ixr (rkC N) s x y) = cm N A s x y := by rw [hG.2.2.2.2]; rfl
  have c2 : cm N A s x y < 512 := by omega
  unfold D_M_partOf
  simp [-Option.bind_some, -Option.bind_none, gf, pf, rd, wt, ck, ln, lt, bz, nq, up_1, up_2, obs, obn, hS, ei, ir, e85, c, c2]
def Lk1 (N A : Mem) (part : Int → Int) (i j s : Int) : Prop := (rkC N s = 1 → part (cm N A s i 0) = part (cm N A s j 0)) ∧ (rkC N s = 2 → ∀ l, 0 ≤ l → l < A.1 62 26 → part (cm N A s i l) = part (cm N A s j l) ∧ part (cm N A s l i) = part (cm N A s l j))
def Lk (N A : Mem) (part : Int → Int) (i j : Int) : Prop := part i = part j ∧ ∀ s, 0 ≤ s → s < N.1 1 1 → Lk1 N A part i j s
theorem al76_lp {N A M : Mem} {nx : Int → Int → Int → Int} {fn : Int → Int} (R : RA N nx fn) (h : KF N nx A) (hG : KG A M) {s i j : Int} (s0 : 0 ≤ s) (s1 : s < N.1 1 1) (hi : 0 ≤ i ∧ i < A.1 62 26) (hj : 0 ≤ j ∧ j < A.1 62 26) (r2 : rkC N s = 2) (P : Option (Int × Mem) → Prop) (k : Int → Mem → Option (Int × Mem)) (h1 : (∀ l, 0 ≤ l → l < A.1 62 26 → M.1 82 (cm N A s i l) = M.1 82 (cm N A s j l) ∧ M.1 82 (cm N A s l i) = M.1 82 (cm N A s l j)) → P (k 1 M)) (h0 : (¬ ∀ l, 0 ≤ l → l < A.1 62 26 → M.1 82 (cm N A s i l) = M.1 82 (cm N A s j l) ∧ M.1 82 (cm N A s l i) = M.1 82 (cm N A s l j)) → P (k 0 M)) : P (L_M_areLike_76 k 62 i j s FU 1 0 M) := by
  have r := h.2.1.1
  have hS := ((h.1.tr hG.1).sb R.1).m_
  have m := R.m (h.1.tr hG.1)
  have n6 := R.2.1.1.2.1
  have rk := m.2.2 s s0 s1
  have s6 : s < 6 := by omega
  refine lq2 (fun n a b M' => L_M_areLike_76 k 62 i j s n a b M') (fun a l M' => M' = M ∧ 0 ≤ l ∧ l ≤ A.1 62 26 ∧ ((a = 1 ∧ ∀ l', 0 ≤ l' → l' < l → M.1 82 (cm N A s i l') = M.1 82 (cm N A s j l') ∧ M.1 82 (cm N A s l' i) = M.1 82 (cm N A s l' j)) ∨ (a = 0 ∧ ¬ ∀ l, 0 ≤ l → l < A.1 62 26 → M.1 82 (cm N A s i l) = M.1 82 (cm N A s j l) ∧ M.1 82 (cm N A s l i) = M.1 82 (cm N A s l j)))) (fun a l => (A.1 62 26 - l).toNat) P ?_ ⟨rfl, Int.le_refl 0, r.1, Or.inl ⟨rfl, fun l' a b => by omega⟩⟩ (by have := FU_eq; omega)
  intro n a l M' ⟨hM, l0, l1, hI⟩ ih
  subst hM
  show P (L_M_areLike_76 k 62 i j s (n + 1) a l M')
  rw [L_M_areLike_76]
  have e26 := hG.2.1
  by_cases hl : A.1 62 26 ≤ l
  · simp [-Option.bind_some, -Option.bind_none, gf, pf, rd, wt, ck, ln, lt, bz, nq, up_1, up_2, obs, obn, hS, e26, hl]
    rcases hI with ⟨ea, w⟩ | ⟨ea, w⟩
    · subst ea
      exact h1 (fun l' a b => w l' a (by omega))
    · subst ea
      exact h0 w
  · rcases hI with ⟨ea, w⟩ | ⟨ea, w⟩
    · subst ea
      have e1 : wr (l + 1) = l + 1 := wr_eq (by omega) (by omega)
      have lr : 0 ≤ l ∧ l < A.1 62 26 := ⟨l0, by omega⟩
      have p1 := partOf_ok R h hG (s := s) (x := i) (y := l) s0 s1 (fun _ => hi) (fun _ => lr) (fun q => by omega) (fun q => by omega)
      have p2 := partOf_ok R h hG (s := s) (x := j) (y := l) s0 s1 (fun _ => hj) (fun _ => lr) (fun q => by omega) (fun q => by omega)
      have p3 := partOf_ok R h hG (s := s) (x := l) (y := i) s0 s1 (fun _ => lr) (fun _ => hi) (fun q => by omega) (fun q => by omega)
      have p4 := partOf_ok R h hG (s := s) (x := l) (y := j) s0 s1 (fun _ => lr) (fun _ => hj) (fun q => by omega) (fun q => by omega)
      by_cases q1 : M'.1 82 (cm N A s i l) = M'.1 82 (cm N A s j l)
      · by_cases q2 : M'.1 82 (cm N A s l i) = M'.1 82 (cm N A s l j)
        · simp [-Option.bind_some, -Option.bind_none, gf, pf, rd, wt, ck, ln, lt, bz, nq, up_1, up_2, obs, obn, hS, e26, hl, s0, s6, rk, r2, p1, p2, p3, p4, q1, q2, e1]
          refine ih 1 (l + 1) M' ⟨rfl, by omega, by omega, Or.inl ⟨rfl, fun l' a b => ?_⟩⟩ (by omega)
          by_cases e : l' = l
          · rw [e]; exact ⟨q1, q2⟩
          · exact w l' a (by omega)
        · simp [-Option.bind_some, -Option.bind_none, gf, pf, rd, wt, ck, ln, lt, bz, nq, up_1, up_2, obs, obn, hS, e26, hl, s0, s6, rk, r2, p1, p2, p3, p4, q1, q2, e1]
          exact ih 0 (l + 1) M' ⟨rfl, by omega, by omega, Or.inr ⟨rfl, fun z => q2 (z l l0 (by omega)).2⟩⟩ (by omega)
      · simp [-Option.bind_some, -Option.bind_none, gf, pf, rd, wt, ck, ln, lt, bz, nq, up_1, up_2, obs, obn, hS, e26, hl, s0, s6, rk, r2, p1, p2, q1, e1]
        exact ih 0 (l + 1) M' ⟨rfl, by omega, by omega, Or.inr ⟨rfl, fun z => q1 (z l l0 (by omega)).1⟩⟩ (by omega)
    · subst ea
      simp [-Option.bind_some, -Option.bind_none, gf, pf, rd, wt, ck, ln, lt, bz, nq, up_1, up_2, obs, obn, hS, e26, hl, s0, s6, rk, r2]
      exact h0 w
theorem al76_no {N A M : Mem} {nx : Int → Int → Int → Int} {fn : Int → Int} (R : RA N nx fn) (h : KF N nx A) (hG : KG A M) {s i j a : Int} (s0 : 0 ≤ s) (s1 : s < N.1 1 1) (r2 : rkC N s ≠ 2 ∨ a = 0) (k : Int → Mem → Option (Int × Mem)) : L_M_areLike_76 k 62 i j s FU a 0 M = k a M := by
  have m := R.m (h.1.tr hG.1)
  have hS := m.1.m_
  have n6 := R.2.1.1.2.1
  have rk := m.2.2 s s0 s1
  have s6 : s < 6 := by omega
  obtain ⟨fu, efu⟩ : ∃ fu, FU = fu + 1 := ⟨99999, FU_eq⟩
  rw [efu, L_M_areLike_76]
  by_cases q : M.1 62 26 ≤ 0
  · simp [-Option.bind_some, -Option.bind_none, gf, pf, rd, wt, ck, ln, lt, bz, nq, up_1, up_2, obs, obn, hS, q]
  · by_cases q2 : rkC N s = 2
    · have : a = 0 := by
        rcases r2 with w | w
        · exact absurd q2 w
        · exact w
      subst this
      simp [-Option.bind_some, -Option.bind_none, gf, pf, rd, wt, ck, ln, lt, bz, nq, up_1, up_2, obs, obn, hS, q, s0, s6, rk, q2]
    · simp [-Option.bind_some, -Option.bind_none, gf, pf, rd, wt, ck, ln, lt, bz, nq, up_1, up_2, obs, obn, hS, q, s0, s6, rk, q2]
theorem areLike_ok {N A M : Mem} {nx : Int → Int → Int → Int} {fn : Int → Int} (R : RA N nx fn) (h : KF N nx A) (hG : KG A M) {i j : Int} (hi : 0 ≤ i ∧ i < A.1 62 26) (hj : 0 ≤ j ∧ j < A.1 62 26) (P : Option (Int × Mem) → Prop) (h1 : Lk N A (M.1 82) i j → P (some (1, M))) (h0 : ¬ Lk N A (M.1 82) i j → P (some (0, M))) : P (D_M_areLike 62 i j M) := by
  have r := h.2.1.1
  have m := R.m (h.1.tr hG.1)
  have hS := m.1.m_
  have n0 := R.2.1.1.1
  have n6 := R.2.1.1.2.1
  have i5 : i < 512 := by omega
  have j5 : j < 512 := by omega
  unfold D_M_areLike
  have key : ∀ t : Int, ((t = 1 ∧ M.1 82 i = M.1 82 j) ∨ (t = 0 ∧ ¬ M.1 82 i = M.1 82 j)) → P (L_M_areLike_24 (fun w3_24 m24 => (bz w3_24).bind fun _ => some (w3_24, m24)) 62 i j FU t 0 M) := by
    intro t ht
    refine lq2 (fun n a b M' => L_M_areLike_24 (fun w3_24 m24 => (bz w3_24).bind fun _ => some (w3_24, m24)) 62 i j n a b M') (fun a s M' => M' = M ∧ 0 ≤ s ∧ s ≤ N.1 1 1 ∧ ((a = 1 ∧ M.1 82 i = M.1 82 j ∧ ∀ s', 0 ≤ s' → s' < s → Lk1 N A (M.1 82) i j s') ∨ (a = 0 ∧ ¬ Lk N A (M.1 82) i j))) (fun a s => (N.1 1 1 - s).toNat) P ?_ ⟨rfl, Int.le_refl 0, n0, ?_⟩ (by have := FU_eq; omega)
    · intro n a s M' ⟨hM, s0, s1, hI⟩ ih
      subst hM
      show P (L_M_areLike_24 _ 62 i j (n + 1) a s M')
      rw [L_M_areLike_24]
      by_cases hs : N.1 1 1 ≤ s
      · rcases hI with ⟨ea, w1, w2⟩ | ⟨ea, w⟩
        · subst ea
          simp [-Option.bind_some, -Option.bind_none, gf, pf, rd, wt, ck, ln, lt, bz, nq, up_1, up_2, obs, obn, hS, m.2.1, hs]
          exact h1 ⟨w1, fun s' a b => w2 s' a (by omega)⟩
        · subst ea
          simp [-Option.bind_some, -Option.bind_none, gf, pf, rd, wt, ck, ln, lt, bz, nq, up_1, up_2, obs, obn, hS, m.2.1, hs]
          exact h0 w
      · have e1 : wr (s + 1) = s + 1 := wr_eq (by omega) (by omega)
        have s6 : s < 6 := by omega
        have rk := m.2.2 s s0 (by omega)
        rcases hI with ⟨ea, w1, w2⟩ | ⟨ea, w⟩
        · subst ea
          have nxt : Lk1 N A (M'.1 82) i j s → ∀ s', 0 ≤ s' → s' < s + 1 → Lk1 N A (M'.1 82) i j s' := fun q s' a b => by
            by_cases e : s' = s
            · rw [e]; exact q
            · exact w2 s' a (by omega)
          by_cases r1 : rkC N s = 1
          · have p1 := partOf_ok R h hG (s := s) (x := i) (y := 0) s0 (by omega) (fun _ => hi) (fun q => by omega) (fun q => by omega) (fun _ => rfl)
            have p2 := partOf_ok R h hG (s := s) (x := j) (y := 0) s0 (by omega) (fun _ => hj) (fun q => by omega) (fun q => by omega) (fun _ => rfl)
            have no : rkC N s ≠ 2 := by omega
            by_cases q1 : M'.1 82 (cm N A s i 0) = M'.1 82 (cm N A s j 0)
            · simp [-Option.bind_some, -Option.bind_none, gf, pf, rd, wt, ck, ln, lt, bz, nq, up_1, up_2, obs, obn, hS, m.2.1, hs, s0, s6, rk, r1, p1, p2, q1, e1]
              rw [al76_no R h hG s0 (by omega) (Or.inl no)]
              exact ih 1 (s + 1) M' ⟨rfl, by omega, by omega, Or.inl ⟨rfl, w1, nxt ⟨fun _ => q1, fun q => by omega⟩⟩⟩ (by omega)
            · simp [-Option.bind_some, -Option.bind_none, gf, pf, rd, wt, ck, ln, lt, bz, nq, up_1, up_2, obs, obn, hS, m.2.1, hs, s0, s6, rk, r1, p1, p2, q1, e1]
              rw [al76_no R h hG s0 (by omega) (Or.inl no)]
              exact ih 0 (s + 1) M' ⟨rfl, by omega, by omega, Or.inr ⟨rfl, fun z => q1 ((z.2 s s0 (by omega)).1 r1)⟩⟩ (by omega)
          · by_cases r2 : rkC N s = 2
            · simp [-Option.bind_some, -Option.bind_none, gf, pf, rd, wt, ck, ln, lt, bz, nq, up_1, up_2, obs, obn, hS, m.2.1, hs, s0, s6, rk, r2, e1]
              refine al76_lp R h hG s0 (by omega) hi hj r2 P _ (fun z => ?_) (fun z => ?_)
              · exact ih 1 (s + 1) M' ⟨rfl, by omega, by omega, Or.inl ⟨rfl, w1, nxt ⟨fun q => by omega, fun _ => z⟩⟩⟩ (by omega)
              · exact ih 0 (s + 1) M' ⟨rfl, by omega, by omega, Or.inr ⟨rfl, fun y => z ((y.2 s s0 (by omega)).2 r2)⟩⟩ (by omega)
            · simp [-Option.bind_some, -Option.bind_none, gf, pf, rd, wt, ck, ln, lt, bz, nq, up_1, up_2, obs, obn, hS, m.2.1, hs, s0, s6, rk, r1, r2, e1]
              rw [al76_no R h hG s0 (by omega) (Or.inl r2)]
              exact ih 1 (s + 1) M' ⟨rfl, by omega, by omega, Or.inl ⟨rfl, w1, nxt ⟨fun q => absurd q r1, fun q => absurd q r2⟩⟩⟩ (by omega)
        · subst ea
          simp [-Option.bind_some, -Option.bind_none, gf, pf, rd, wt, ck, ln, lt, bz, nq, up_1, up_2, obs, obn, hS, m.2.1, hs]
          exact h0 w
    · rcases ht with ⟨e, w⟩ | ⟨e, w⟩
      · exact Or.inl ⟨e, w, fun s' a b => by omega⟩
      · exact Or.inr ⟨e, fun z => w z.1⟩
  by_cases q : M.1 82 i = M.1 82 j
  · have := key 1 (Or.inl ⟨rfl, q⟩)
    simp [-Option.bind_some, -Option.bind_none, gf, pf, rd, wt, ck, ln, lt, bz, nq, up_1, up_2, obs, obn, hS, hi, hj, i5, j5, q]
    exact this
  · have := key 0 (Or.inr ⟨rfl, q⟩)
    simp [-Option.bind_some, -Option.bind_none, gf, pf, rd, wt, ck, ln, lt, bz, nq, up_1, up_2, obs, obn, hS, hi, hj, i5, j5, q]
    exact this
