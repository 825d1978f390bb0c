/-! a machine takes its kinds -/
abbrev MS (M : Mem) (p : Int) : Prop := M.2.1 p = (1, 14) ∧ M.2.1 (p + 1) = (10, 216) ∧ M.2.1 (p + 2) = (10, 6) ∧ M.2.1 (p + 3) = (10, 6) ∧ M.2.1 (p + 4) = (10, 6) ∧ M.2.1 (p + 5) = (10, 6) ∧ M.2.1 (p + 6) = (11, 246) ∧ M.2.1 (p + 7) = (10, 6) ∧ M.2.1 (p + 8) = (10, 6) ∧ M.2.1 (p + 9) = (10, 6) ∧ M.1 p 0 = 1 ∧ M.1 p 1 = p + 1 ∧ M.1 p 2 = p + 2 ∧ M.1 p 3 = p + 3 ∧ M.1 p 4 = p + 4 ∧ M.1 p 5 = p + 5 ∧ M.1 p 6 = p + 6 ∧ M.1 p 7 = p + 7 ∧ M.1 p 8 = p + 8 ∧ M.1 p 9 = p + 9
def Fm (p : Int) (A M : Mem) : Prop := M.2 = A.2 ∧ (∀ a, a < p ∨ p + 9 < a → M.1 a = A.1 a) ∧ ∀ k, k < 10 → M.1 p k = A.1 p k
theorem Fm.rf (p : Int) (A : Mem) : Fm p A A := ⟨rfl, fun _ _ => rfl, fun _ _ => rfl⟩
theorem Fm.up {p : Int} {A M : Mem} (h : Fm p A M) {a k v : Int} (a0 : p ≤ a) (a1 : a ≤ p + 9) (hk : a = p → 10 ≤ k) : Fm p A (up M a k v) := by
  refine ⟨by rw [up_2]; exact h.1, fun a' q => by rw [up_n (by omega)]; exact h.2.1 a' q, fun k' q => ?_⟩
  rw [up_1, if_neg (fun w => by have := hk w.1.symm; omega)]
  exact h.2.2 k' q
theorem Fm.sc {p : Int} {A M : Mem} (h : Fm p A M) {a : Int} {f : Int → Int} (a0 : p < a) (a1 : a ≤ p + 9) : Fm p A (sc M a f) := by
  refine ⟨by rw [sc_2]; exact h.1, fun a' q => by rw [sc_n (by omega)]; exact h.2.1 a' q, fun k' q => ?_⟩
  rw [sc_n (by omega)]
  exact h.2.2 k' q
theorem Fm.tr {p : Int} {A M M' : Mem} (h : Fm p A M) (h' : Fm p M M') : Fm p A M' := ⟨h'.1.trans h.1, fun a q => (h'.2.1 a q).trans (h.2.1 a q), fun k q => (h'.2.2 k q).trans (h.2.2 k q)⟩
theorem Fm.ms {p : Int} {A M : Mem} (h : Fm p A M) (q : MS A p) : MS M p := by
  unfold MS
  rw [h.1, h.2.2 0 (by decide), h.2.2 1 (by decide), h.2.2 2 (by decide), h.2.2 3 (by decide), h.2.2 4 (by decide), h.2.2 5 (by decide), h.2.2 6 (by decide), h.2.2 7 (by decide), h.2.2 8 (by decide), h.2.2 9 (by decide)]
  exact q
theorem Fm.sb {p : Int} {A M : Mem} (h : Fm p A M) (hp : p = 50 ∨ 100 ≤ p) (q : SB A) : SB M := by
  refine SB_c q h.1 (fun a k s => ?_)
  by_cases w : a < p ∨ p + 9 < a
  · rw [h.2.1 a w]
  · rcases hp with e | e
    · subst e
      unfold stp at s
      have : a = 50 ∧ k < 10 := by omega
      rw [this.1]
      exact h.2.2 k this.2
    · exfalso
      unfold stp at s
      omega
theorem SBP.ms {M : Mem} (h : SB M) : MS M 50 := h.p_
/-- what holds of all memories while machine p is made -/
def Mc (p : Int) (A M : Mem) : Prop := Fm p A M ∧ SB M ∧ MS M p ∧ rkC M = rkC A ∧ M.1 1 1 = A.1 1 1 ∧ M.1 17 = A.1 17
theorem Fm.mc {p : Int} {A M : Mem} (h : Fm p A M) (hp : p = 50 ∨ 100 ≤ p) (q : SB A) (w : MS A p) : Mc p A M := by
  have c1 : M.1 1 = A.1 1 := h.2.1 1 (by omega)
  have c2 : M.1 2 = A.1 2 := h.2.1 2 (by omega)
  refine ⟨h, h.sb hp q, h.ms w, ?_, by rw [c1], h.2.1 17 (by omega)⟩
  funext s
  unfold rkC
  rw [c1, c2]
def tau (A : Mem) (s a b : Int) : Int := A.1 17 (cel (rkC A s) s a b 6)
theorem kindWith_m {M : Mem} {p s x y : Int} (hB : SB M) (hM : MS M p) (hg : SgOk M) (hs : 0 ≤ s ∧ s < 6) (hx : 0 ≤ x ∧ x < 6) (hy : 0 ≤ y ∧ y < 6) (vx : 0 < rkC M s → 0 ≤ M.1 (p + 8) x ∧ M.1 (p + 8) x < 6) (vy : 1 < rkC M s → 0 ≤ M.1 (p + 8) y ∧ M.1 (p + 8) y < 6) (ht : 0 ≤ tau M s (M.1 (p + 8) x) (M.1 (p + 8) y)) : D_Machine_kindWith p 17 s x y M = some (tau M s (M.1 (p + 8) x) (M.1 (p + 8) y), M) := by
  have ce := cell_ok hB.s_ hg.2.1 (s := s) (x := M.1 (p + 8) x) (y := M.1 (p + 8) y) (w := 6) hs (by decide) (fun q => by have := vx q; omega) (fun q => by have := vy q; omega)
  have cr := cel_r (r := rkC M s) hs vx vy
  unfold tau at ht ⊢
  have e : (if 0 < M.1 17 (cel (rkC M s) s (M.1 (p + 8) x) (M.1 (p + 8) y) 6) then M.1 17 (cel (rkC M s) s (M.1 (p + 8) x) (M.1 (p + 8) y) 6) else 0) = M.1 17 (cel (rkC M s) s (M.1 (p + 8) x) (M.1 (p + 8) y) 6) := by
    by_cases q : 0 < M.1 17 (cel (rkC M s) s (M.1 (p + 8) x) (M.1 (p + 8) y) 6)
    · rw [if_pos q]
    · rw [if_neg q]; omega
  unfold D_Machine_kindWith
  simp [-Option.bind_some, -Option.bind_none, gf, pf, rd, wt, ck, ln, lt, bz, nq, up_1, up_2, obs, obn, hM, hB.s_, hx, hy, ce, cr, hB.d_, e]
theorem sizeWith_m {M : Mem} {p s x y : Int} (hB : SB M) (hM : MS M p) (hg : SgOk M) (hx : 0 ≤ x ∧ x < 6) (hy : 0 ≤ y ∧ y < 6) (vx : 1 ≤ rkC M s → 0 ≤ M.1 (p + 5) x ∧ M.1 (p + 5) x < 64) (vy : 2 ≤ rkC M s → 0 ≤ M.1 (p + 5) y ∧ M.1 (p + 5) y < 64) : D_Machine_sizeWith p s x y M = some (szf (rkC M) (M.1 (p + 5)) s x y, M) := by
  have rko := rankOf_ok hB.s_ hg.2.1 s
  unfold D_Machine_sizeWith szf
  by_cases q1 : 1 ≤ rkC M s
  · have n1 : ¬ rkC M s ≤ 0 := by omega
    have v1 := vx q1
    by_cases q2 : 2 ≤ rkC M s
    · have n2 : ¬ rkC M s ≤ 1 := by omega
      have v2 := vy q2
      simp [-Option.bind_some, -Option.bind_none, gf, pf, rd, wt, ck, ln, lt, bz, nq, up_1, up_2, obs, obn, hM, hB.s_, hx, hy, rko, n1, n2, q1, q2]
      rw [wr_eq (z := 1 + M.1 (p + 5) x) (by omega) (by omega), wr_eq (by omega) (by omega)]
    · have n2 : rkC M s ≤ 1 := by omega
      simp [-Option.bind_some, -Option.bind_none, gf, pf, rd, wt, ck, ln, lt, bz, nq, up_1, up_2, obs, obn, hM, hB.s_, hx, hy, rko, n1, n2, q1, q2]
      rw [wr_eq (z := 1 + M.1 (p + 5) x) (by omega) (by omega), wr_eq (by omega) (by omega)]
  · have n1 : rkC M s ≤ 0 := by omega
    have n2 : rkC M s ≤ 1 := by omega
    have q2 : ¬ 2 ≤ rkC M s := by omega
    simp [-Option.bind_some, -Option.bind_none, gf, pf, rd, wt, ck, ln, lt, bz, nq, up_1, up_2, obs, obn, hM, hB.s_, hx, hy, rko, n1, n2, q1, q2]
    rw [wr_eq (z := 1) (by omega) (by omega), wr_eq (by omega) (by omega)]
/-- only the places of class c have changed -/
def Fc (p c : Int) (N M : Mem) : Prop := ∀ a k, (k = c → a ≠ p + 2 ∧ a ≠ p + 3 ∧ a ≠ p + 4 ∧ a ≠ p + 5) → M.1 a k = N.1 a k
abbrev NPm (A N : Mem) (p kc c : Int) : Prop := NP (A.1 1 1) (rkC A) (tau A) kc c (N.1 (p + 8)) (N.1 (p + 9)) (N.1 (p + 5)) (N.1 (p + 2)) (N.1 (p + 3)) (N.1 (p + 4))
def FH (A N : Mem) (p c kc : Int) : Prop := SB A ∧ SgOk A ∧ MS A p ∧ (p = 50 ∨ 100 ≤ p) ∧ Fm p A N ∧ 0 ≤ c ∧ c < kc ∧ kc ≤ 6 ∧ NPm A N p kc c ∧ ∀ s x y, 0 ≤ s → s < A.1 1 1 → Arg (rkC A) c s x y → 0 ≤ tau A s (N.1 (p + 8) x) (N.1 (p + 8) y) ∧ tau A s (N.1 (p + 8) x) (N.1 (p + 8) y) < kc
def FI (A N : Mem) (p c : Int) (s x y fnd : Int) (M : Mem) : Prop := Fm p A M ∧ Fc p c N M ∧ BI (M.1 (p + 5) c = 1000) (A.1 1 1) (rkC A) (tau A) c (N.1 (p + 8)) (N.1 (p + 9)) (N.1 (p + 5)) s x y fnd (M.1 (p + 5) c) (M.1 (p + 2) c) (M.1 (p + 3) c) (M.1 (p + 4) c)
theorem SgOk.fm {p : Int} {A M : Mem} (h : SgOk A) (f : Fm p A M) (hp : p = 50 ∨ 100 ≤ p) : SgOk M := by
  unfold SgOk
  rw [f.2.1 1 (by omega), f.2.1 2 (by omega)]
  exact h
theorem tau_m {p : Int} {A M : Mem} (h : Mc p A M) : tau M = tau A := by
  funext s a b
  unfold tau
  rw [h.2.2.2.1, h.2.2.2.2.2]
theorem pa1 (p a b : Int) : p + a = p + b ↔ a = b := by omega
theorem pa2 (p a : Int) : p + a = p ↔ a = 0 := by omega
theorem pa3 (p a : Int) : p = p + a ↔ a = 0 := by omega
theorem ff48_lp {A N M : Mem} {p c kc s x fnd : Int} (H : FH A N p c kc) (s0 : 0 ≤ s) (s1 : s < A.1 1 1) (hx : (1 ≤ rkC A s → 0 ≤ x ∧ x < c) ∧ (¬ 1 ≤ rkC A s → x = 0)) (P : Option (Int × Mem) → Prop) (k : Int → Mem → Option (Int × Mem)) (h2 : ∀ f M', FI A N p c s (x + 1) 0 f M' → P (k f M')) (hI : FI A N p c s x 0 fnd M) : P (L_Machine_findFirst_48 k p 17 c s x FU fnd 0 M) := by
  obtain ⟨hB, hg, hMS, hp, hFN, c0, c1, k6, hNP, hT⟩ := H
  have rg := hg.rk s
  have n6 := hg.2.1
  have cc : 2 ≤ rkC A s → 1 ≤ c := fun q => by have := hx.1 (by omega); omega
  refine lq2 (fun n a b M' => L_Machine_findFirst_48 k p 17 c s x n a b M') (fun f y M' => 0 ≤ y ∧ (2 ≤ rkC A s → y ≤ c) ∧ (¬ 2 ≤ rkC A s → y ≤ 1) ∧ FI A N p c s x y f M') (fun f y => (6 - y).toNat) P ?_ ⟨Int.le_refl 0, fun q => c0, fun _ => by decide, hI⟩ (by have := FU_eq; omega)
  clear hI M fnd
  intro n fnd y M ⟨y0, y1, y2, hF, hC, hBI⟩ ih
  show P (L_Machine_findFirst_48 k p 17 c s x (n + 1) fnd y M)
  have mc := hF.mc hp hB hMS
  have hBM := mc.2.1
  have hM := mc.2.2.1
  have hgM := hg.fm hF hp
  have cho := choices_ok hBM.s_ hgM.2.1 s 1 c
  rw [mc.2.2.2.1] at cho
  rw [L_Machine_findFirst_48]
  by_cases hy : (if 1 < rkC A s then c else 1) ≤ y
  · simp [-Option.bind_some, -Option.bind_none, gf, pf, rd, wt, ck, ln, lt, bz, nq, up_1, up_2, obs, obn, hM, hBM.s_, cho, hy]
    refine h2 _ _ ⟨hF, hC, hBI.ny ?_⟩
    by_cases q : 2 ≤ rkC A s
    · rw [if_pos (by omega)] at hy
      have := cc q
      exact ⟨fun _ => hy, by omega⟩
    · rw [if_neg (by omega)] at hy
      exact ⟨fun w => absurd w q, hy⟩
  · have hA : Arg (rkC A) c s x y := by
      refine ⟨hx.1, hx.2, fun q => ?_, fun q => ?_⟩
      · rw [if_pos (by omega)] at hy; omega
      · rw [if_neg (by omega)] at hy; omega
    have nn := hA.nn
    have x6 : 0 ≤ x ∧ x < 6 := by
      by_cases q : 1 ≤ rkC A s
      · have := hx.1 q; omega
      · have := hx.2 q; omega
    have y6 : 0 ≤ y ∧ y < 6 := by
      by_cases q : 2 ≤ rkC A s
      · have := hA.2.2.1 q; omega
      · have := hA.2.2.2 q; omega
    have e1 : wr (y + 1) = y + 1 := wr_eq (by omega) (by omega)
    have c8 : M.1 (p + 8) = N.1 (p + 8) := funext fun i => hC _ _ (fun _ => by omega)
    have c9 : M.1 (p + 9) = N.1 (p + 9) := funext fun i => hC _ _ (fun _ => by omega)
    have t := hT s x y s0 s1 hA
    have b63 := hNP.b63 (by omega)
    have c5 : ∀ i, 0 ≤ i → i < c → M.1 (p + 5) i = N.1 (p + 5) i := fun i i0 i1 => hC _ _ (fun q => by omega)
    have kw := kindWith_m (p := p) hBM hM hgM (s := s) (x := x) (y := y) ⟨s0, by omega⟩ x6 y6 (by
      rw [mc.2.2.2.1, c8]; intro q; have := hNP.k x (hA.1 q).1 (hA.1 q).2; omega) (by
      rw [mc.2.2.2.1, c8]; intro q; have := hNP.k y (hA.2.2.1 q).1 (hA.2.2.1 q).2; omega) (by rw [tau_m mc, c8]; exact t.1)
    rw [tau_m mc, c8] at kw
    have sw := sizeWith_m (p := p) hBM hM hgM (s := s) (x := x) (y := y) x6 y6 (by
      rw [mc.2.2.2.1]; intro q; rw [c5 x (hA.1 q).1 (hA.1 q).2]; have := b63 x (hA.1 q).1 (hA.1 q).2; omega) (by
      rw [mc.2.2.2.1]; intro q; rw [c5 y (hA.2.2.1 q).1 (hA.2.2.1 q).2]; have := b63 y (hA.2.2.1 q).1 (hA.2.2.1 q).2; omega)
    rw [mc.2.2.2.1, szf_c hA c5] at sw
    have sb : szf (rkC A) (N.1 (p + 5)) s x y < 1000 := by
      unfold szf
      by_cases q1 : 1 ≤ rkC A s
      · have := b63 x (hA.1 q1).1 (hA.1 q1).2
        by_cases q2 : 2 ≤ rkC A s
        · have := b63 y (hA.2.2.1 q2).1 (hA.2.2.1 q2).2
          rw [if_pos q1, if_pos q2]; omega
        · rw [if_pos q1, if_neg q2]; omega
      · rw [if_neg q1, if_neg (by omega)]; decide
    have t6 : tau A s (N.1 (p + 8) x) (N.1 (p + 8) y) < 6 := by omega
    have ny : (2 ≤ rkC A s → y + 1 ≤ c) ∧ (¬ 2 ≤ rkC A s → y + 1 ≤ 1) := ⟨fun q => by have := hA.2.2.1 q; omega, fun q => by have := hA.2.2.2 q; omega⟩
    have c6 : c < 6 := by omega
    generalize hτ : tau A s (N.1 (p + 8) x) (N.1 (p + 8) y) = w at *
    generalize hσ : szf (rkC A) (N.1 (p + 5)) s x y = z at *
    by_cases hk : M.1 (p + 9) w = -1
    · by_cases hz : M.1 (p + 5) c ≤ z
      · simp [-Option.bind_some, -Option.bind_none, gf, pf, rd, wt, ck, ln, lt, bz, nq, up_1, up_2, obs, obn, hM, hBM.s_, cho, hy, kw, sw, t, t6, hk, c0, c6, hz, e1]
        refine ih fnd (y + 1) M ⟨by omega, ny.1, ny.2, hF, hC, hBI.skip (Or.inr ⟨by omega, by rw [hσ]; exact hz⟩)⟩ (by omega)
      · have up4 : Fm p A (up (up (up (up M (p + 5) c z) (p + 2) c s) (p + 3) c x) (p + 4) c y) := (((hF.up (by omega) (by omega) (by omega)).up (by omega) (by omega) (by omega)).up (by omega) (by omega) (by omega)).up (by omega) (by omega) (by omega)
        simp [-Option.bind_some, -Option.bind_none, gf, pf, rd, wt, ck, ln, lt, bz, nq, up_1, up_2, obs, obn, hM, hBM.s_, cho, hy, kw, sw, t, t6, hk, c0, c6, hz, e1, pa1, pa2, pa3]
        refine ih w (y + 1) _ ⟨by omega, ny.1, ny.2, up4, fun a k hak => ?_, ?_⟩ (by omega)
        · rw [up_1, if_neg (fun q => (hak q.2).2.2.1 q.1), up_1, if_neg (fun q => (hak q.2).2.1 q.1), up_1, if_neg (fun q => (hak q.2).1 q.1), up_1, if_neg (fun q => (hak q.2).2.2.2 q.1)]
          exact hC a k hak
        · have r := hBI.take (no' := z = 1000) s0 s1 hA (by rw [hτ, ← c9]; exact hk) (fun _ => by rw [hσ]; omega) (by omega)
          rw [hτ, hσ] at r
          simpa [up_1, pa1] using r
    · simp [-Option.bind_some, -Option.bind_none, gf, pf, rd, wt, ck, ln, lt, bz, nq, up_1, up_2, obs, obn, hM, hBM.s_, cho, hy, kw, sw, t, t6, hk, e1]
      refine ih fnd (y + 1) M ⟨by omega, ny.1, ny.2, hF, hC, hBI.skip (Or.inl (by rw [hτ, ← c9]; exact hk))⟩ (by omega)
theorem ff29_lp {A N M : Mem} {p c kc s fnd : Int} (H : FH A N p c kc) (s0 : 0 ≤ s) (s1 : s < A.1 1 1) (P : Option (Int × Mem) → Prop) (k : Int → Mem → Option (Int × Mem)) (h2 : ∀ f M', FI A N p c (s + 1) 0 0 f M' → P (k f M')) (hI : FI A N p c s 0 0 fnd M) : P (L_Machine_findFirst_29 k p 17 c s FU fnd 0 M) := by
  have H0 := H
  obtain ⟨hB, hg, hMS, hp, hFN, c0, c1, k6, hNP, hT⟩ := H
  refine lq2 (fun n a b M' => L_Machine_findFirst_29 k p 17 c s n a b M') (fun f x M' => 0 ≤ x ∧ x ≤ 6 ∧ FI A N p c s x 0 f M') (fun f x => (6 - x).toNat) P ?_ ⟨Int.le_refl 0, by decide, hI⟩ (by have := FU_eq; omega)
  clear hI M fnd
  intro n fnd x M ⟨x0, x6, hI⟩ ih
  show P (L_Machine_findFirst_29 k p 17 c s (n + 1) fnd x M)
  have hF := hI.1
  have mc := hF.mc hp hB hMS
  have hBM := mc.2.1
  have hM := mc.2.2.1
  have hgM := hg.fm hF hp
  have cho := choices_ok hBM.s_ hgM.2.1 s 0 c
  rw [mc.2.2.2.1] at cho
  rw [L_Machine_findFirst_29]
  by_cases hx : (if 0 < rkC A s then c else 1) ≤ x
  · simp [-Option.bind_some, -Option.bind_none, gf, pf, rd, wt, ck, ln, lt, bz, nq, up_1, up_2, obs, obn, hM, hBM.s_, cho, hx]
    refine h2 _ _ ⟨hF, hI.2.1, hI.2.2.nx ?_ (fun q => ?_)⟩
    · by_cases q : 1 ≤ rkC A s
      · rw [if_pos (by omega)] at hx; exact Or.inl ⟨q, hx⟩
      · rw [if_neg (by omega)] at hx; exact Or.inr hx
    · rw [if_pos (by omega)] at hx; exact hx
  · have xr : (1 ≤ rkC A s → 0 ≤ x ∧ x < c) ∧ (¬ 1 ≤ rkC A s → x = 0) := by
      constructor
      · intro q; rw [if_pos (by omega)] at hx; omega
      · intro q; rw [if_neg (by omega)] at hx; omega
    have x5 : x < 6 := by
      by_cases q : 1 ≤ rkC A s
      · have := xr.1 q; omega
      · have := xr.2 q; omega
    have e1 : wr (x + 1) = x + 1 := wr_eq (by omega) (by omega)
    simp [-Option.bind_some, -Option.bind_none, gf, pf, rd, wt, ck, ln, lt, bz, nq, up_1, up_2, obs, obn, hM, hBM.s_, cho, hx, e1]
    exact ff48_lp H0 s0 s1 xr P _ (fun f M' h => ih f (x + 1) M' ⟨by omega, by omega, h⟩ (by omega)) hI
theorem ff14_lp {A N M : Mem} {p c kc fnd : Int} (H : FH A N p c kc) (P : Option (Int × Mem) → Prop) (k : Int → Mem → Option (Int × Mem)) (h2 : ∀ f M', FI A N p c (A.1 1 1) 0 0 f M' → P (k f M')) (hI : FI A N p c 0 0 0 fnd M) : P (L_Machine_findFirst_14 k p 17 c FU fnd 0 M) := by
  have H0 := H
  obtain ⟨hB, hg, hMS, hp, hFN, c0, c1, k6, hNP, hT⟩ := H
  have n0 := hg.1
  have n6 := hg.2.1
  refine lq2 (fun n a b M' => L_Machine_findFirst_14 k p 17 c n a b M') (fun f s M' => 0 ≤ s ∧ s ≤ A.1 1 1 ∧ FI A N p c s 0 0 f M') (fun f s => (6 - s).toNat) P ?_ ⟨Int.le_refl 0, n0, hI⟩ (by have := FU_eq; omega)
  clear hI M fnd
  intro n fnd s M ⟨s0, s1, hI⟩ ih
  show P (L_Machine_findFirst_14 k p 17 c (n + 1) fnd s M)
  have hF := hI.1
  have mc := hF.mc hp hB hMS
  have hBM := mc.2.1
  have hM := mc.2.2.1
  rw [L_Machine_findFirst_14]
  by_cases hs : A.1 1 1 ≤ s
  · have : s = A.1 1 1 := by omega
    subst this
    simp [-Option.bind_some, -Option.bind_none, gf, pf, rd, wt, ck, ln, lt, bz, nq, up_1, up_2, obs, obn, hM, hBM.s_, mc.2.2.2.2.1]
    exact h2 _ _ hI
  · have e1 : wr (s + 1) = s + 1 := wr_eq (by omega) (by omega)
    simp [-Option.bind_some, -Option.bind_none, gf, pf, rd, wt, ck, ln, lt, bz, nq, up_1, up_2, obs, obn, hM, hBM.s_, mc.2.2.2.2.1, hs, e1]
    exact ff29_lp H0 s0 (by omega) P _ (fun f M' h => ih f (s + 1) M' ⟨by omega, by omega, h⟩ (by omega)) hI
theorem findFirst_ok {A N : Mem} {p c kc : Int} (H : FH A N p c kc) : OkV (D_Machine_findFirst p 17 c N) (fun f M => FI A N p c (A.1 1 1) 0 0 f M) := by
  have H0 := H
  obtain ⟨hB, hg, hMS, hp, hFN, c0, c1, k6, hNP, hT⟩ := H
  have mc := hFN.mc hp hB hMS
  have hM := mc.2.2.1
  have c6 : c < 6 := by omega
  unfold D_Machine_findFirst
  simp [-Option.bind_some, -Option.bind_none, gf, pf, rd, wt, ck, ln, lt, bz, nq, up_1, up_2, obs, obn, hM, c0, c6]
  refine ff14_lp H0 (fun o => OkV o (fun f M => FI A N p c (A.1 1 1) 0 0 f M)) _ (fun f M h => OkV.i h) ⟨hFN.up (by omega) (by omega) (by omega), fun a k hak => ?_, BI.z (by simp [-Option.bind_some, -Option.bind_none, gf, pf, rd, wt, ck, ln, lt, bz, nq, up_1, up_2, obs, obn])⟩
  rw [up_1, if_neg (fun q => (hak q.2).2.2.2 q.1)]
