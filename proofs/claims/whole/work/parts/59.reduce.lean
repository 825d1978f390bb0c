/-! the machine is made -/
def mch (M : Mem) (p : Int) : Mch := (M.1 p 10, fun s x y => M.1 (p + 1) (cel (rkC M s) s x y 6), fun c => bt (M.1 p 11) c, M.1 (p + 5), M.1 (p + 2), M.1 (p + 3), M.1 (p + 4))
theorem NP.full {n : Int} {rk : Int → Int} {kc : Int} {τ : Int → Int → Int → Int} {ck kcl sz hd f1 f2 : Int → Int} (h : NP n rk τ kc kc ck kcl sz hd f1 f2) : ∀ k, 0 ≤ k → k < kc → 0 ≤ kcl k ∧ kcl k < kc ∧ ck (kcl k) = k := by
  intro k k0 k1
  rcases h.2.1 k k0 k1 with q | q
  · exfalso
    obtain ⟨i, j, ij, j1, e⟩ := fb_twice (m := (kc - 1).toNat) (n := kc.toNat) (f := fun i => if ck i < k then (ck i).toNat else (ck i - 1).toNat) (fun i hi => by
      have w := h.1 i (by omega) (by omega)
      have : ck i ≠ k := fun z => by rw [z, q] at w; omega
      show (if ck i < k then (ck i).toNat else (ck i - 1).toNat) < (kc - 1).toNat
      split <;> omega) (by omega)
    have wi := h.1 i (by omega) (by omega)
    have wj := h.1 j (by omega) (by omega)
    have ni : ck i ≠ k := fun z => by rw [z, q] at wi; omega
    have nj : ck j ≠ k := fun z => by rw [z, q] at wj; omega
    have e : (if ck i < k then (ck i).toNat else (ck i - 1).toNat) = (if ck j < k then (ck j).toNat else (ck j - 1).toNat) := e
    have : ck i = ck j := by
      split at e <;> split at e <;> omega
    rw [this] at wi
    omega
  · exact q
/-- the machine's numbers are in order -/
def MW (n : Int) (rk : Int → Int) (m : Mch) : Prop := (0 ≤ mN m ∧ mN m ≤ 6) ∧ ∀ s x y, 0 ≤ s → s < n → Arg rk (mN m) s x y → 0 ≤ mT m s x y ∧ mT m s x y < mN m
def TI (A : Mem) (p kc fin c : Int) (M : Mem) : Prop := Fm p A M ∧ NPm A M p kc c ∧ M.1 p 10 = c ∧ M.1 p 13 = 0 ∧ (0 ≤ M.1 p 11 ∧ M.1 p 11 < 64) ∧ ∀ i, 0 ≤ i → (bt (M.1 p 11) i ↔ i < c ∧ bt fin (M.1 (p + 8) i))
theorem bit_or {w f i c : Int} (w0 : 0 ≤ w) (w1 : w < 64) (f0 : 0 ≤ f) (f1 : f < 64) (i0 : 0 ≤ i) (i1 : i < 6) (c0 : 0 ≤ c) (c1 : c < 6) : (0 ≤ ior w (ishl (iand (ishr f i) 1) c) ∧ ior w (ishl (iand (ishr f i) 1) c) < 64) ∧ ∀ j, 0 ≤ j → (bt (ior w (ishl (iand (ishr f i) 1) c)) j ↔ bt w j ∨ (bt f i ∧ j = c)) := by
  rcases bt_get f0 (by omega) i0 (by omega) with ⟨q, e⟩ | ⟨q, e⟩
  · rw [e]
    have r := ishl1_r (j := 6) c0 (by omega) (by decide)
    refine ⟨ior_r (k := 6) (by decide) w0 w1 r.1 r.2, fun j j0 => ?_⟩
    rw [bt_or w0 (by omega) r.1 (by have := r.2; omega), bt_shl c0 (by omega) j0]
    constructor
    · intro h
      rcases h with h | h
      · exact Or.inl h
      · exact Or.inr ⟨q, h⟩
    · intro h
      rcases h with h | h
      · exact Or.inl h
      · exact Or.inr h.2
  · rw [e, ishl_0 c0 (by omega), ior_0 w0 (by omega)]
    refine ⟨⟨w0, w1⟩, fun j j0 => ?_⟩
    constructor
    · intro h; exact Or.inl h
    · intro h
      rcases h with h | h
      · exact h
      · exact absurd h.1 q
theorem take_lp {A M : Mem} {p kc fin : Int} {δ : Int → Int → Int → Int} {acc fn : Int → Prop} {κ : Int → Int} (hB : SB A) (hg : SgOk A) (hMS : MS A p) (hp : p = 50 ∨ 100 ≤ p) (Q : QM (A.1 1 1) (rkC A) δ acc kc (tau A) fn κ) (f0 : 0 ≤ fin) (f1 : fin < 64) (P : Option Mem → Prop) (k : Mem → Option Mem) (h2 : ∀ M', TI A p kc fin kc M' → P (k M')) (hI : TI A p kc fin 0 M) : P (L_Machine_take_15 k p 17 kc fin FU 0 M) := by
  have k6 := Q.1
  refine lq1 (fun n v M' => L_Machine_take_15 k p 17 kc fin n v M') (fun c M' => 0 ≤ c ∧ c ≤ kc ∧ TI A p kc fin c M') (fun c => (kc - c).toNat) P ?_ ⟨Int.le_refl 0, k6.1, hI⟩ (by have := FU_eq; omega)
  clear hI M
  intro n c M ⟨c0, c1, hI⟩ ih
  show P (L_Machine_take_15 k p 17 kc fin (n + 1) c M)
  rw [L_Machine_take_15]
  by_cases hc : kc ≤ c
  · have : c = kc := by omega
    subst this
    simp [-Option.bind_some, -Option.bind_none, gf, pf, rd, wt, ck, ln, lt, bz, nq, up_1, up_2, obs, obn, hc]
    exact h2 M hI
  · have c6 : ¬ 6 ≤ c := by omega
    have c6' : c < 6 := by omega
    have hI0 := hI
    obtain ⟨hF, hNP, e10, e13, fr, hf⟩ := hI
    have mc := hF.mc hp hB hMS
    have hM := mc.2.2.1
    obtain ⟨f, M1, ef, hF1, hC, hBI⟩ := findFirst_ok (A := A) (N := M) (p := p) (c := c) (kc := kc) ⟨hB, hg, hMS, hp, hF, c0, by omega, k6.2, hNP, fun s x y s0 s1 hA => Q.tr hNP.k s0 s1 hA⟩
    obtain ⟨hno, hh, hA, efn, fb, eb, hj, hm⟩ := hBI.fin hNP Q c0 (by omega)
    have mc1 := hF1.mc hp hB hMS
    have hM1 := mc1.2.2.1
    have f6 : f < 6 := by omega
    have c8 : M1.1 (p + 8) = M.1 (p + 8) := funext fun i => hC _ _ (fun _ => by omega)
    have c9 : M1.1 (p + 9) = M.1 (p + 9) := funext fun i => hC _ _ (fun _ => by omega)
    have cp : M1.1 p = M.1 p := funext fun i => hC _ _ (fun _ => by omega)
    have d10 : M1.1 p 10 = c := by rw [cp]; exact e10
    have e1 : wr (c + 1) = c + 1 := wr_eq (by omega) (by omega)
    have bo := bit_or (f := fin) (i := f) (c := c) fr.1 fr.2 f0 f1 fb.1 f6 c0 c6'
    rw [← cp] at bo
    simp [-Option.bind_some, -Option.bind_none, gf, pf, rd, wt, ck, ln, lt, bz, nq, up_1, up_2, obs, obn, hc, c6, hM, ef, hM1, c0, c6', fb, f6, d10, e1, pa1, pa2, pa3]
    generalize hw : ior (M1.1 p 11) (ishl (iand (ishr fin f) 1) c) = w at *
    refine ih (c + 1) _ ⟨by omega, by omega, (((hF1.up (by omega) (by omega) (by omega)).up (by omega) (by omega) (by omega)).up (by omega) (by omega) (by omega)).up (by omega) (by omega) (by omega), ?_, by simp [-Option.bind_some, -Option.bind_none, gf, pf, rd, wt, ck, ln, lt, bz, nq, up_1, up_2, obs, obn, pa3], by simp [-Option.bind_some, -Option.bind_none, gf, pf, rd, wt, ck, ln, lt, bz, nq, up_1, up_2, obs, obn, cp, e13, pa3], ?_, ?_⟩ (by omega)
    · have g5 : ∀ i, 0 ≤ i → i < c → M1.1 (p + 5) i = M.1 (p + 5) i := fun i i0 i1 => hC _ _ (fun _ => by omega)
      have g2 : ∀ i, 0 ≤ i → i < c → M1.1 (p + 2) i = M.1 (p + 2) i := fun i i0 i1 => hC _ _ (fun _ => by omega)
      have g3 : ∀ i, 0 ≤ i → i < c → M1.1 (p + 3) i = M.1 (p + 3) i := fun i i0 i1 => hC _ _ (fun _ => by omega)
      have g4 : ∀ i, 0 ≤ i → i < c → M1.1 (p + 4) i = M.1 (p + 4) i := fun i i0 i1 => hC _ _ (fun _ => by omega)
      refine hNP.add Q.2.1 c0 hh.1 hh.2 hA efn fb.1 fb.2 hj hm ?_ ?_ ?_ ?_ ?_ ?_ ?_ ?_ ?_ ?_ ?_ ?_
      · intro i i0 i1
        have : ¬ i = c := by omega
        simp [up_1, pa1, pa2, this, c8]
      · intro i i0 i1; simp [up_1, pa1, pa2, g5 i i0 i1]
      · intro i i0 i1; simp [up_1, pa1, pa2, g2 i i0 i1]
      · intro i i0 i1; simp [up_1, pa1, pa2, g3 i i0 i1]
      · intro i i0 i1; simp [up_1, pa1, pa2, g4 i i0 i1]
      · intro j hj
        simp [up_1, pa1, pa2, hj, c9]
      · simp [up_1, pa1, pa2]
      · simp [up_1, pa1, pa2]
      · simp [up_1, pa1, pa2, eb]
      · simp [up_1, pa1, pa2]
      · simp [up_1, pa1, pa2]
      · simp [up_1, pa1, pa2]
    · simpa [up_1] using bo.1
    · intro i i0
      have ew : (up (up (up (up M1 (p + 8) c f) (p + 9) f c) p 11 w) p 10 (c + 1)).1 p 11 = w := by simp [up_1]
      rw [ew, bo.2 i i0, cp, hf i i0]
      by_cases q : i = c
      · subst q
        have e8 : (up (up (up (up M1 (p + 8) i f) (p + 9) f i) p 11 w) p 10 (i + 1)).1 (p + 8) i = f := by simp [up_1, pa1, pa2]
        rw [e8]
        constructor
        · intro h
          rcases h with h | h
          · omega
          · exact ⟨by omega, h.1⟩
        · intro h; exact Or.inr ⟨h.2, rfl⟩
      · have e8 : (up (up (up (up M1 (p + 8) c f) (p + 9) f c) p 11 w) p 10 (c + 1)).1 (p + 8) i = M.1 (p + 8) i := by simp [up_1, pa1, pa2, q, c8]
        rw [e8]
        constructor
        · intro h
          rcases h with h | h
          · exact ⟨by omega, h.2⟩
          · exact absurd h.2 q
        · intro h; exact Or.inl ⟨by omega, h.2⟩
/-- filling the table: all places before (s, x, y) are filled -/
def TF1 (A N : Mem) (p kc : Int) (s x y : Int) (M : Mem) : Prop := Fm p A M ∧ (∀ a, a ≠ p + 1 → M.1 a = N.1 a) ∧ ∀ s' x' y', 0 ≤ s' → s' < A.1 1 1 → Arg (rkC A) kc s' x' y' → Vs s x y s' x' y' → M.1 (p + 1) (cel (rkC A s') s' x' y' 6) = N.1 (p + 9) (tau A s' (N.1 (p + 8) x') (N.1 (p + 8) y'))
theorem cel_arg {rk : Int → Int} {c s x y s' x' y' : Int} (c6 : c ≤ 6) (h : Arg rk c s x y) (h' : Arg rk c s' x' y') (e : cel (rk s) s x y 6 = cel (rk s') s' x' y' 6) : s = s' ∧ x = x' ∧ y = y' := by
  have n := h.nn
  have n' := h'.nn
  have b : x < 6 ∧ y < 6 := by
    obtain ⟨g1, g2, g3, g4⟩ := h
    constructor
    · by_cases q : 1 ≤ rk s
      · have := g1 q; omega
      · have := g2 q; omega
    · by_cases q : 2 ≤ rk s
      · have := g3 q; omega
      · have := g4 q; omega
  have b' : x' < 6 ∧ y' < 6 := by
    obtain ⟨g1, g2, g3, g4⟩ := h'
    constructor
    · by_cases q : 1 ≤ rk s'
      · have := g1 q; omega
      · have := g2 q; omega
    · by_cases q : 2 ≤ rk s'
      · have := g3 q; omega
      · have := g4 q; omega
  obtain ⟨i1, i2, i3⟩ := cel_inj (fun q => by rw [q]) ⟨n.1, b.1⟩ ⟨n.2, b.2⟩ ⟨n'.1, b'.1⟩ ⟨n'.2, b'.2⟩ e
  subst i1
  refine ⟨rfl, ?_, ?_⟩
  · by_cases q : 1 ≤ rk s
    · exact i2 q
    · rw [h.2.1 q, h'.2.1 q]
  · by_cases q : 2 ≤ rk s
    · exact i3 q
    · rw [h.2.2.2 q, h'.2.2.2 q]
theorem Arg.b6 {rk : Int → Int} {c s x y : Int} (c6 : c ≤ 6) (h : Arg rk c s x y) : (0 ≤ x ∧ x < 6) ∧ (0 ≤ y ∧ y < 6) := by
  have n := h.nn
  obtain ⟨g1, g2, g3, g4⟩ := h
  refine ⟨⟨n.1, ?_⟩, n.2, ?_⟩
  · by_cases q : 1 ≤ rk s
    · have := g1 q; omega
    · have := g2 q; omega
  · by_cases q : 2 ≤ rk s
    · have := g3 q; omega
    · have := g4 q; omega
theorem ft35_lp {A N M : Mem} {p kc s x : Int} {δ : Int → Int → Int → Int} {acc fn : Int → Prop} {κ : Int → Int} (hB : SB A) (hg : SgOk A) (hMS : MS A p) (hp : p = 50 ∨ 100 ≤ p) (Q : QM (A.1 1 1) (rkC A) δ acc kc (tau A) fn κ) (hNP : NPm A N p kc kc) (hc : N.1 p 10 = kc) (s0 : 0 ≤ s) (s1 : s < A.1 1 1) (hx : (1 ≤ rkC A s → 0 ≤ x ∧ x < kc) ∧ (¬ 1 ≤ rkC A s → x = 0)) (P : Option Mem → Prop) (k : Mem → Option Mem) (h2 : ∀ M', TF1 A N p kc s (x + 1) 0 M' → P (k M')) (hI : TF1 A N p kc s x 0 M) : P (L_Machine_fillTable_35 k p 17 s x FU 0 M) := by
  have rg := hg.rk s
  have n6 := hg.2.1
  have k6 := Q.1.2
  refine lq1 (fun n v M' => L_Machine_fillTable_35 k p 17 s x n v M') (fun y M' => 0 ≤ y ∧ y ≤ 6 ∧ TF1 A N p kc s x y M') (fun y => (6 - y).toNat) P ?_ ⟨Int.le_refl 0, by decide, hI⟩ (by have := FU_eq; omega)
  clear hI M
  intro n y M ⟨y0, y6, hF, hC, hV⟩ ih
  show P (L_Machine_fillTable_35 k p 17 s x (n + 1) y M)
  have mc := hF.mc hp hB hMS
  have hBM := mc.2.1
  have hM := mc.2.2.1
  have hgM := hg.fm hF hp
  have cho := choices_ok hBM.s_ hgM.2.1 s 1 kc
  rw [mc.2.2.2.1] at cho
  have cp : M.1 p 10 = kc := by rw [hC p (by omega)]; exact hc
  have c8 : M.1 (p + 8) = N.1 (p + 8) := hC _ (by omega)
  have c9 : M.1 (p + 9) = N.1 (p + 9) := hC _ (by omega)
  rw [L_Machine_fillTable_35]
  by_cases hy : (if 1 < rkC A s then kc else 1) ≤ y
  · simp [-Option.bind_some, -Option.bind_none, gf, pf, rd, wt, ck, ln, lt, bz, nq, up_1, up_2, obs, obn, hM, hBM.s_, cp, cho, hy]
    refine h2 M ⟨hF, hC, fun s' x' y' t0 t1 hA hv => hV s' x' y' t0 t1 hA ?_⟩
    have nn := hA.nn
    unfold Vs at hv ⊢
    by_cases e : s' = s
    · subst e
      by_cases q : 2 ≤ rkC A s'
      · rw [if_pos (by omega)] at hy; have := hA.2.2.1 q; omega
      · rw [if_neg (by omega)] at hy; have := hA.2.2.2 q; omega
    · omega
  · have hA : Arg (rkC A) kc s x y := by
      refine ⟨hx.1, hx.2, fun q => ?_, fun q => ?_⟩
      · rw [if_pos (by omega)] at hy; omega
      · rw [if_neg (by omega)] at hy; omega
    have b6 := hA.b6 k6
    have e1 : wr (y + 1) = y + 1 := wr_eq (by omega) (by omega)
    have t := Q.tr hNP.k s0 s1 hA
    have kw := kindWith_m (p := p) hBM hM hgM (s := s) (x := x) (y := y) ⟨s0, by omega⟩ b6.1 b6.2 (by
      rw [mc.2.2.2.1, c8]; intro q; have := hNP.k x (hA.1 q).1 (hA.1 q).2; omega) (by
      rw [mc.2.2.2.1, c8]; intro q; have := hNP.k y (hA.2.2.1 q).1 (hA.2.2.1 q).2; omega) (by rw [tau_m mc, c8]; exact t.1)
    rw [tau_m mc, c8] at kw
    have ce := cell_ok hBM.s_ hgM.2.1 (s := s) (x := x) (y := y) (w := 6) ⟨s0, by omega⟩ (by decide) (fun q => by omega) (fun q => by omega)
    rw [mc.2.2.2.1] at ce
    have cr := cel_r (r := rkC A s) (s := s) (k1 := x) (k2 := y) ⟨s0, by omega⟩ (fun _ => b6.1) (fun _ => b6.2)
    have t6 : tau A s (N.1 (p + 8) x) (N.1 (p + 8) y) < 6 := by omega
    generalize hτ : tau A s (N.1 (p + 8) x) (N.1 (p + 8) y) = w at *
    generalize hγ : cel (rkC A s) s x y 6 = z at *
    simp [-Option.bind_some, -Option.bind_none, gf, pf, rd, wt, ck, ln, lt, bz, nq, up_1, up_2, obs, obn, hM, hBM.s_, cp, cho, hy, kw, ce, cr, t, t6, e1]
    refine ih (y + 1) _ ⟨by omega, by omega, hF.up (by omega) (by omega) (by omega), fun a ha => by rw [up_n ha]; exact hC a ha, fun s' x' y' t0 t1 hA' hv => ?_⟩ (by omega)
    rw [up_1]
    by_cases q : cel (rkC A s') s' x' y' 6 = z
    · rw [if_pos ⟨rfl, q⟩]
      rw [← hγ] at q
      obtain ⟨q1, q2, q3⟩ := cel_arg k6 hA' hA q
      rw [q1, q2, q3, hτ, c9]
    · rw [if_neg (fun h => q h.2)]
      rcases Vs.y1.mp hv with v | ⟨v1, v2, v3⟩
      · exact hV s' x' y' t0 t1 hA' v
      · rw [v1, v2, v3] at q
        exact absurd hγ q
theorem ft15_lp {A N M : Mem} {p kc s : Int} {δ : Int → Int → Int → Int} {acc fn : Int → Prop} {κ : Int → Int} (hB : SB A) (hg : SgOk A) (hMS : MS A p) (hp : p = 50 ∨ 100 ≤ p) (Q : QM (A.1 1 1) (rkC A) δ acc kc (tau A) fn κ) (hNP : NPm A N p kc kc) (hc : N.1 p 10 = kc) (s0 : 0 ≤ s) (s1 : s < A.1 1 1) (P : Option Mem → Prop) (k : Mem → Option Mem) (h2 : ∀ M', TF1 A N p kc (s + 1) 0 0 M' → P (k M')) (hI : TF1 A N p kc s 0 0 M) : P (L_Machine_fillTable_15 k p 17 s FU 0 M) := by
  have k6 := Q.1.2
  refine lq1 (fun n v M' => L_Machine_fillTable_15 k p 17 s n v M') (fun x M' => 0 ≤ x ∧ x ≤ 6 ∧ TF1 A N p kc s x 0 M') (fun x => (6 - x).toNat) P ?_ ⟨Int.le_refl 0, by decide, hI⟩ (by have := FU_eq; omega)
  clear hI M
  intro n x M ⟨x0, x6, hI⟩ ih
  show P (L_Machine_fillTable_15 k p 17 s (n + 1) x M)
  have hI0 := hI
  obtain ⟨hF, hC, hV⟩ := hI
  have mc := hF.mc hp hB hMS
  have hBM := mc.2.1
  have hM := mc.2.2.1
  have hgM := hg.fm hF hp
  have cho := choices_ok hBM.s_ hgM.2.1 s 0 kc
  rw [mc.2.2.2.1] at cho
  have cp : M.1 p 10 = kc := by rw [hC p (by omega)]; exact hc
  rw [L_Machine_fillTable_15]
  by_cases hx : (if 0 < rkC A s then kc else 1) ≤ x
  · simp [-Option.bind_some, -Option.bind_none, gf, pf, rd, wt, ck, ln, lt, bz, nq, up_1, up_2, obs, obn, hM, hBM.s_, cp, cho, hx]
    refine h2 M ⟨hF, hC, fun s' x' y' t0 t1 hA hv => hV s' x' y' t0 t1 hA ?_⟩
    have nn := hA.nn
    unfold Vs at hv ⊢
    by_cases e : s' = s
    · subst e
      by_cases q : 1 ≤ rkC A s'
      · rw [if_pos (by omega)] at hx; have := hA.1 q; omega
      · rw [if_neg (by omega)] at hx; have := hA.2.1 q; omega
    · omega
  · have xr : (1 ≤ rkC A s → 0 ≤ x ∧ x < kc) ∧ (¬ 1 ≤ rkC A s → x = 0) := by
      constructor
      · intro q; rw [if_pos (by omega)] at hx; omega
      · intro q; rw [if_neg (by omega)] at hx; omega
    have x5 : x < 6 := by
      by_cases q : 1 ≤ rkC A s
      · have := xr.1 q; omega
      · have := xr.2 q; omega
    have e1 : wr (x + 1) = x + 1 := wr_eq (by omega) (by omega)
    simp [-Option.bind_some, -Option.bind_none, gf, pf, rd, wt, ck, ln, lt, bz, nq, up_1, up_2, obs, obn, hM, hBM.s_, cp, cho, hx, e1]
    exact ft35_lp hB hg hMS hp Q hNP hc s0 s1 xr P _ (fun M' h => ih (x + 1) M' ⟨by omega, by omega, h⟩ (by omega)) hI0
theorem fillTable_ok {A N : Mem} {p kc : Int} {δ : Int → Int → Int → Int} {acc fn : Int → Prop} {κ : Int → Int} (hB : SB A) (hg : SgOk A) (hMS : MS A p) (hp : p = 50 ∨ 100 ≤ p) (Q : QM (A.1 1 1) (rkC A) δ acc kc (tau A) fn κ) (hF : Fm p A N) (hNP : NPm A N p kc kc) (hc : N.1 p 10 = kc) : OkM (D_Machine_fillTable p 17 N) (fun M => TF1 A N p kc (A.1 1 1) 0 0 M) := by
  have n0 := hg.1
  have n6 := hg.2.1
  unfold D_Machine_fillTable
  refine lq1 (fun n v M' => L_Machine_fillTable_2 (fun m2 => some m2) p 17 n v M') (fun s M' => 0 ≤ s ∧ s ≤ A.1 1 1 ∧ TF1 A N p kc s 0 0 M') (fun s => (6 - s).toNat) (fun o => OkM o (fun M => TF1 A N p kc (A.1 1 1) 0 0 M)) ?_ ⟨Int.le_refl 0, n0, hF, fun _ _ => rfl, fun s' x' y' t0 t1 hA hv => by have := hA.nn; unfold Vs at hv; omega⟩ (by have := FU_eq; omega)
  intro n s M ⟨s0, s1, hI⟩ ih
  show OkM (L_Machine_fillTable_2 _ p 17 (n + 1) s M) _
  have mc := hI.1.mc hp hB hMS
  have hBM := mc.2.1
  have hM := mc.2.2.1
  rw [L_Machine_fillTable_2]
  by_cases hs : A.1 1 1 ≤ s
  · have : s = A.1 1 1 := by omega
    subst this
    simp [-Option.bind_some, -Option.bind_none, gf, pf, rd, wt, ck, ln, lt, bz, nq, up_1, up_2, obs, obn, hM, hBM.s_, mc.2.2.2.2.1]
    exact OkM.i hI
  · have e1 : wr (s + 1) = s + 1 := wr_eq (by omega) (by omega)
    simp [-Option.bind_some, -Option.bind_none, gf, pf, rd, wt, ck, ln, lt, bz, nq, up_1, up_2, obs, obn, hM, hBM.s_, mc.2.2.2.2.1, hs, e1]
    exact ft15_lp hB hg hMS hp Q hNP hc s0 (by omega) (fun o => OkM o (fun M => TF1 A N p kc (A.1 1 1) 0 0 M)) _ (fun M' h => ih (s + 1) M' ⟨by omega, by omega, h⟩ (by omega)) hI
theorem take_ok {A : Mem} {p kc fin : Int} {δ : Int → Int → Int → Int} {acc : Int → Prop} {κ : Int → Int} (hB : SB A) (hg : SgOk A) (hMS : MS A p) (hp : p = 50 ∨ 100 ≤ p) (Q : QM (A.1 1 1) (rkC A) δ acc kc (tau A) (fun k => bt fin k) κ) (f0 : 0 ≤ fin) (f1 : fin < 64) : OkM (D_Machine_take p 17 kc fin A) (fun M => Fm p A M ∧ M.1 p 12 = 0 ∧ M.1 p 13 = 0 ∧ (0 ≤ M.1 p 11 ∧ M.1 p 11 < 64) ∧ Can (A.1 1 1) (rkC A) δ acc (mch M p) ∧ MW (A.1 1 1) (rkC A) (mch M p)) := by
  have hFm1 : Fm p A (up (up (up (up A p 10 0) p 11 0) p 12 1) p 13 0) := (((Fm.rf p A).up (by omega) (by omega) (by omega)).up (by omega) (by omega) (by omega) |>.up (by omega) (by omega) (by omega)).up (by omega) (by omega) (by omega)
  have mc1 := hFm1.mc hp hB hMS
  have hM1 := mc1.2.2.1
  have q10 : (up (up (up (up A p 10 0) p 11 0) p 12 1) p 13 0).1 p 10 = 0 := by simp [-Option.bind_some, -Option.bind_none, gf, pf, rd, wt, ck, ln, lt, bz, nq, up_1, up_2, obs, obn]
  have q11 : (up (up (up (up A p 10 0) p 11 0) p 12 1) p 13 0).1 p 11 = 0 := by simp [-Option.bind_some, -Option.bind_none, gf, pf, rd, wt, ck, ln, lt, bz, nq, up_1, up_2, obs, obn]
  have q13 : (up (up (up (up A p 10 0) p 11 0) p 12 1) p 13 0).1 p 13 = 0 := by simp [-Option.bind_some, -Option.bind_none, gf, pf, rd, wt, ck, ln, lt, bz, nq, up_1, up_2, obs, obn]
  have bl : D_Machine_becomeLarge p A = some (up (up (up (up A p 10 0) p 11 0) p 12 1) p 13 0) := by
    unfold D_Machine_becomeLarge
    simp [-Option.bind_some, -Option.bind_none, gf, pf, rd, wt, ck, ln, lt, bz, nq, up_1, up_2, obs, obn, hMS]
  generalize up (up (up (up A p 10 0) p 11 0) p 12 1) p 13 0 = M1 at *
  have ef := fill_ok (M := M1) (a := p + 9) (n := 6) hM1.2.2.2.2.2.2.2.2.2.1 (by decide) (-1)
  have hFm2 : Fm p A (sc M1 (p + 9) (fun i => if 0 ≤ i ∧ i < (6 : Nat) then -1 else M1.1 (p + 9) i)) := hFm1.sc (by omega) (by omega)
  have k6 := Q.1
  have hI : TI A p kc fin 0 (sc M1 (p + 9) (fun i => if 0 ≤ i ∧ i < (6 : Nat) then -1 else M1.1 (p + 9) i)) := by
    refine ⟨hFm2, ⟨fun i i0 i1 => by omega, fun j j0 j1 => Or.inl ?_, fun i i0 i1 => by omega⟩, ?_, ?_, ?_, fun i i0 => ?_⟩
    · rw [sc_1, if_pos rfl, if_pos ⟨j0, by omega⟩]
    · rw [sc_n (by omega)]; exact q10
    · rw [sc_n (by omega)]; exact q13
    · rw [sc_n (by omega), q11]; decide
    · rw [sc_n (by omega), q11]
      exact ⟨fun h => absurd h (bt_zero i), fun h => by omega⟩
  generalize sc M1 (p + 9) (fun i => if 0 ≤ i ∧ i < (6 : Nat) then -1 else M1.1 (p + 9) i) = M2 at *
  unfold D_Machine_take
  simp [-Option.bind_some, -Option.bind_none, gf, pf, rd, wt, ck, ln, lt, bz, nq, up_1, up_2, obs, obn, hMS, bl, hM1, ef]
  refine take_lp hB hg hMS hp Q f0 f1 (fun o => OkM o _) _ (fun M3 hI3 => ?_) hI
  obtain ⟨hF3, hNP, e10, e13, fr, hf⟩ := hI3
  have hM3 := (hF3.mc hp hB hMS).2.2.1
  obtain ⟨M4, e4, hF4, hC4, hV4⟩ := fillTable_ok hB hg hMS hp Q hF3 hNP e10
  have hM4 := (hF4.mc hp hB hMS).2.2.1
  have rk4 := (hF4.mc hp hB hMS).2.2.2.1
  simp [-Option.bind_some, -Option.bind_none, gf, pf, rd, wt, ck, ln, lt, bz, nq, up_1, up_2, obs, obn, hM3, e4, hM4]
  have cp : M4.1 p = M3.1 p := hC4 p (by omega)
  have hF5 : Fm p A (up M4 p 12 0) := hF4.up (by omega) (by omega) (by omega)
  have rk5 : rkC (up M4 p 12 0) = rkC A := (hF5.mc hp hB hMS).2.2.2.1
  have e5 : ∀ j, 1 ≤ j → (up M4 p 12 0).1 (p + j) = M4.1 (p + j) := fun j hj => up_n (by omega)
  have g10 : (up M4 p 12 0).1 p 10 = kc := by rw [up_1, if_neg (by omega), cp]; exact e10
  have g11 : (up M4 p 12 0).1 p 11 = M3.1 p 11 := by rw [up_1, if_neg (by omega), cp]
  have eT : ∀ s x y, 0 ≤ s → s < A.1 1 1 → Arg (rkC A) kc s x y → mT (mch (up M4 p 12 0) p) s x y = M3.1 (p + 9) (tau A s (M3.1 (p + 8) x) (M3.1 (p + 8) y)) := by
    intro s x y s0 s1 hA
    show (up M4 p 12 0).1 (p + 1) (cel (rkC (up M4 p 12 0) s) s x y 6) = _
    rw [rk5, e5 1 (by decide)]
    exact hV4 s x y s0 s1 hA (by unfold Vs; omega)
  refine OkM.i ⟨hF5, by simp [-Option.bind_some, -Option.bind_none, gf, pf, rd, wt, ck, ln, lt, bz, nq, up_1, up_2, obs, obn], by rw [up_1, if_neg (by omega), cp]; exact e13, by rw [g11]; exact fr, ?_, ?_⟩
  · refine hNP.can Q g10 ?_ ?_ ?_ ?_ ?_ eT
    · intro i i0 i1; show (up M4 p 12 0).1 (p + 5) i = _; rw [e5 5 (by decide), hC4 _ (by omega)]
    · intro i i0 i1; show (up M4 p 12 0).1 (p + 2) i = _; rw [e5 2 (by decide), hC4 _ (by omega)]
    · intro i i0 i1; show (up M4 p 12 0).1 (p + 3) i = _; rw [e5 3 (by decide), hC4 _ (by omega)]
    · intro i i0 i1; show (up M4 p 12 0).1 (p + 4) i = _; rw [e5 4 (by decide), hC4 _ (by omega)]
    · intro i i0 i1
      show bt ((up M4 p 12 0).1 p 11) i ↔ _
      rw [g11, hf i i0]
      exact ⟨fun h => h.2, fun h => ⟨i1, h⟩⟩
  · have eN : mN (mch (up M4 p 12 0) p) = kc := g10
    unfold MW
    rw [eN]
    refine ⟨k6, fun s x y s0 s1 hA => ?_⟩
    rw [eT s x y s0 s1 hA]
    have t := Q.tr hNP.k s0 s1 hA
    have := hNP.full _ t.1 t.2
    exact ⟨this.1, this.2.1⟩
/-- all that the reducer leaves -/
def Rd (N : Mem) (p : Int) (M : Mem) : Prop := M.2 = N.2 ∧ (∀ a, a < 10 ∨ (50 ≤ a ∧ (a < p ∨ p + 9 < a)) → M.1 a = N.1 a) ∧ (∀ k, k < 10 → M.1 p k = N.1 p k) ∧ SB M ∧ RB M ∧ Z0 M ∧ MS M p
theorem Rd.of {N M M' : Mem} {p : Int} (E : Env N) (hp : p = 50 ∨ 100 ≤ p) (hMS : MS N p) (h : RI1 N M) (hF : Fm p M M') : Rd N p M' := by
  have p50 : p < 10 ∨ 50 ≤ p := by clear hMS; omega
  have hMM : MS M p := by
    unfold MS
    rw [h.1.2.1, h.1.2.2 p p50]
    exact hMS
  refine ⟨hF.1.trans h.1.2.1, fun a ha => ?_, fun k hk => ?_, hF.sb hp h.1.1, ?_, ?_, hF.ms hMM⟩
  · clear hMM hMS
    rw [hF.2.1 a (by omega), h.1.2.2 a (by omega)]
  · clear hMM hMS
    rw [hF.2.2 k hk, h.1.2.2 p (by omega)]
  · clear hMM hMS
    have := h.rb E
    unfold RB at this ⊢
    rw [hF.2.1 10 (by omega), hF.2.1 11 (by omega), hF.2.1 14 (by omega)]
    exact this
  · clear hMM hMS
    intro q q0 q1 q2
    rw [hF.2.1 _ (by omega), hF.2.1 _ (by omega)]
    exact h.2.1 q q0 q1 q2
theorem QM.fin {n : Int} {rk : Int → Int} {δ : Int → Int → Int → Int} {acc : Int → Prop} {kc : Int} {τ : Int → Int → Int → Int} {fin fin' : Int → Prop} {κ : Int → Int} (h : QM n rk δ acc kc τ fin κ) (e : ∀ k, 0 ≤ k → k < kc → (fin' k ↔ fin k)) : QM n rk δ acc kc τ fin' κ := by
  refine ⟨h.1, h.2.1, h.2.2.1, h.2.2.2.1, fun a ra => ?_, h.2.2.2.2.2⟩
  have r := h.2.2.2.1 a ra
  rw [e _ r.1 r.2]
  exact h.2.2.2.2.1 a ra
theorem reduceTo_ok {N : Mem} {p : Int} (E : Env N) (hR : RB N) (hZ : Z0 N) (hMS : MS N p) (hp : p = 50 ∨ 100 ≤ p) : OkM (D_Reducer_reduceTo 10 p N) (fun M => Rd N p M ∧ M.1 p 13 = 0 ∧ ((M.1 p 12 = 1 ∧ LgN N) ∨ (M.1 p 12 = 0 ∧ (0 ≤ M.1 p 11 ∧ M.1 p 11 < 64) ∧ Can (N.1 1 1) (rkC N) (dN N) (fun z => acN N z = 1) (mch M p) ∧ MW (N.1 1 1) (rkC N) (mch M p)))) := by
  have hB := E.2.2.2
  obtain ⟨M0, e0, hRo⟩ := begin_ok hB hR hZ
  unfold D_Reducer_reduceTo
  simp [-Option.bind_some, -Option.bind_none, gf, pf, rd, wt, ck, ln, lt, bz, nq, up_1, up_2, obs, obn, hB.d_, e0]
  refine rounds_lp E (fun o => OkM o _) _ (fun M h => ?_) (fun M h => ?_) hRo
  · have hMM : MS M p := by
      unfold MS
      rw [h.1.1.2.1, h.1.1.2.2 p (by omega)]
      exact hMS
    have bl : D_Machine_becomeLarge p M = some (up (up (up (up M p 10 0) p 11 0) p 12 1) p 13 0) := by
      unfold D_Machine_becomeLarge
      simp [-Option.bind_some, -Option.bind_none, gf, pf, rd, wt, ck, ln, lt, bz, nq, up_1, up_2, obs, obn, hMM]
    simp [-Option.bind_some, -Option.bind_none, gf, pf, rd, wt, ck, ln, lt, bz, nq, up_1, up_2, obs, obn, hMM, bl]
    have hF : Fm p M (up (up (up (up M p 10 0) p 11 0) p 12 1) p 13 0) := (((Fm.rf p M).up (by omega) (by omega) (by omega)).up (by omega) (by omega) (by omega) |>.up (by omega) (by omega) (by omega)).up (by omega) (by omega) (by omega)
    exact OkM.i ⟨Rd.of E hp hMS h.1 hF, by simp [-Option.bind_some, -Option.bind_none, gf, pf, rd, wt, ck, ln, lt, bz, nq, up_1, up_2, obs, obn], Or.inl ⟨by simp [-Option.bind_some, -Option.bind_none, gf, pf, rd, wt, ck, ln, lt, bz, nq, up_1, up_2, obs, obn], h.2.2⟩⟩
  · obtain ⟨m, hRR⟩ := h
    have hF0 := hRR.1.1
    have hMM : MS M p := by
      unfold MS
      rw [hF0.2.1, hF0.2.2 p (by omega)]
      exact hMS
    obtain ⟨f, ef, fr, fb⟩ := finalKinds_ok hRR
    have Q := (hRR.qm E).fin (fin' := fun k => bt f k) fb
    have et : (fun s a b => M.1 17 (cel (rkC N s) s a b 6)) = tau M := by
      funext s a b
      unfold tau
      rw [hF0.rk]
    rw [et] at Q
    have e1 : N.1 1 1 = M.1 1 1 := by rw [hF0.c1]
    rw [e1, ← hF0.rk] at Q
    obtain ⟨M', e', hF, h12, h13, fr', hC, hW⟩ := take_ok hF0.1 (hF0.sg E.2.1) hMM hp Q fr.1 fr.2
    simp [-Option.bind_some, -Option.bind_none, gf, pf, rd, wt, ck, ln, lt, bz, nq, up_1, up_2, obs, obn, hF0.1.d_, ef, hMM, e']
    refine OkM.i ⟨Rd.of E hp hMS hRR.1 hF, h13, Or.inr ⟨h12, fr', ?_, ?_⟩⟩
    · rw [e1, ← hF0.rk]; exact hC
    · rw [e1, ← hF0.rk]; exact hW
