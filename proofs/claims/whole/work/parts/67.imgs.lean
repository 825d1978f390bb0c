/-! the net's images as relations -/
def NI (A M : Mem) (st : Nat) (T : Int → Int → Int → Int → Prop) : Prop := M.2 = A.2 ∧ (∀ a, a ≠ 9 → M.1 a = A.1 a) ∧ (∀ i, 0 ≤ i → i < 864 → 0 ≤ M.1 9 i ∧ M.1 9 i < 2 ^ st) ∧ ∀ s x y, 0 ≤ s → s < 6 → 0 ≤ x → x < 12 → 0 ≤ y → y < 12 → (¬ 1 ≤ rkC A s → x = 0) → (¬ 2 ≤ rkC A s → y = 0) → ∀ q, 0 ≤ q → (bt (M.1 9 (cel (rkC A s) s x y 12)) q ↔ T s x y q)
theorem NI.c {A M : Mem} {st : Nat} {T T' : Int → Int → Int → Int → Prop} (h : NI A M st T) (e : ∀ s x y q, T s x y q ↔ T' s x y q) : NI A M st T' := ⟨h.1, h.2.1, h.2.2.1, fun s x y a b c d f g k l q q0 => (h.2.2.2 s x y a b c d f g k l q q0).trans (e s x y q)⟩
theorem NI.sb {A M : Mem} {st : Nat} {T : Int → Int → Int → Int → Prop} (h : NI A M st T) (hB : SB A) : SB M := SB_c hB h.1 (fun a k s => by rw [h.2.1 a (by unfold stp at s; omega)])
theorem NI.rk {A M : Mem} {st : Nat} {T : Int → Int → Int → Int → Prop} (h : NI A M st T) : rkC M = rkC A := by
  funext s
  unfold rkC
  rw [h.2.1 1 (by decide), h.2.1 2 (by decide)]
theorem NI.sg {A M : Mem} {st : Nat} {T : Int → Int → Int → Int → Prop} (h : NI A M st T) (hg : SgOk A) : SgOk M := by
  unfold SgOk
  rw [h.2.1 1 (by decide), h.2.1 2 (by decide)]
  exact hg
theorem cel_inj12 {r s k1 k2 r' s' k1' k2' : Int} (hr : s = s' → r = r') (a1 : 0 ≤ k1 ∧ k1 < 12) (a2 : 0 ≤ k2 ∧ k2 < 12) (b1 : 0 ≤ k1' ∧ k1' < 12) (b2 : 0 ≤ k2' ∧ k2' < 12) (e : cel r s k1 k2 12 = cel r' s' k1' k2' 12) : s = s' ∧ (1 ≤ r → k1 = k1') ∧ (2 ≤ r → k2 = k2') := by
  unfold cel at e
  have c1 : 0 ≤ (if 0 < r then k1 else 0) ∧ (if 0 < r then k1 else 0) < 12 := by split <;> omega
  have c2 : 0 ≤ (if 1 < r then k2 else 0) ∧ (if 1 < r then k2 else 0) < 12 := by split <;> omega
  have c3 : 0 ≤ (if 0 < r' then k1' else 0) ∧ (if 0 < r' then k1' else 0) < 12 := by split <;> omega
  have c4 : 0 ≤ (if 1 < r' then k2' else 0) ∧ (if 1 < r' then k2' else 0) < 12 := by split <;> omega
  have hs : s = s' := by omega
  have := hr hs
  subst this
  refine ⟨hs, fun q => ?_, fun q => ?_⟩
  · rw [if_pos (show 0 < r by omega), if_pos (show 0 < r by omega)] at e
    rw [if_pos (show 0 < r by omega)] at c1 c3
    omega
  · rw [if_pos (show 1 < r by omega), if_pos (show 1 < r by omega)] at e
    rw [if_pos (show 1 < r by omega)] at c2 c4
    omega
theorem cel_r12 {r s k1 k2 : Int} (hs : 0 ≤ s ∧ s < 6) (a1 : 1 ≤ r → 0 ≤ k1 ∧ k1 < 12) (a2 : 2 ≤ r → 0 ≤ k2 ∧ k2 < 12) : 0 ≤ cel r s k1 k2 12 ∧ cel r s k1 k2 12 < 864 := by
  unfold cel
  have c1 : 0 ≤ (if 0 < r then k1 else 0) ∧ (if 0 < r then k1 else 0) < 12 := by split <;> omega
  have c2 : 0 ≤ (if 1 < r then k2 else 0) ∧ (if 1 < r then k2 else 0) < 12 := by split <;> omega
  omega
def LT (A : Mem) (T : Int → Int → Int → Int → Prop) (s0 x0 y0 : Int) (B : Int → Prop) : Int → Int → Int → Int → Prop := fun s x y q => T s x y q ∨ (s = s0 ∧ (1 ≤ rkC A s0 → x = x0) ∧ (2 ≤ rkC A s0 → y = y0) ∧ B q)
theorem lead_ok {A M : Mem} {st : Nat} {T : Int → Int → Int → Int → Prop} (hB : SB A) (hg : SgOk A) (h : NI A M st T) (st12 : st ≤ 12) {s x y set : Int} (hs : 0 ≤ s ∧ s < 6) (hx : 1 ≤ rkC A s → 0 ≤ x ∧ x < 12) (hy : 2 ≤ rkC A s → 0 ≤ y ∧ y < 12) (z0 : 0 ≤ set) (z1 : set < 2 ^ st) : OkM (D_Net_lead 8 s x y set M) (fun M' => NI A M' st (LT A T s x y (fun q => bt set q))) := by
  have hBM := h.sb hB
  have ce := cell_ok hBM.s_ (h.sg hg).2.1 (s := s) (x := x) (y := y) (w := 12) hs (by decide) (fun q => by rw [h.rk] at q; have := hx q; omega) (fun q => by rw [h.rk] at q; have := hy q; omega)
  rw [h.rk] at ce
  have cr := cel_r12 (r := rkC A s) (s := s) hs hx hy
  have p12' := p12 st12
  unfold D_Net_lead
  simp [-Option.bind_some, -Option.bind_none, gf, pf, rd, wt, ck, ln, lt, bz, nq, up_1, up_2, obs, obn, hBM.n_, hBM.s_, ce, cr]
  obtain ⟨e2, ea, er, eb⟩ := h
  have oz := er _ cr.1 cr.2
  have ir := ior_r (k := st) (by omega) oz.1 oz.2 z0 z1
  refine OkM.i ⟨by rw [up_2]; exact e2, fun a q => by rw [up_n q]; exact ea a q, fun i i0 i1 => ?_, fun s' x' y' a b c d f g k l q q0 => ?_⟩
  · rw [up_1]
    by_cases e : i = cel (rkC A s) s x y 12
    · rw [if_pos ⟨rfl, e⟩]; exact ir
    · rw [if_neg (fun w => e w.2)]; exact er i i0 i1
  · rw [up_1]
    unfold LT
    have nx : cel (rkC A s) s x y 12 = cel (rkC A s) s (if 1 ≤ rkC A s then x else 0) (if 2 ≤ rkC A s then y else 0) 12 := cel_c (fun w => (if_pos w).symm) (fun w => (if_pos w).symm) 12
    by_cases e : cel (rkC A s') s' x' y' 12 = cel (rkC A s) s x y 12
    · rw [if_pos ⟨rfl, e⟩]
      have e0 := e
      rw [nx] at e
      obtain ⟨i1, i2, i3⟩ := cel_inj12 (fun q => by rw [q]) ⟨c, d⟩ ⟨f, g⟩ (by split <;> omega) (by split <;> omega) e
      have w := eb s' x' y' a b c d f g k l q q0
      rw [e0] at w
      rw [bt_or oz.1 (by have := oz.2; omega) z0 (by omega), w]
      subst i1
      constructor
      · intro z
        rcases z with z | z
        · exact Or.inl z
        · exact Or.inr ⟨rfl, fun w => by rw [i2 w, if_pos w], fun w => by rw [i3 w, if_pos w], z⟩
      · intro z
        rcases z with z | z
        · exact Or.inl z
        · exact Or.inr z.2.2.2
    · rw [if_neg (fun w => e w.2), eb s' x' y' a b c d f g k l q q0]
      constructor
      · intro z; exact Or.inl z
      · intro z
        rcases z with z | ⟨z1, z2, z3, -⟩
        · exact z
        · exfalso
          refine e ?_
          subst z1
          exact cel_c z2 z3 12
/-- what the signs of a net make of sets -/
def AB (rk : Int → Int) (st s x y a b : Int) : Prop := (1 ≤ rk s → 0 ≤ a ∧ a < st ∧ bt x a) ∧ (¬ 1 ≤ rk s → a = 0) ∧ (2 ≤ rk s → 0 ≤ b ∧ b < st ∧ bt y b) ∧ (¬ 2 ≤ rk s → b = 0)
theorem dN_b {M : Mem} (h : NtOk M) (hg : SgOk M) {s x y : Int} (hs : 0 ≤ s ∧ s < 6) (hx : 1 ≤ rkC M s → vs M x) (hy : 2 ≤ rkC M s → vs M y) {q : Int} : bt (dN M s x y) q ↔ ∃ a b, AB (rkC M) (M.1 8 2) s x y a b ∧ bt (M.1 9 (cel (rkC M s) s a b 12)) q := by
  have rg := hg.rk s
  by_cases r0 : rkC M s = 0
  · have e : dN M s x y = M.1 9 (cel (rkC M s) s 0 0 12) := by
      unfold dN cel
      rw [if_pos (show rkC M s ≤ 0 by omega), if_neg (show ¬ 0 < rkC M s by omega), if_neg (show ¬ 1 < rkC M s by omega), show (s * 12 + 0) * 12 + 0 = s * 144 by omega]
    rw [e]
    constructor
    · intro z; exact ⟨0, 0, ⟨fun q => by omega, fun _ => rfl, fun q => by omega, fun _ => rfl⟩, z⟩
    · intro ⟨a, b, ⟨_, h1, _, h2⟩, z⟩
      rw [h1 (by omega), h2 (by omega)] at z
      exact z
  · by_cases r1 : rkC M s = 1
    · have vx := hx (by omega)
      have e : dN M s x y = imgA M s x := by
        unfold dN
        rw [if_neg (show ¬ rkC M s ≤ 0 by omega), if_pos (show rkC M s ≤ 1 by omega)]
      rw [e, (imgA_b h hs vx.1 (val12 h vx.2)).2 q]
      have ec : ∀ a, cel (rkC M s) s a 0 12 = (s * 12 + a) * 12 := fun a => by
        unfold cel
        rw [if_pos (show 0 < rkC M s by omega), if_neg (show ¬ 1 < rkC M s by omega)]
        omega
      constructor
      · intro ⟨a, a0, a1, ba, z⟩
        exact ⟨a, 0, ⟨fun _ => ⟨a0, a1, ba⟩, fun q => by omega, fun q => by omega, fun _ => rfl⟩, by rw [ec]; exact z⟩
      · intro ⟨a, b, ⟨h1, _, _, h2⟩, z⟩
        rw [h2 (by omega), ec] at z
        have := h1 (by omega)
        exact ⟨a, this.1, this.2.1, this.2.2, z⟩
    · rw [(dN2_b h hs (by omega) (hx (by omega)) (hy (by omega))).2 q]
      have ec : ∀ a b, cel (rkC M s) s a b 12 = s * 144 + (a * 12 + b) := fun a b => by
        unfold cel
        rw [if_pos (show 0 < rkC M s by omega), if_pos (show 1 < rkC M s by omega)]
        omega
      constructor
      · intro ⟨a, b, a0, a1, b0, b1, ba, bb, z⟩
        exact ⟨a, b, ⟨fun _ => ⟨a0, a1, ba⟩, fun q => by omega, fun _ => ⟨b0, b1, bb⟩, fun q => by omega⟩, by rw [ec]; exact z⟩
      · intro ⟨a, b, ⟨h1, _, h2, _⟩, z⟩
        rw [ec] at z
        have u := h1 (by omega)
        have v := h2 (by omega)
        exact ⟨a, b, u.1, u.2.1, v.1, v.2.1, u.2.2, v.2.2, z⟩
/-- filling in by signs and numbers: all before (x, y) is in -/
def TT (A : Mem) (T : Int → Int → Int → Int → Prop) (base s0 many : Int) (S : Int → Int → Int) (x y : Int) : Int → Int → Int → Int → Prop := fun s a b q => T s a b q ∨ (s = s0 ∧ ∃ x0 y0, Arg (rkC A) many s0 x0 y0 ∧ (x0 < x ∨ (x0 = x ∧ y0 < y)) ∧ (1 ≤ rkC A s0 → a = base + x0) ∧ (2 ≤ rkC A s0 → b = base + y0) ∧ bt (S x0 y0) q)
def EE (A : Mem) (T : Int → Int → Int → Int → Prop) (base s0 many : Int) (S : Int → Int → Int) : Int → Int → Int → Int → Prop := fun s a b q => T s a b q ∨ (s = s0 ∧ ∃ x0 y0, Arg (rkC A) many s0 x0 y0 ∧ (1 ≤ rkC A s0 → a = base + x0) ∧ (2 ≤ rkC A s0 → b = base + y0) ∧ bt (S x0 y0) q)
section TTS
variable {A M : Mem} {st : Nat} {T : Int → Int → Int → Int → Prop} {base s0 many x y : Int} {S : Int → Int → Int}
theorem TT.start (h : NI A M st T) : NI A M st (TT A T base s0 many S 0 0) := by
  refine h.c (fun s a b q => ⟨fun z => Or.inl z, fun z => ?_⟩)
  rcases z with z | ⟨-, x0, y0, hA, z, -⟩
  · exact z
  · have := hA.nn; omega
theorem TT.ny (h : NI A M st (TT A T base s0 many S x y)) (hy : (2 ≤ rkC A s0 → many ≤ y) ∧ (¬ 2 ≤ rkC A s0 → 1 ≤ y)) : NI A M st (TT A T base s0 many S (x + 1) 0) := by
  refine h.c (fun s a b q => ⟨fun z => ?_, fun z => ?_⟩)
  · rcases z with z | ⟨e, x0, y0, hA, z, w⟩
    · exact Or.inl z
    · exact Or.inr ⟨e, x0, y0, hA, by omega, w⟩
  · rcases z with z | ⟨e, x0, y0, hA, z, w⟩
    · exact Or.inl z
    · have := hA.nn
      refine Or.inr ⟨e, x0, y0, hA, ?_, w⟩
      by_cases q2 : 2 ≤ rkC A s0
      · have := hA.2.2.1 q2; have := hy.1 q2; omega
      · have := hA.2.2.2 q2; have := hy.2 q2; omega
theorem TT.nx (h : NI A M st (TT A T base s0 many S x 0)) (hx : (1 ≤ rkC A s0 → many ≤ x) ∧ (¬ 1 ≤ rkC A s0 → 1 ≤ x)) : NI A M st (EE A T base s0 many S) := by
  refine h.c (fun s a b q => ⟨fun z => ?_, fun z => ?_⟩)
  · rcases z with z | ⟨e, x0, y0, hA, z, w⟩
    · exact Or.inl z
    · exact Or.inr ⟨e, x0, y0, hA, w⟩
  · rcases z with z | ⟨e, x0, y0, hA, w⟩
    · exact Or.inl z
    · refine Or.inr ⟨e, x0, y0, hA, ?_, w⟩
      by_cases q2 : 1 ≤ rkC A s0
      · have := hA.1 q2; have := hx.1 q2; omega
      · have := hA.2.1 q2; have := hx.2 q2; omega
theorem TT.lead (hB : SB A) (hg : SgOk A) (h : NI A M st (TT A T base s0 many S x y)) (st12 : st ≤ 12) (hs : 0 ≤ s0 ∧ s0 < 6) (hA : Arg (rkC A) many s0 x y) (b0 : 0 ≤ base) (bm : base + many ≤ 12) (z0 : 0 ≤ S x y) (z1 : S x y < 2 ^ st) : OkM (D_Net_lead 8 s0 (base + x) (base + y) (S x y) M) (fun M' => NI A M' st (TT A T base s0 many S x (y + 1))) := by
  obtain ⟨M', e, hN⟩ := lead_ok hB hg h st12 hs (x := base + x) (y := base + y) (fun q => by have := hA.1 q; omega) (fun q => by have := hA.2.2.1 q; omega) z0 z1
  refine ⟨M', e, hN.c (fun s a b q => ⟨fun z => ?_, fun z => ?_⟩)⟩
  · rcases z with z | ⟨e, w1, w2, w3⟩
    · rcases z with z | ⟨e, x0, y0, hA', z, w⟩
      · exact Or.inl z
      · exact Or.inr ⟨e, x0, y0, hA', by omega, w⟩
    · exact Or.inr ⟨e, x, y, hA, by omega, w1, w2, w3⟩
  · rcases z with z | ⟨e, x0, y0, hA', z, w1, w2, w3⟩
    · exact Or.inl (Or.inl z)
    · by_cases q' : x0 = x ∧ y0 = y
      · rw [q'.1] at w1 w3
        rw [q'.2] at w2 w3
        exact Or.inr ⟨e, w1, w2, w3⟩
      · exact Or.inl (Or.inr ⟨e, x0, y0, hA', by omega, w1, w2, w3⟩)
end TTS
/-! a machine's steps -/
def MOK (A : Mem) (p : Int) : Prop := MS A p ∧ (p = 50 ∨ 100 ≤ p) ∧ MW (A.1 1 1) (rkC A) (mch A p) ∧ (0 ≤ A.1 p 11 ∧ A.1 p 11 < 64)
theorem step_ok {M : Mem} {p s x y : Int} (hB : SB M) (hg : SgOk M) (hM : MS M p) {c : Int} (c6 : c ≤ 6) (hs : 0 ≤ s ∧ s < 6) (hA : Arg (rkC M) c s x y) : D_Machine_step p s x y M = some (mT (mch M p) s x y, M) := by
  have b6 := hA.b6 c6
  have ce := cell_ok hB.s_ hg.2.1 (s := s) (x := x) (y := y) (w := 6) hs (by decide) (fun q => by omega) (fun q => by omega)
  have cr := cel_r (r := rkC M s) (s := s) (k1 := x) (k2 := y) hs (fun _ => b6.1) (fun _ => b6.2)
  unfold D_Machine_step
  show _ = some (M.1 (p + 1) (cel (rkC M s) s x y 6), M)
  simp [-Option.bind_some, -Option.bind_none, gf, pf, rd, wt, ck, ln, lt, bz, nq, up_1, up_2, obs, obn, hM, hB.s_, ce, cr]
theorem NI.mch {A M : Mem} {st : Nat} {T : Int → Int → Int → Int → Prop} (h : NI A M st T) {p : Int} (hp : p = 50 ∨ 100 ≤ p) : mch M p = mch A p := by
  unfold Pilot.CTreeTonguesLaw_law_r3355_3c53dc.mch
  rw [h.rk, h.2.1 p (by omega), h.2.1 (p + 1) (by omega), h.2.1 (p + 2) (by omega), h.2.1 (p + 3) (by omega), h.2.1 (p + 4) (by omega), h.2.1 (p + 5) (by omega)]
theorem NI.ms {A M : Mem} {st : Nat} {T : Int → Int → Int → Int → Prop} (h : NI A M st T) {p : Int} (hp : p = 50 ∨ 100 ≤ p) (q : MS A p) : MS M p := by
  have e : M.1 p = A.1 p := h.2.1 p (by omega)
  unfold MS
  rw [h.1, e]
  exact q
def ES (A : Mem) (p base s1 : Int) : Int → Int → Int := fun x y => ishl 1 (base + mT (Pilot.CTreeTonguesLaw_law_r3355_3c53dc.mch A p) s1 x y)
theorem arg_rk {rk : Int → Int} {c s s' x y : Int} (e : rk s' = rk s) (h : Arg rk c s x y) : Arg rk c s' x y := by
  unfold Arg
  rw [e]
  exact h
theorem en28_lp {A M : Mem} {st : Nat} {T : Int → Int → Int → Int → Prop} {p base s s1 x : Int} (hB : SB A) (hg : SgOk A) (hM : MOK A p) (st12 : st ≤ 12) (hs : 0 ≤ s ∧ s < 6) (hs1 : 0 ≤ s1 ∧ s1 < A.1 1 1) (er : rkC A s1 = rkC A s) (b0 : 0 ≤ base) (bm : base + A.1 p 10 ≤ st) (hb6 : base ≤ 6) (hx : (1 ≤ rkC A s → 0 ≤ x ∧ x < A.1 p 10) ∧ (¬ 1 ≤ rkC A s → x = 0)) (P : Option Mem → Prop) (k : Mem → Option Mem) (h2 : ∀ M', NI A M' st (TT A T base s (A.1 p 10) (ES A p base s1) (x + 1) 0) → P (k M')) (hI : NI A M st (TT A T base s (A.1 p 10) (ES A p base s1) x 0)) : P (L_Net_enter_28 k 8 p base s s1 (A.1 p 10) x FU 0 M) := by
  obtain ⟨hMS, hp, hW, hf⟩ := hM
  have k6 : 0 ≤ A.1 p 10 ∧ A.1 p 10 ≤ 6 := hW.1
  have n6 := hg.2.1
  refine lq1 (fun n v M' => L_Net_enter_28 k 8 p base s s1 (A.1 p 10) x n v M') (fun y M' => 0 ≤ y ∧ y ≤ 6 ∧ NI A M' st (TT A T base s (A.1 p 10) (ES A p base s1) x y)) (fun y => (6 - y).toNat) P ?_ ⟨Int.le_refl 0, by decide, hI⟩ (by have := FU_eq; omega)
  clear hI M
  intro n y M ⟨y0, y6, hI⟩ ih
  show P (L_Net_enter_28 k 8 p base s s1 (A.1 p 10) x (n + 1) y M)
  have hBM := hI.sb hB
  have hgM := hI.sg hg
  have hMM := hI.ms hp hMS
  have cho := choices_ok hBM.s_ hgM.2.1 s 1 (A.1 p 10)
  rw [hI.rk] at cho
  rw [L_Net_enter_28]
  by_cases hy : (if 1 < rkC A s then A.1 p 10 else 1) ≤ y
  · simp [-Option.bind_some, -Option.bind_none, gf, pf, rd, wt, ck, ln, lt, bz, nq, up_1, up_2, obs, obn, hBM.n_, hBM.s_, cho, hy]
    refine h2 M (TT.ny hI ⟨fun q => ?_, fun q => ?_⟩)
    · rw [if_pos (by omega)] at hy; exact hy
    · rw [if_neg (by omega)] at hy; exact hy
  · have hA : Arg (rkC A) (A.1 p 10) s x y := by
      refine ⟨hx.1, hx.2, fun q => ?_, fun q => ?_⟩
      · rw [if_pos (by omega)] at hy; omega
      · rw [if_neg (by omega)] at hy; omega
    have b6 := hA.b6 k6.2
    have hA1 := arg_rk er hA
    have tr := hW.2 s1 x y hs1.1 hs1.2 hA1
    have st' : mN (mch A p) = A.1 p 10 := rfl
    rw [st'] at tr
    have so := step_ok (p := p) hBM hgM hMM k6.2 (s := s1) (x := x) (y := y) ⟨hs1.1, by omega⟩ (by rw [hI.rk]; exact hA1)
    rw [hI.mch hp] at so
    have e1 : wr (y + 1) = y + 1 := wr_eq (by omega) (by omega)
    have ex : wr (base + x) = base + x := wr_eq (by omega) (by omega)
    have ey : wr (base + y) = base + y := wr_eq (by omega) (by omega)
    have ez : wr (base + mT (mch A p) s1 x y) = base + mT (mch A p) s1 x y := wr_eq (by omega) (by omega)
    have zr := ishl1_r (j := st) (k := base + mT (mch A p) s1 x y) (by omega) (by omega) (by omega)
    obtain ⟨M2, el, hI2⟩ := TT.lead hB hg hI st12 hs hA b0 (by omega) zr.1 zr.2
    have el' : D_Net_lead 8 s (base + x) (base + y) (ishl 1 (base + mT (mch A p) s1 x y)) M = some M2 := el
    simp [-Option.bind_some, -Option.bind_none, gf, pf, rd, wt, ck, ln, lt, bz, nq, up_1, up_2, obs, obn, hBM.n_, hBM.s_, cho, hy, hMM, so, ex, ey, ez, el', e1]
    exact ih (y + 1) M2 ⟨by omega, by omega, hI2⟩ (by omega)
theorem enter_ok {A M : Mem} {st : Nat} {T : Int → Int → Int → Int → Prop} {p base s s1 : Int} (hB : SB A) (hg : SgOk A) (hM : MOK A p) (st12 : st ≤ 12) (hs : 0 ≤ s ∧ s < 6) (hs1 : 0 ≤ s1 ∧ s1 < A.1 1 1) (er : rkC A s1 = rkC A s) (b0 : 0 ≤ base) (bm : base + A.1 p 10 ≤ st) (hb6 : base ≤ 6) (hI : NI A M st T) : OkM (D_Net_enter 8 p base s s1 M) (fun M' => NI A M' st (EE A T base s (A.1 p 10) (ES A p base s1))) := by
  have hM0 := hM
  obtain ⟨hMS, hp, hW, hf⟩ := hM
  have k6 : 0 ≤ A.1 p 10 ∧ A.1 p 10 ≤ 6 := hW.1
  have hMM := hI.ms hp hMS
  have ep : M.1 p 10 = A.1 p 10 := by rw [hI.2.1 p (by clear hMM hMS; omega)]
  unfold D_Net_enter
  simp [-Option.bind_some, -Option.bind_none, gf, pf, rd, wt, ck, ln, lt, bz, nq, up_1, up_2, obs, obn, hMM, ep]
  have hI0 := TT.start (base := base) (s0 := s) (many := A.1 p 10) (S := ES A p base s1) hI
  refine lq1 (fun n v M' => L_Net_enter_9 (fun m9 => some m9) 8 p base s s1 (A.1 p 10) n v M') (fun x M' => 0 ≤ x ∧ x ≤ 6 ∧ NI A M' st (TT A T base s (A.1 p 10) (ES A p base s1) x 0)) (fun x => (6 - x).toNat) (fun o => OkM o (fun M' => NI A M' st (EE A T base s (A.1 p 10) (ES A p base s1)))) ?_ ⟨Int.le_refl 0, by decide, hI0⟩ (by have := FU_eq; omega)
  clear hI hI0 hMM ep M
  intro n x M ⟨x0, x6, hI⟩ ih
  show OkM (L_Net_enter_9 _ 8 p base s s1 (A.1 p 10) (n + 1) x M) _
  have hBM := hI.sb hB
  have hgM := hI.sg hg
  have cho := choices_ok hBM.s_ hgM.2.1 s 0 (A.1 p 10)
  rw [hI.rk] at cho
  rw [L_Net_enter_9]
  by_cases hx : (if 0 < rkC A s then A.1 p 10 else 1) ≤ x
  · simp [-Option.bind_some, -Option.bind_none, gf, pf, rd, wt, ck, ln, lt, bz, nq, up_1, up_2, obs, obn, hBM.n_, hBM.s_, cho, hx]
    refine OkM.i (TT.nx hI ⟨fun q => ?_, fun q => ?_⟩)
    · rw [if_pos (by omega)] at hx; exact hx
    · rw [if_neg (by omega)] at hx; exact hx
  · have xr : (1 ≤ rkC A s → 0 ≤ x ∧ x < A.1 p 10) ∧ (¬ 1 ≤ rkC A s → x = 0) := by
      constructor
      · intro q; rw [if_pos (by omega)] at hx; omega
      · intro q; rw [if_neg (by omega)] at hx; omega
    have x5 : x < 6 := by
      by_cases q : 1 ≤ rkC A s
      · have := xr.1 q; omega
      · have := xr.2 q; omega
    have e1 : wr (x + 1) = x + 1 := wr_eq (by omega) (by omega)
    simp [-Option.bind_some, -Option.bind_none, gf, pf, rd, wt, ck, ln, lt, bz, nq, up_1, up_2, obs, obn, hBM.n_, hBM.s_, cho, hx, e1]
    exact en28_lp hB hg hM0 st12 hs hs1 er b0 bm hb6 xr (fun o => OkM o _) _ (fun M' h => ih (x + 1) M' ⟨by omega, by omega, h⟩ (by omega)) hI
