/-! the reference: a machine is made -/
def KH (m : Int) (B M : Mem) : Prop := KG B M ∧ M.1 82 = B.1 82 ∧ M.1 84 = B.1 84 ∧ ∀ a k, 76 ≤ a → a ≤ 79 → ¬ (6 * m ≤ k ∧ k < 6 * m + 6) → M.1 a k = B.1 a k
theorem KH.rf (m : Int) (B : Mem) : KH m B B := ⟨KG.rf B, rfl, rfl, fun _ _ _ _ _ => rfl⟩
theorem KH.up {m : Int} {B M : Mem} (h : KH m B M) {a k v : Int} (ha : (86 ≤ a ∧ a ≤ 89) ∨ (76 ≤ a ∧ a ≤ 79 ∧ 6 * m ≤ k ∧ k < 6 * m + 6)) : KH m B (up M a k v) := by
  refine ⟨h.1.up (by omega), by rw [up_n (by omega)]; exact h.2.1, by rw [up_n (by omega)]; exact h.2.2.1, fun a' k' a0 a1 q => ?_⟩
  rw [up_1, if_neg (by omega)]; exact h.2.2.2 a' k' a0 a1 q
theorem KH.so {m : Int} {B M M1 : Mem} (h : KH m B M) (s : So M M1) : KH m B M1 := ⟨s.kg h.1, (s.2.1 82 (by decide)).trans h.2.1, (s.2.1 84 (by decide)).trans h.2.2.1, fun a k a0 a1 q => by rw [s.2.1 a (by omega)]; exact h.2.2.2 a k a0 a1 q⟩
theorem tauR_c {N A B M : Mem} (e82 : M.1 82 = B.1 82) (e84 : M.1 84 = B.1 84) : tauR N A M = tauR N A B := by
  funext s a b
  unfold tauR
  rw [e82, e84]
theorem mk57_lp {N A B : Mem} {nx : Int → Int → Int → Int} {fn : Int → Int} {m n : Int} (R : RA N nx fn) (h : KF N nx A) (hG : KG A B) (P : Option (Int × Mem) → Prop) (k : Mem → Option (Int × Mem)) (h2 : ∀ M', KH m B M' → (∀ i, 0 ≤ i → i < 6 → M'.1 86 i = -1) → P (k M')) : P (L_M_make_57 k 62 m n FU 0 B) := by
  refine lq1 (fun n' v M' => L_M_make_57 k 62 m n n' v M') (fun v M' => 0 ≤ v ∧ v ≤ 6 ∧ KH m B M' ∧ ∀ i, 0 ≤ i → i < v → M'.1 86 i = -1) (fun v => (6 - v).toNat) P ?_ ⟨Int.le_refl 0, by decide, KH.rf m B, fun i a b => by omega⟩ (by have := FU_eq; omega)
  intro n' v M ⟨v0, v1, hH, hz⟩ ih
  show P (L_M_make_57 k 62 m n (n' + 1) v M)
  have hS := (R.m (h.1.tr (hG.tr hH.1).1)).1.m_
  rw [L_M_make_57]
  by_cases hv : 6 ≤ v
  · simp [-Option.bind_some, -Option.bind_none, gf, pf, rd, wt, ck, ln, lt, bz, nq, up_1, up_2, obs, obn, hv]
    exact h2 M hH (fun i a b => hz i a (by omega))
  · have e1 : wr (v + 1) = v + 1 := wr_eq (by omega) (by omega)
    have hv' : v < 6 := by omega
    simp [-Option.bind_some, -Option.bind_none, gf, pf, rd, wt, ck, ln, lt, bz, nq, up_1, up_2, obs, obn, hv, hS, v0, hv', e1]
    refine ih (v + 1) _ ⟨by omega, by omega, hH.up (by omega), fun i a b => ?_⟩ (by omega)
    rw [up_1]
    by_cases q : i = v
    · rw [if_pos ⟨rfl, q⟩]
    · rw [if_neg (fun w => q w.2)]; exact hz i a (by omega)
theorem mk81_lp {N A B M : Mem} {nx : Int → Int → Int → Int} {fn : Int → Int} {m kc : Int} {acc fin : Int → Prop} {κ : Int → Int} {δ : Int → Int → Int → Int} (R : RA N nx fn) (h : KF N nx A) (hG : KG A B) (hm : 0 ≤ m ∧ m ≤ 18) (hL : ∀ k, 0 ≤ k → k < kc → 0 ≤ B.1 84 k ∧ B.1 84 k < A.1 62 26) (Q : QM (N.1 1 1) (rkC N) δ acc kc (tauR N A B) fin κ) (P : Option (Int × Mem) → Prop) (k : Mem → Option (Int × Mem)) (h2 : ∀ M', KH m B M' → NPr N A M' m kc kc → P (k M')) (hH : KH m B M) (hN : NPr N A M m kc 0) : P (L_M_make_81 k 62 m kc FU 0 M) := by
  have k6 := Q.1
  refine lq1 (fun n' v M' => L_M_make_81 k 62 m kc n' v M') (fun c M' => 0 ≤ c ∧ c ≤ kc ∧ KH m B M' ∧ NPr N A M' m kc c) (fun c => (kc - c).toNat) P ?_ ⟨Int.le_refl 0, k6.1, hH, hN⟩ (by have := FU_eq; omega)
  clear hH hN M
  intro n' c M ⟨c0, c1, hH, hNP⟩ ih
  show P (L_M_make_81 k 62 m kc (n' + 1) c M)
  rw [L_M_make_81]
  by_cases hc : kc ≤ c
  · have : c = kc := by omega
    subst this
    simp [-Option.bind_some, -Option.bind_none, gf, pf, rd, wt, ck, ln, lt, bz, nq, up_1, up_2, obs, obn, hc]
    exact h2 M hH hNP
  · have et := tauR_c (N := N) (A := A) hH.2.1 hH.2.2.1
    have hGM := hG.tr hH.1
    have hS := (R.m (h.1.tr hGM.1)).1.m_
    have hNP' := hNP
    unfold NPr at hNP'
    rw [et] at hNP'
    obtain ⟨M1, es, hSo, hBI⟩ := seek_ok (N := N) (A := A) (N0 := M) (nx := nx) (fn := fn) (m := m) (c := c) (kc := kc) ⟨R, h, hGM, hm, c0, by omega, k6.2, fun k a b => by rw [hH.2.2.1]; exact hL k a b, hNP, fun s x y s0 s1 hA => by rw [et]; exact Q.tr hNP'.k s0 s1 hA⟩
    rw [et] at hBI
    obtain ⟨hno, hh, hA, efn, fb, eb, hj, hmn⟩ := hBI.fin hNP' Q c0 (by omega)
    have hH1 := hH.so hSo
    have hS1 := (R.m (h.1.tr (hG.tr hH1.1).1)).1.m_
    have f6 : M1.1 62 38 < 6 := by omega
    have c6 : c < 6 := by omega
    have e1 : wr (c + 1) = c + 1 := wr_eq (by omega) (by omega)
    have ex : wr (wr (6 * m) + c) = 6 * m + c := by rw [wr_eq (z := 6 * m) (by omega) (by omega), wr_eq (by omega) (by omega)]
    have x0 : 0 ≤ 6 * m + c := by omega
    have x1 : 6 * m + c < 114 := by omega
    simp [-Option.bind_some, -Option.bind_none, gf, pf, rd, wt, ck, ln, lt, bz, nq, up_1, up_2, obs, obn, hc, hS, es, hS1, fb, f6, c0, c6, ex, x0, x1, e1]
    have q76 : M1.1 76 = M.1 76 := hSo.2.1 76 (by decide)
    have q77 : M1.1 77 = M.1 77 := hSo.2.1 77 (by decide)
    have q78 : M1.1 78 = M.1 78 := hSo.2.1 78 (by decide)
    have q79 : M1.1 79 = M.1 79 := hSo.2.1 79 (by decide)
    have q86 : M1.1 86 = M.1 86 := hSo.2.1 86 (by decide)
    have q87 : M1.1 87 = M.1 87 := hSo.2.1 87 (by decide)
    have hH2 : KH m B (up (up (up (up (up (up M1 86 (M1.1 62 38) c) 87 c (M1.1 62 38)) 76 (6 * m + c) (M1.1 62 34)) 77 (6 * m + c) (M1.1 62 35)) 78 (6 * m + c) (M1.1 62 36)) 79 (6 * m + c) (M1.1 62 37)) := (((((hH1.up (by omega)).up (by omega)).up (by omega)).up (by omega)).up (by omega)).up (by omega)
    refine ih (c + 1) _ ⟨by omega, by omega, hH2, ?_⟩ (by omega)
    unfold NPr
    rw [tauR_c (N := N) (A := A) hH2.2.1 hH2.2.2.1]
    refine hNP'.add Q.2.1 c0 hh.1 hh.2 hA efn fb.1 fb.2 hj hmn ?_ ?_ ?_ ?_ ?_ ?_ ?_ ?_ ?_ ?_ ?_ ?_
    · intro i i0 i1
      have : ¬ i = c := by omega
      simp [up_1, this, q87]
    · intro i i0 i1
      have : ¬ 6 * m + i = 6 * m + c := by omega
      simp [up_1, this, q76]
    · intro i i0 i1
      have : ¬ 6 * m + i = 6 * m + c := by omega
      simp [up_1, this, q77]
    · intro i i0 i1
      have : ¬ 6 * m + i = 6 * m + c := by omega
      simp [up_1, this, q78]
    · intro i i0 i1
      have : ¬ 6 * m + i = 6 * m + c := by omega
      simp [up_1, this, q79]
    · intro j hj
      simp [up_1, hj, q86]
    · simp [up_1]
    · simp [up_1]
    · simp [up_1]
      exact eb
    · simp [up_1]
    · simp [up_1]
    · simp [up_1]
/-! laying it down -/
def LY (B M : Mem) : Prop := M.2 = B.2 ∧ ∀ a, a ≠ 88 → a ≠ 89 → M.1 a = B.1 a
theorem LY.rf (B : Mem) : LY B B := ⟨rfl, fun _ _ _ => rfl⟩
theorem LY.up {B M : Mem} (h : LY B M) {a k v : Int} (ha : a = 88 ∨ a = 89) : LY B (up M a k v) := ⟨by rw [up_2]; exact h.1, fun a' q1 q2 => by rw [up_n (by omega)]; exact h.2 a' q1 q2⟩
theorem LY.kg {B M : Mem} (h : LY B M) : KG B M := ⟨⟨h.1, fun a _ q => h.2 a (by omega) (by omega), fun k _ _ => by rw [h.2 62 (by decide) (by decide)]⟩, by rw [h.2 62 (by decide) (by decide)], h.2 80 (by decide) (by decide), h.2 81 (by decide) (by decide), h.2 85 (by decide) (by decide)⟩
theorem lay2_lp {N A B : Mem} {nx : Int → Int → Int → Int} {fn : Int → Int} {m kc : Int} (R : RA N nx fn) (h : KF N nx A) (hG : KG A B) (k6 : kc ≤ 6) (k0 : 0 ≤ kc) (hL : ∀ k, 0 ≤ k → k < kc → 0 ≤ B.1 84 k ∧ B.1 84 k < A.1 62 26) (hN : NPr N A B m kc kc) (P : Option Mem → Prop) (k : Mem → Option Mem) (h2 : ∀ M', LY B M' → (∀ c, 0 ≤ c → c < kc → M'.1 88 c = fn (A.1 80 (B.1 84 (B.1 87 c)))) → P (k M')) : P (L_M_layMachine_2 k 62 m kc FU 0 B) := by
  have r := h.2.1.1
  refine lq1 (fun n' v M' => L_M_layMachine_2 k 62 m kc n' v M') (fun c M' => 0 ≤ c ∧ c ≤ kc ∧ LY B M' ∧ ∀ c', 0 ≤ c' → c' < c → M'.1 88 c' = fn (A.1 80 (B.1 84 (B.1 87 c')))) (fun c => (kc - c).toNat) P ?_ ⟨Int.le_refl 0, k0, LY.rf B, fun c' a b => by omega⟩ (by have := FU_eq; omega)
  intro n' c M ⟨c0, c1, hY, hc⟩ ih
  show P (L_M_layMachine_2 k 62 m kc (n' + 1) c M)
  have hGM := hG.tr hY.kg
  have hC := h.1.tr hGM.1
  have hS := (R.m hC).1.m_
  rw [L_M_layMachine_2]
  by_cases q : kc ≤ c
  · simp [-Option.bind_some, -Option.bind_none, gf, pf, rd, wt, ck, ln, lt, bz, nq, up_1, up_2, obs, obn, q]
    have : c = kc := by omega
    subst this
    exact h2 M hY hc
  · have e1 : wr (c + 1) = c + 1 := wr_eq (by omega) (by omega)
    have c6 : c < 6 := by omega
    have w := hN.k c c0 (by omega)
    have l := hL _ w.1 w.2
    have e87 : M.1 87 = B.1 87 := hY.2 87 (by decide) (by decide)
    have e84 : M.1 84 = B.1 84 := hY.2 84 (by decide) (by decide)
    have w5 : B.1 87 c < 512 := by omega
    have l5 : B.1 84 (B.1 87 c) < 512 := by omega
    have f := R.2.2.2.1 M hC (A.1 80 (B.1 84 (B.1 87 c))) (h.2.1.2.1 _ l.1 l.2).1
    rw [← hGM.2.2.1] at f
    have f01 := R.2.2.2.2.2 (M.1 80 (B.1 84 (B.1 87 c)))
    simp [-Option.bind_some, -Option.bind_none, gf, pf, rd, wt, ck, ln, lt, bz, nq, up_1, up_2, obs, obn, q, hS, c0, c6, e87, e84, w, w5, l, l5, f, f01, e1]
    refine ih (c + 1) _ ⟨by omega, by omega, hY.up (by decide), fun c' a b => ?_⟩ (by omega)
    rw [up_1]
    by_cases e : c' = c
    · rw [if_pos ⟨rfl, e⟩, e, hGM.2.2.1]
    · rw [if_neg (fun z => e z.2)]; exact hc c' a (by omega)
def TF2 (N A B : Mem) (kc : Int) (f88 : Int → Int) (s x y : Int) (M : Mem) : Prop := LY B M ∧ M.1 88 = f88 ∧ ∀ s' x' y', 0 ≤ s' → s' < N.1 1 1 → Arg (rkC N) kc s' x' y' → Vs s x y s' x' y' → M.1 89 (36 * s' + 6 * x' + y') = B.1 86 (tauR N A B s' (B.1 87 x') (B.1 87 y'))
theorem lay74_lp {N A B M : Mem} {nx : Int → Int → Int → Int} {fn : Int → Int} {m kc s x : Int} {f88 : Int → Int} {acc fin : Int → Prop} {κ : Int → Int} {δ : Int → Int → Int → Int} (R : RA N nx fn) (h : KF N nx A) (hG : KG A B) (hL : ∀ k, 0 ≤ k → k < kc → 0 ≤ B.1 84 k ∧ B.1 84 k < A.1 62 26) (Q : QM (N.1 1 1) (rkC N) δ acc kc (tauR N A B) fin κ) (hN : NPr N A B m kc kc) (s0 : 0 ≤ s) (s1 : s < N.1 1 1) (hx : (1 ≤ rkC N s → 0 ≤ x ∧ x < kc) ∧ (¬ 1 ≤ rkC N s → x = 0)) (P : Option Mem → Prop) (k : Mem → Option Mem) (h2 : ∀ M', TF2 N A B kc f88 s (x + 1) 0 M' → P (k M')) (hI : TF2 N A B kc f88 s x 0 M) : P (L_M_layMachine_74 k 62 m kc s x FU 0 M) := by
  have n6 := R.2.1.1.2.1
  have rg := R.2.1.1.rk s
  have k6 := Q.1.2
  have r := h.2.1.1
  have cc : 2 ≤ rkC N s → 1 ≤ kc := fun q => by have := hx.1 (by omega); omega
  refine lq1 (fun n v M' => L_M_layMachine_74 k 62 m kc s x n v M') (fun y M' => 0 ≤ y ∧ y ≤ 6 ∧ TF2 N A B kc f88 s x y M') (fun y => (6 - y).toNat) P ?_ ⟨Int.le_refl 0, by decide, hI⟩ (by have := FU_eq; omega)
  clear hI M
  intro n y M ⟨y0, y6, hI⟩ ih
  show P (L_M_layMachine_74 k 62 m kc s x (n + 1) y M)
  obtain ⟨hY, e88, hV⟩ := hI
  have hGM := hG.tr hY.kg
  have mm := R.m (h.1.tr hGM.1)
  have hS := mm.1.m_
  have rk := mm.2.2 s s0 s1
  have s6 : s < 6 := by omega
  have g1 : gf M 62 9 54 1 = some 63 := by simp [gf, hS]
  have g31 : gf M 62 9 54 31 = some 84 := by simp [gf, hS]
  have g39 : gf M 62 9 54 39 = some 87 := by simp [gf, hS]
  have g33 : gf M 62 9 54 33 = some 86 := by simp [gf, hS]
  have g41 : gf M 62 9 54 41 = some 89 := by simp [gf, hS]
  have ck62 : ck M 62 9 54 = some () := by simp [ck, hS]
  have hrd : rd M 10 63 s = some (rkC N s) := by rw [rd_v (n := 6) (by simp [hS]) s0 (by omega), rk]
  have el : (if rkC N s ≤ 1 then some 1 else some kc) = some (if 2 ≤ rkC N s then kc else 1) := by
    by_cases q : 2 ≤ rkC N s
    · rw [if_neg (show ¬ rkC N s ≤ 1 by omega), if_pos q]
    · rw [if_pos (show rkC N s ≤ 1 by omega), if_neg q]
  rw [L_M_layMachine_74]
  simp only [g1, obs, hrd, el]
  by_cases hy : (if 2 ≤ rkC N s then kc else 1) ≤ y
  · rw [if_pos hy]
    refine h2 M ⟨hY, e88, fun s' x' y' t0 t1 hA hv => hV s' x' y' t0 t1 hA ?_⟩
    have nn := hA.nn
    unfold Vs at hv ⊢
    by_cases e : s' = s
    · subst e
      by_cases q : 2 ≤ rkC N s'
      · rw [if_pos q] at hy; have := hA.2.2.1 q; omega
      · rw [if_neg q] at hy; have := hA.2.2.2 q; omega
    · omega
  · rw [if_neg hy]
    have hA : Arg (rkC N) kc s x y := by
      refine ⟨hx.1, hx.2, fun q => ?_, fun q => ?_⟩
      · rw [if_pos q] at hy; omega
      · rw [if_neg q] at hy; omega
    have b6 := hA.b6 k6
    have t := Q.tr hN.k s0 s1 hA
    have nk := hN.k
    have e87 : M.1 87 = B.1 87 := hY.2 87 (by decide) (by decide)
    have e86 : M.1 86 = B.1 86 := hY.2 86 (by decide) (by decide)
    have e84 : M.1 84 = B.1 84 := hY.2 84 (by decide) (by decide)
    have e82 : M.1 82 = B.1 82 := hY.2 82 (by decide) (by decide)
    have lx : 1 ≤ rkC N s → (0 ≤ B.1 87 x ∧ B.1 87 x < kc) ∧ (0 ≤ B.1 84 (B.1 87 x) ∧ B.1 84 (B.1 87 x) < A.1 62 26) := fun q => by
      have w := nk x (hA.1 q).1 (hA.1 q).2
      exact ⟨w, hL _ w.1 w.2⟩
    have ly : 2 ≤ rkC N s → (0 ≤ B.1 87 y ∧ B.1 87 y < kc) ∧ (0 ≤ B.1 84 (B.1 87 y) ∧ B.1 84 (B.1 87 y) < A.1 62 26) := fun q => by
      have w := nk y (hA.2.2.1 q).1 (hA.2.2.1 q).2
      exact ⟨w, hL _ w.1 w.2⟩
    have a1 : (if rkC N s ≤ 0 then some 0 else ((rd M 10 87 x).bind fun e20 => (rd M 10 84 e20).bind fun e21 => some e21)) = some (if 1 ≤ rkC N s then B.1 84 (B.1 87 x) else 0) := by
      by_cases q : 1 ≤ rkC N s
      · have := lx q
        rw [if_neg (show ¬ rkC N s ≤ 0 by omega), if_pos q, rd_v (n := 6) (by simp [hS]) b6.1.1 (by omega), obs, e87, rd_v (n := 512) (by simp [hS]) this.1.1 (by omega), obs, e84]
      · rw [if_pos (show rkC N s ≤ 0 by omega), if_neg q]
    have a2 : (if rkC N s ≤ 1 then some 0 else ((rd M 10 87 y).bind fun e20 => (rd M 10 84 e20).bind fun e21 => some e21)) = some (if 2 ≤ rkC N s then B.1 84 (B.1 87 y) else 0) := by
      by_cases q : 2 ≤ rkC N s
      · have := ly q
        rw [if_neg (show ¬ rkC N s ≤ 1 by omega), if_pos q, rd_v (n := 6) (by simp [hS]) b6.2.1 (by omega), obs, e87, rd_v (n := 512) (by simp [hS]) this.1.1 (by omega), obs, e84]
      · rw [if_pos (show rkC N s ≤ 1 by omega), if_neg q]
    have po := partOf_ok R h hGM (s := s) (x := if 1 ≤ rkC N s then B.1 84 (B.1 87 x) else 0) (y := if 2 ≤ rkC N s then B.1 84 (B.1 87 y) else 0) s0 s1 (fun q => by rw [if_pos q]; exact (lx q).2) (fun q => by rw [if_pos q]; exact (ly q).2) (fun q => if_neg q) (fun q => if_neg q)
    have eτ : M.1 82 (cm N A s (if 1 ≤ rkC N s then B.1 84 (B.1 87 x) else 0) (if 2 ≤ rkC N s then B.1 84 (B.1 87 y) else 0)) = tauR N A B s (B.1 87 x) (B.1 87 y) := by
      rw [e82]
      unfold tauR cm
      rw [ixr_c (x' := B.1 84 (B.1 87 x)) (y' := B.1 84 (B.1 87 y)) (fun q => if_pos q) (fun q => if_pos q)]
    rw [eτ] at po
    have rn : rd M 10 86 (tauR N A B s (B.1 87 x) (B.1 87 y)) = some (B.1 86 (tauR N A B s (B.1 87 x) (B.1 87 y))) := by
      rw [rd_v (n := 6) (by simp [hS]) t.1 (by omega), e86]
    have kn : ¬ kc = 0 := by omega
    have e1 : wr (y + 1) = y + 1 := wr_eq (by omega) (by omega)
    have ei : wr (wr (wr (36 * s) + wr (6 * x)) + y) = 36 * s + 6 * x + y := by
      rw [wr_eq (z := 36 * s) (by omega) (by omega), wr_eq (z := 6 * x) (by omega) (by omega), wr_eq (z := 36 * s + 6 * x) (by omega) (by omega), wr_eq (by omega) (by omega)]
    have hw : ∀ v, wt M 10 89 (36 * s + 6 * x + y) v = some (up M 89 (36 * s + 6 * x + y) v) := fun v => wt_v (n := 216) (by simp [hS]) (by omega) (by omega)
    simp only [g31, g39, g33, g41, obs, a1, a2, ck62, po, rn, kn, if_false, ei, hw, e1]
    refine ih (y + 1) _ ⟨by omega, by omega, hY.up (by decide), by rw [up_n (by decide)]; exact e88, fun s' x' y' t0 t1 hA' hv => ?_⟩ (by omega)
    have b6' := hA'.b6 k6
    rw [up_1]
    by_cases q : 36 * s' + 6 * x' + y' = 36 * s + 6 * x + y
    · rw [if_pos ⟨rfl, q⟩]
      have q1 : s' = s := by omega
      have q2 : x' = x := by omega
      have q3 : y' = y := by omega
      rw [q1, q2, q3]
    · rw [if_neg (fun z => q z.2)]
      rcases Vs.y1.mp hv with v | ⟨v1, v2, v3⟩
      · exact hV s' x' y' t0 t1 hA' v
      · rw [v1, v2, v3] at q
        exact absurd rfl q
theorem lay52_lp {N A B M : Mem} {nx : Int → Int → Int → Int} {fn : Int → Int} {m kc s : Int} {f88 : Int → Int} {acc fin : Int → Prop} {κ : Int → Int} {δ : Int → Int → Int → Int} (R : RA N nx fn) (h : KF N nx A) (hG : KG A B) (hL : ∀ k, 0 ≤ k → k < kc → 0 ≤ B.1 84 k ∧ B.1 84 k < A.1 62 26) (Q : QM (N.1 1 1) (rkC N) δ acc kc (tauR N A B) fin κ) (hN : NPr N A B m kc kc) (s0 : 0 ≤ s) (s1 : s < N.1 1 1) (P : Option Mem → Prop) (k : Mem → Option Mem) (h2 : ∀ M', TF2 N A B kc f88 (s + 1) 0 0 M' → P (k M')) (hI : TF2 N A B kc f88 s 0 0 M) : P (L_M_layMachine_52 k 62 m kc s FU 0 M) := by
  have n6 := R.2.1.1.2.1
  have rg := R.2.1.1.rk s
  have k6 := Q.1.2
  refine lq1 (fun n v M' => L_M_layMachine_52 k 62 m kc s n v M') (fun x M' => 0 ≤ x ∧ x ≤ 6 ∧ TF2 N A B kc f88 s x 0 M') (fun x => (6 - x).toNat) P ?_ ⟨Int.le_refl 0, by decide, hI⟩ (by have := FU_eq; omega)
  clear hI M
  intro n x M ⟨x0, x6, hI⟩ ih
  show P (L_M_layMachine_52 k 62 m kc s (n + 1) x M)
  have hGM := hG.tr hI.1.kg
  have mm := R.m (h.1.tr hGM.1)
  have hS := mm.1.m_
  have rk := mm.2.2 s s0 s1
  have g1 : gf M 62 9 54 1 = some 63 := by simp [gf, hS]
  have hrd : rd M 10 63 s = some (rkC N s) := by rw [rd_v (n := 6) (by simp [hS]) s0 (by omega), rk]
  have el : (if rkC N s ≤ 0 then some 1 else some kc) = some (if 1 ≤ rkC N s then kc else 1) := by
    by_cases q : 1 ≤ rkC N s
    · rw [if_neg (show ¬ rkC N s ≤ 0 by omega), if_pos q]
    · rw [if_pos (show rkC N s ≤ 0 by omega), if_neg q]
  rw [L_M_layMachine_52]
  simp only [g1, obs, hrd, el]
  by_cases hx : (if 1 ≤ rkC N s then kc else 1) ≤ x
  · rw [if_pos hx]
    refine h2 M ⟨hI.1, hI.2.1, fun s' x' y' t0 t1 hA hv => hI.2.2 s' x' y' t0 t1 hA ?_⟩
    have nn := hA.nn
    unfold Vs at hv ⊢
    by_cases e : s' = s
    · subst e
      by_cases q : 1 ≤ rkC N s'
      · rw [if_pos q] at hx; have := hA.1 q; omega
      · rw [if_neg q] at hx; have := hA.2.1 q; omega
    · omega
  · rw [if_neg hx]
    have xr : (1 ≤ rkC N s → 0 ≤ x ∧ x < kc) ∧ (¬ 1 ≤ rkC N s → x = 0) := by
      constructor
      · intro q; rw [if_pos q] at hx; omega
      · intro q; rw [if_neg q] at hx; omega
    have x5 : x < 6 := by
      by_cases q : 1 ≤ rkC N s
      · have := xr.1 q; omega
      · have := xr.2 q; omega
    have e1 : wr (x + 1) = x + 1 := wr_eq (by omega) (by omega)
    rw [e1]
    exact lay74_lp R h hG hL Q hN s0 s1 xr P _ (fun M' h => ih (x + 1) M' ⟨by omega, by omega, h⟩ (by omega)) hI
theorem lay41_lp {N A B M : Mem} {nx : Int → Int → Int → Int} {fn : Int → Int} {m kc : Int} {f88 : Int → Int} {acc fin : Int → Prop} {κ : Int → Int} {δ : Int → Int → Int → Int} (R : RA N nx fn) (h : KF N nx A) (hG : KG A B) (hL : ∀ k, 0 ≤ k → k < kc → 0 ≤ B.1 84 k ∧ B.1 84 k < A.1 62 26) (Q : QM (N.1 1 1) (rkC N) δ acc kc (tauR N A B) fin κ) (hN : NPr N A B m kc kc) (P : Option Mem → Prop) (k : Mem → Option Mem) (h2 : ∀ M', TF2 N A B kc f88 (N.1 1 1) 0 0 M' → P (k M')) (hI : TF2 N A B kc f88 0 0 0 M) : P (L_M_layMachine_41 k 62 m kc FU 0 M) := by
  have n0 := R.2.1.1.1
  have n6 := R.2.1.1.2.1
  refine lq1 (fun n v M' => L_M_layMachine_41 k 62 m kc n v M') (fun s M' => 0 ≤ s ∧ s ≤ N.1 1 1 ∧ TF2 N A B kc f88 s 0 0 M') (fun s => (6 - s).toNat) P ?_ ⟨Int.le_refl 0, n0, hI⟩ (by have := FU_eq; omega)
  clear hI M
  intro n s M ⟨s0, s1, hI⟩ ih
  show P (L_M_layMachine_41 k 62 m kc (n + 1) s M)
  have hGM := hG.tr hI.1.kg
  have mm := R.m (h.1.tr hGM.1)
  have hS := mm.1.m_
  rw [L_M_layMachine_41]
  by_cases hs : N.1 1 1 ≤ s
  · have : s = N.1 1 1 := by omega
    subst this
    simp [-Option.bind_some, -Option.bind_none, gf, pf, rd, wt, ck, ln, lt, bz, nq, up_1, up_2, obs, obn, hS, mm.2.1]
    exact h2 M hI
  · have e1 : wr (s + 1) = s + 1 := wr_eq (by omega) (by omega)
    simp [-Option.bind_some, -Option.bind_none, gf, pf, rd, wt, ck, ln, lt, bz, nq, up_1, up_2, obs, obn, hS, mm.2.1, hs, e1]
    exact lay52_lp R h hG hL Q hN s0 (by omega) P _ (fun M' h => ih (s + 1) M' ⟨by omega, by omega, h⟩ (by omega)) hI
/-- the reference's machine m -/
def mchR (M : Mem) (m : Int) : Mch := (M.1 73 m, fun s x y => M.1 74 (216 * m + (36 * s + 6 * x + y)), fun c => M.1 75 (6 * m + c) = 1, fun c => M.1 76 (6 * m + c), fun c => M.1 77 (6 * m + c), fun c => M.1 78 (6 * m + c), fun c => M.1 79 (6 * m + c))
/-- what making machine m leaves -/
def KM (m : Int) (N M : Mem) : Prop := M.2 = N.2 ∧ (∀ a, a ≠ 62 → ¬ (73 ≤ a ∧ a ≤ 89) → M.1 a = N.1 a) ∧ (∀ k, k ≠ 26 → ¬ (34 ≤ k ∧ k ≤ 38) → M.1 62 k = N.1 62 k) ∧ (∀ k, k ≠ m → M.1 73 k = N.1 73 k) ∧ (∀ k, ¬ (216 * m ≤ k ∧ k < 216 * m + 216) → M.1 74 k = N.1 74 k) ∧ (∀ a k, 75 ≤ a → a ≤ 79 → ¬ (6 * m ≤ k ∧ k < 6 * m + 6) → M.1 a k = N.1 a k) ∧ ((∀ k, 0 ≤ k → k < 114 → N.1 75 k = 0 ∨ N.1 75 k = 1) → ∀ k, 0 ≤ k → k < 114 → M.1 75 k = 0 ∨ M.1 75 k = 1)
theorem lay_end {N B M : Mem} {m kc : Int} (hB : SB B) (hm : 0 ≤ m ∧ m ≤ 18) (k0 : 0 ≤ kc) (k6 : kc ≤ 6) (hY : LY B M) (f01 : ∀ c, 0 ≤ c → c < kc → M.1 88 c = 0 ∨ M.1 88 c = 1) (P : Option Mem → Prop) (h2 : ∀ M', M'.2 = B.2 → (∀ a, a < 73 ∨ 75 < a → a ≠ 88 → a ≠ 89 → M'.1 a = B.1 a) → (∀ k, k ≠ m → M'.1 73 k = B.1 73 k) → M'.1 73 m = kc → (∀ k, ¬ (216 * m ≤ k ∧ k < 216 * m + 216) → M'.1 74 k = B.1 74 k) → (∀ k, 0 ≤ k → k < 216 → M'.1 74 (216 * m + k) = M.1 89 k) → (∀ k, ¬ (6 * m ≤ k ∧ k < 6 * m + kc) → M'.1 75 k = B.1 75 k) → (∀ c, 0 ≤ c → c < kc → M'.1 75 (6 * m + c) = M.1 88 c) → P (some M')) : P ((gf M 62 9 54 13).bind fun g208 => (wt M 10 g208 m kc).bind fun m213 => L_M_layMachine_216 (fun m216 => L_M_layMachine_246 (fun m246 => some m246) 62 m FU 0 m216) 62 m kc FU 0 m213) := by
  have hSB : ∀ M' : Mem, M'.2 = B.2 → (∀ a, a < 73 ∨ 75 < a → a ≠ 88 → a ≠ 89 → M'.1 a = B.1 a) → SB M' := fun M' e1 e2 => SB_c hB e1 (fun a k s => by rw [e2 a (by unfold stp at s; omega) (by unfold stp at s; omega) (by unfold stp at s; omega)])
  have hS := (hSB M hY.1 (fun a _ q1 q2 => hY.2 a q1 q2)).m_
  have m19 : m < 19 := by omega
  simp [-Option.bind_some, -Option.bind_none, gf, pf, rd, wt, ck, ln, lt, bz, nq, up_1, up_2, obs, obn, hS, hm, m19]
  refine lq1 (fun n v M' => L_M_layMachine_216 (fun m216 => L_M_layMachine_246 (fun m246 => some m246) 62 m FU 0 m216) 62 m kc n v M') (fun c M' => 0 ≤ c ∧ c ≤ kc ∧ M'.2 = B.2 ∧ (∀ a, a < 73 ∨ 75 < a → a ≠ 88 → a ≠ 89 → M'.1 a = B.1 a) ∧ M'.1 88 = M.1 88 ∧ M'.1 89 = M.1 89 ∧ M'.1 74 = B.1 74 ∧ (∀ k, k ≠ m → M'.1 73 k = B.1 73 k) ∧ M'.1 73 m = kc ∧ (∀ k, ¬ (6 * m ≤ k ∧ k < 6 * m + c) → M'.1 75 k = B.1 75 k) ∧ ∀ c', 0 ≤ c' → c' < c → M'.1 75 (6 * m + c') = M.1 88 c') (fun c => (kc - c).toNat) P ?_ ⟨Int.le_refl 0, k0, by rw [up_2]; exact hY.1, fun a q0 q1 q2 => by rw [up_n (by omega)]; exact hY.2 a q1 q2, up_n (by decide), up_n (by decide), by rw [up_n (by decide)]; exact hY.2 74 (by decide) (by decide), fun k q => by rw [up_1, if_neg (fun z => q z.2), hY.2 73 (by decide) (by decide)], by rw [up_1, if_pos ⟨rfl, rfl⟩], fun k _ => by rw [up_n (by decide), hY.2 75 (by decide) (by decide)], fun c' a b => by omega⟩ (by have := FU_eq; omega)
  intro n c M1 ⟨c0, c1, e2, ea, e88, e89, e74, e73, e73m, e75, ec⟩ ih
  show P (L_M_layMachine_216 _ 62 m kc (n + 1) c M1)
  have hS1 := (hSB M1 e2 ea).m_
  rw [L_M_layMachine_216]
  by_cases q : kc ≤ c
  · have : c = kc := by omega
    subst this
    simp [-Option.bind_some, -Option.bind_none, gf, pf, rd, wt, ck, ln, lt, bz, nq, up_1, up_2, obs, obn, q]
    refine lq1 (fun n v M' => L_M_layMachine_246 (fun m246 => some m246) 62 m n v M') (fun k M' => 0 ≤ k ∧ k ≤ 216 ∧ M'.2 = B.2 ∧ (∀ a, a ≠ 74 → M'.1 a = M1.1 a) ∧ (∀ j, ¬ (216 * m ≤ j ∧ j < 216 * m + 216) → M'.1 74 j = B.1 74 j) ∧ ∀ j, 0 ≤ j → j < k → M'.1 74 (216 * m + j) = M.1 89 j) (fun k => (216 - k).toNat) P ?_ ⟨Int.le_refl 0, by decide, e2, fun _ _ => rfl, fun j _ => by rw [e74], fun j a b => by omega⟩ (by have := FU_eq; omega)
    intro n k M2 ⟨k0, k1, f2, fa, f74, fk⟩ ih
    show P (L_M_layMachine_246 _ 62 m (n + 1) k M2)
    have ea2 : ∀ a, a < 73 ∨ 75 < a → a ≠ 88 → a ≠ 89 → M2.1 a = B.1 a := fun a q0 q1 q2 => by rw [fa a (by omega)]; exact ea a q0 q1 q2
    have hS2 := (hSB M2 f2 ea2).m_
    rw [L_M_layMachine_246]
    by_cases q' : 216 ≤ k
    · simp [-Option.bind_some, -Option.bind_none, gf, pf, rd, wt, ck, ln, lt, bz, nq, up_1, up_2, obs, obn, q']
      exact h2 M2 f2 ea2 (fun k q => by rw [fa 73 (by decide)]; exact e73 k q) (by rw [fa 73 (by decide)]; exact e73m) f74 (fun j a b => fk j a (by omega)) (fun j q => by rw [fa 75 (by decide)]; exact e75 j q) (fun c' a b => by rw [fa 75 (by decide)]; exact ec c' a b)
    · have g1 : wr (k + 1) = k + 1 := wr_eq (by omega) (by omega)
      have ex : wr (wr (216 * m) + k) = 216 * m + k := by rw [wr_eq (z := 216 * m) (by omega) (by omega), wr_eq (by omega) (by omega)]
      have x0 : 0 ≤ 216 * m + k := by omega
      have x1 : 216 * m + k < 4104 := by omega
      have k2 : k < 216 := by omega
      simp [-Option.bind_some, -Option.bind_none, gf, pf, rd, wt, ck, ln, lt, bz, nq, up_1, up_2, obs, obn, q', hS2, k0, k2, ex, x0, x1, g1]
      refine ih (k + 1) _ ⟨by omega, by omega, by rw [up_2]; exact f2, fun a q => by rw [up_n q]; exact fa a q, fun j q => ?_, fun j a b => ?_⟩ (by omega)
      · rw [up_1, if_neg (by omega)]; exact f74 j q
      · rw [up_1]
        by_cases e : j = k
        · rw [if_pos ⟨rfl, by omega⟩, e, fa 89 (by decide), e89]
        · rw [if_neg (by omega)]; exact fk j a (by omega)
  · have g1 : wr (c + 1) = c + 1 := wr_eq (by omega) (by omega)
    have ex : wr (wr (6 * m) + c) = 6 * m + c := by rw [wr_eq (z := 6 * m) (by omega) (by omega), wr_eq (by omega) (by omega)]
    have x0 : 0 ≤ 6 * m + c := by omega
    have x1 : 6 * m + c < 114 := by omega
    have c6 : c < 6 := by omega
    have fc := f01 c c0 (by omega)
    simp [-Option.bind_some, -Option.bind_none, gf, pf, rd, wt, ck, ln, lt, bz, nq, up_1, up_2, obs, obn, q, hS1, c0, c6, e88, fc, ex, x0, x1, g1]
    refine ih (c + 1) _ ⟨by omega, by omega, by rw [up_2]; exact e2, fun a q0 q1 q2 => by rw [up_n (by omega)]; exact ea a q0 q1 q2, by rw [up_n (by decide)]; exact e88, by rw [up_n (by decide)]; exact e89, by rw [up_n (by decide)]; exact e74, fun k q => by rw [up_n (by decide)]; exact e73 k q, by rw [up_n (by decide)]; exact e73m, fun k q => ?_, fun c' a b => ?_⟩ (by omega)
    · rw [up_1, if_neg (by omega)]; exact e75 k (by omega)
    · rw [up_1]
      by_cases e : c' = c
      · rw [if_pos ⟨rfl, by omega⟩, e]
      · rw [if_neg (by omega)]; exact ec c' a (by omega)
theorem make_ok {N : Mem} {nx : Int → Int → Int → Int} {fn : Int → Int} {m : Int} (R : RA N nx fn) (hm : 0 ≤ m ∧ m ≤ 18) : OkV (D_M_make 62 m N) (fun r M => KM m N M ∧ ((r = -5 ∧ LgX N nx fn) ∨ (r = 0 ∧ Can (N.1 1 1) (rkC N) (rX N nx) (fun z => fn z = 1) (mchR M m) ∧ MW (N.1 1 1) (rkC N) (mchR M m)))) := by
  obtain ⟨A, eA, hKF⟩ := findKeys_ok R
  have hSA := (R.m hKF.1).1.m_
  obtain ⟨n0, M0, e0, hMI⟩ := moore_0 R hKF
  have ckA : ck A 62 9 54 = some () := by simp [ck, hSA]
  unfold D_M_make
  have ckN : ck N 62 9 54 = some () := by simp [ck, R.1.m_]
  have g26 : gf A 62 9 54 26 = some (A.1 62 26) := by simp [gf, hSA]
  simp only [ckN, obs, eA, g26, ckA, e0]
  refine moore_lp R hKF (fun o => OkV o _) _ (fun B hG hL => ?_) (fun kc B hG hP hSt => ?_) hMI
  · rw [if_neg (by decide)]
    have hC := hKF.1.tr hG.1.1
    refine OkV.i ⟨⟨hC.1, fun a q1 q2 => hC.2.1 a q1 (by omega), hC.2.2, fun k _ => by rw [hC.2.1 73 (by decide) (by decide)], fun k _ => by rw [hC.2.1 74 (by decide) (by decide)], fun a k a0 a1 _ => ?_, fun q k a b => by rw [hC.2.1 75 (by decide) (by decide)]; exact q k a b⟩, Or.inl ⟨rfl, hL⟩⟩
    by_cases e : a = 75
    · rw [e, hC.2.1 75 (by decide) (by decide)]
    · rw [hG.2 a (by omega) (by omega), hKF.2.2.2 a (by omega) (by omega)]
  · rw [if_pos (show kc ≤ 6 from hP.1.2)]
    have Q : QM (N.1 1 1) (rkC N) (rX N nx) (fun z => fn z = 1) kc (tauR N A B) (fun k => fn (A.1 80 (B.1 84 k)) = 1) (fun z => B.1 82 (A.1 81 z)) := hP.qm R hKF hSt
    have hL : ∀ k, 0 ≤ k → k < kc → 0 ≤ B.1 84 k ∧ B.1 84 k < A.1 62 26 := fun k a b => ⟨(hP.2.2.1 k a b).1, (hP.2.2.1 k a b).2.1⟩
    refine mk57_lp R hKF hG.1 (fun o => OkV o _) _ (fun M1 hH1 h86 => ?_)
    refine mk81_lp R hKF hG.1 hm hL Q (fun o => OkV o _) _ (fun M2 hH2 hNP => ?_) hH1 ⟨fun i a b => by omega, fun k a b => Or.inl (h86 k a (by have := hP.1.2; omega)), fun i a b => by omega⟩
    have hG2 := hG.1.tr hH2.1
    have hC2 := hKF.1.tr hG2.1
    have hB2 := hC2.sb R.1
    have hL2 : ∀ k, 0 ≤ k → k < kc → 0 ≤ M2.1 84 k ∧ M2.1 84 k < A.1 62 26 := fun k a b => by rw [hH2.2.2.1]; exact hL k a b
    have et := tauR_c (N := N) (A := A) hH2.2.1 hH2.2.2.1
    have Q2 : QM (N.1 1 1) (rkC N) (rX N nx) (fun z => fn z = 1) kc (tauR N A M2) (fun k => fn (A.1 80 (M2.1 84 k)) = 1) (fun z => B.1 82 (A.1 81 z)) := by
      rw [et, hH2.2.2.1]; exact Q
    have ck2 : ck M2 62 9 54 = some () := by simp [ck, hB2.m_]
    have lay : OkM (D_M_layMachine 62 m kc M2) (fun M => KM m N M ∧ Can (N.1 1 1) (rkC N) (rX N nx) (fun z => fn z = 1) (mchR M m) ∧ MW (N.1 1 1) (rkC N) (mchR M m)) := by
      unfold D_M_layMachine
      refine lay2_lp R hKF hG2 hP.1.2 hP.1.1 hL2 hNP (fun o => OkM o _) _ (fun M3 hY3 h88 => ?_)
      refine lay41_lp (f88 := M3.1 88) R hKF hG2 hL2 Q2 hNP (fun o => OkM o _) _ (fun M4 hT4 => ?_) ⟨hY3, rfl, fun s' x' y' t0 t1 hA hv => by have := hA.nn; unfold Vs at hv; omega⟩
      refine lay_end (N := N) hB2 hm hP.1.1 hP.1.2 hT4.1 (fun c a b => by rw [hT4.2.1, h88 c a b]; exact R.2.2.2.2.2 _) (fun o => OkM o _) (fun M5 f2 fa f73 f73m f74 f74m f75 f75m => ?_)
      have eT : ∀ s x y, 0 ≤ s → s < N.1 1 1 → Arg (rkC N) kc s x y → mT (mchR M5 m) s x y = M2.1 86 (tauR N A M2 s (M2.1 87 x) (M2.1 87 y)) := by
        intro s x y s0 s1 hA
        have b6 := hA.b6 hP.1.2
        have n6 := R.2.1.1.2.1
        show M5.1 74 (216 * m + (36 * s + 6 * x + y)) = _
        rw [f74m _ (by omega) (by omega)]
        exact hT4.2.2 s x y s0 s1 hA (by unfold Vs; omega)
      refine OkM.i ⟨⟨?_, ?_, ?_, ?_, ?_, ?_, ?_⟩, ?_, ?_⟩
      · rw [f2]; exact hC2.1
      · intro a q1 q2
        rw [fa a (by omega) (by omega) (by omega)]
        exact hC2.2.1 a q1 (by omega)
      · intro k q1 q2
        rw [fa 62 (by decide) (by decide) (by decide)]
        exact hC2.2.2 k q1 q2
      · intro k q
        rw [f73 k q, hC2.2.1 73 (by decide) (by decide)]
      · intro k q
        rw [f74 k q, hC2.2.1 74 (by decide) (by decide)]
      · intro a k a0 a1 q
        by_cases e : a = 75
        · have := hP.1.2
          rw [e, f75 k (by omega), hC2.2.1 75 (by decide) (by decide)]
        · rw [fa a (by omega) (by omega) (by omega), hH2.2.2.2 a k (by omega) (by omega) q, hG.2 a (by omega) (by omega), hKF.2.2.2 a (by omega) (by omega)]
      · intro q k a b
        by_cases e : 6 * m ≤ k ∧ k < 6 * m + kc
        · have := f75m (k - 6 * m) (by omega) (by omega)
          rw [show 6 * m + (k - 6 * m) = k by omega] at this
          rw [this, hT4.2.1, h88 _ (by omega) (by omega)]
          exact R.2.2.2.2.2 _
        · rw [f75 k e, hC2.2.1 75 (by decide) (by decide)]
          exact q k a b
      · refine hNP.can Q2 f73m ?_ ?_ ?_ ?_ ?_ eT
        · intro i i0 i1; show M5.1 76 (6 * m + i) = _; rw [fa 76 (by decide) (by decide) (by decide)]
        · intro i i0 i1; show M5.1 77 (6 * m + i) = _; rw [fa 77 (by decide) (by decide) (by decide)]
        · intro i i0 i1; show M5.1 78 (6 * m + i) = _; rw [fa 78 (by decide) (by decide) (by decide)]
        · intro i i0 i1; show M5.1 79 (6 * m + i) = _; rw [fa 79 (by decide) (by decide) (by decide)]
        · intro i i0 i1
          show M5.1 75 (6 * m + i) = 1 ↔ _
          rw [f75m i i0 i1, hT4.2.1, h88 i i0 i1]
      · have eN : mN (mchR M5 m) = kc := f73m
        unfold MW
        rw [eN]
        refine ⟨hP.1, fun s x y s0 s1 hA => ?_⟩
        rw [eT s x y s0 s1 hA]
        have t := Q2.tr hNP.k s0 s1 hA
        have := hNP.full _ t.1 t.2
        exact ⟨this.1, this.2.1⟩
    obtain ⟨M5, e5, h5⟩ := lay
    rw [ck2, obs, e5, obs]
    exact OkV.i ⟨h5.1, Or.inr ⟨rfl, h5.2⟩⟩
