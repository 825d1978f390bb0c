/-! what lies above a class -/
/-- by sign s and parts x, y class d lies above c -/
def AE (n : Int) (rk : Int → Int) (m : Mch) (s x y c d : Int) : Prop := (0 ≤ s ∧ s < n) ∧ Arg rk (mN m) s x y ∧ mT m s x y = d ∧ ((1 ≤ rk s ∧ x = c) ∨ (2 ≤ rk s ∧ y = c))
def Abv (n : Int) (rk : Int → Int) (m : Mch) (c d : Int) : Prop := ∃ s x y, AE n rk m s x y c d
theorem AE.c {n : Int} {rk : Int → Int} {m : Mch} {s x y c d : Int} (h : AE n rk m s x y c d) : 0 ≤ c ∧ c < mN m := by
  rcases h.2.2.2 with ⟨q, e⟩ | ⟨q, e⟩
  · rw [← e]; exact h.2.1.1 q
  · rw [← e]; exact h.2.1.2.2.1 q
/-- while what lies above is listed: for the triples of D -/
def ABI (M : Mem) (p : Int) (D : Int → Int → Int → Prop) (M' : Mem) : Prop := M'.2 = M.2 ∧ (∀ a, a ≠ p + 7 → M'.1 a = M.1 a) ∧ ∀ c, 0 ≤ c → c < 6 → (0 ≤ M'.1 (p + 7) c ∧ M'.1 (p + 7) c < 64) ∧ ∀ d, 0 ≤ d → (bt (M'.1 (p + 7) c) d ↔ ∃ s x y, D s x y ∧ AE (M.1 1 1) (rkC M) (mch M p) s x y c d)
theorem ABI.c {M : Mem} {p : Int} {D D' : Int → Int → Int → Prop} {M' : Mem} (h : ABI M p D M') (e : ∀ s x y, 0 ≤ s → s < M.1 1 1 → Arg (rkC M) (M.1 p 10) s x y → 1 ≤ rkC M s → (D s x y ↔ D' s x y)) : ABI M p D' M' := by
  refine ⟨h.1, h.2.1, fun c c0 c1 => ⟨(h.2.2 c c0 c1).1, fun d d0 => ?_⟩⟩
  rw [(h.2.2 c c0 c1).2 d d0]
  have key : ∀ s x y, AE (M.1 1 1) (rkC M) (mch M p) s x y c d → (D s x y ↔ D' s x y) := fun s x y w => e s x y w.1.1 w.1.2 w.2.1 (by rcases w.2.2.2 with q | q <;> omega)
  constructor
  · intro ⟨s, x, y, u, v⟩
    exact ⟨s, x, y, (key s x y v).mp u, v⟩
  · intro ⟨s, x, y, u, v⟩
    exact ⟨s, x, y, (key s x y v).mpr u, v⟩
def dn3 (s0 x0 y0 : Int) (s x y : Int) : Prop := s < s0 ∨ (s = s0 ∧ (x < x0 ∨ (x = x0 ∧ y < y0)))
theorem ABI.sb {M : Mem} {p : Int} {D : Int → Int → Int → Prop} {M' : Mem} (h : ABI M p D M') (hB : SB M) (hp : p = 50 ∨ 100 ≤ p) : SB M' := SB_c hB h.1 (fun a k s => by rw [h.2.1 a (by unfold stp at s; omega)])
theorem ABI.same {M : Mem} {p : Int} {D : Int → Int → Int → Prop} {M' : Mem} (h : ABI M p D M') (hM : MOK M p) : M'.1 1 = M.1 1 ∧ M'.1 2 = M.1 2 ∧ rkC M' = rkC M ∧ mch M' p = mch M p ∧ M'.1 p = M.1 p ∧ MS M' p := by
  have hp := hM.2.1
  have c1 : M'.1 1 = M.1 1 := h.2.1 1 (by omega)
  have c2 : M'.1 2 = M.1 2 := h.2.1 2 (by omega)
  have ek : rkC M' = rkC M := rk_c c1 c2
  have e : M'.1 p = M.1 p := h.2.1 p (by omega)
  exact ⟨c1, c2, ek, mch_c ek (fun a a0 a1 => h.2.1 a (by omega)), e, MS.c hM.1 (fun k _ => by rw [e]) (fun a _ _ => by rw [h.1])⟩
theorem la47_lp {M : Mem} {p s x : Int} (hB : SB M) (hg : SgOk M) (hM : MOK M p) (s0 : 0 ≤ s) (s1 : s < M.1 1 1) (r1 : 1 ≤ rkC M s) (x0 : 0 ≤ x) (x1 : x < M.1 p 10) (k : Mem → Option Mem) (P : Option Mem → Prop) (h2 : ∀ M', ABI M p (dn3 s (x + 1) 0) M' → P (k M')) {M0 : Mem} (h0 : ABI M p (dn3 s x 0) M0) : P (L_Machine_listAbove_47 k p s (rkC M s) x FU 0 M0) := by
  have hp := hM.2.1
  have k6 : 0 ≤ M.1 p 10 ∧ M.1 p 10 ≤ 6 := hM.2.2.1.1
  refine lq1 (n := FU) (a := 0) (M := M0) (fun n v M' => L_Machine_listAbove_47 k p s (rkC M s) x n v M') (fun v M' => (0 ≤ v ∧ v ≤ (if 1 < rkC M s then M.1 p 10 else 1)) ∧ ABI M p (dn3 s x v) M') (fun v => ((if 1 < rkC M s then M.1 p 10 else 1) - v).toNat) P ?_ ⟨⟨Int.le_refl 0, by split <;> omega⟩, h0⟩ (by have := FU_eq; split <;> omega)
  intro n v M' ⟨vr, hI⟩ ih
  show P (L_Machine_listAbove_47 k p s (rkC M s) x (n + 1) v M')
  have hB' := hI.sb hB hp
  obtain ⟨c1, c2, ek, em, ep, ms⟩ := hI.same hM
  have ch := choices_ok hB'.s_ (by rw [c1]; exact hg.2.1) s 1 (M.1 p 10)
  rw [ek] at ch
  have p10 : M'.1 p 10 = M.1 p 10 := by rw [ep]
  have g10 : gf M' p 1 14 10 = some (M.1 p 10) := by rw [← p10]; simp [gf, ms]
  have g0 : gf M' p 1 14 0 = some 1 := by simp [gf, ms]
  have g7 : gf M' p 1 14 7 = some (p + 7) := by simp [gf, ms]
  have ck1 : ck M' 1 5 3 = some () := by simp [ck, hB'.s_]
  have ckp : ck M' p 1 14 = some () := by simp [ck, ms]
  have l7 : M'.2.1 (p + 7) = (10, 6) := by simp [ms]
  rw [L_Machine_listAbove_47]
  simp only [g0, g10, obs, ck1, ch]
  clear g0 g10 ms
  by_cases q : (if 1 < rkC M s then M.1 p 10 else 1) ≤ v
  · rw [if_pos q]
    refine h2 M' (hI.c (fun s' x' y' _ _ hA _ => ?_))
    unfold dn3
    by_cases w : 1 < rkC M s
    · rw [if_pos w] at q
      constructor
      · intro z; omega
      · intro z
        rcases z with z | ⟨z1, z2⟩
        · exact Or.inl z
        · right
          refine ⟨z1, ?_⟩
          subst z1
          have := hA.2.2.1 (by omega)
          omega
    · rw [if_neg w] at q
      constructor
      · intro z; omega
      · intro z
        rcases z with z | ⟨z1, z2⟩
        · exact Or.inl z
        · right
          refine ⟨z1, ?_⟩
          subst z1
          have := hA.2.2.2 (by omega)
          omega
  · rw [if_neg q]
    have hA : Arg (rkC M) (M.1 p 10) s x v := argx (fun _ => ⟨x0, x1⟩) (fun w => by rw [if_pos (by omega)] at q; omega) (fun w => absurd r1 w) (fun w => by rw [if_neg (by omega)] at q; omega)
    have n6 := hg.2.1
    have st := step_ok (M := M') (p := p) (s := s) (x := x) (y := v) (c := M.1 p 10) hB' (by unfold SgOk; rw [c1, c2]; exact hg) ((hI.same hM).2.2.2.2.2) k6.2 ⟨s0, by omega⟩ (by rw [ek]; exact hA)
    rw [em] at st
    have rg := hM.2.2.1.2 s x v s0 s1 hA
    have emN : mN (mch M p) = M.1 p 10 := rfl
    rw [emN] at rg
    have x6 : x < 6 := by omega
    have v6 : v < 6 := by
      have := (hA.b6 k6.2).2
      omega
    have ix := hI.2.2 x x0 x6
    have eR : rd M' 10 (p + 7) x = some (M'.1 (p + 7) x) := rd_v l7 x0 (by omega)
    have eW : ∀ w, wt M' 10 (p + 7) x w = some (up M' (p + 7) x w) := fun w => wt_v l7 x0 (by omega)
    generalize ed : mT (mch M p) s x v = d at *
    have d6 : d < 6 := by omega
    have dr := ishl1_r (k := d) (j := 6) rg.1 d6 (by decide)
    have d64 : ishl 1 d < 64 := dr.2
    simp only [ckp, obs, st, lt, g7, eR, eW]
    have g7' : gf (up M' (p + 7) x (ior (M'.1 (p + 7) x) (ishl 1 d))) p 1 14 7 = some (p + 7) := by
      have := (hI.same hM).2.2.2.2.2
      have n7 : ¬ p = p + 7 := by clear this; omega
      simp [gf, this, n7, up_1, up_2]
    have l7' : (up M' (p + 7) x (ior (M'.1 (p + 7) x) (ishl 1 d))).2.1 (p + 7) = (10, 6) := by rw [up_2]; exact l7
    have eR' : rd (up M' (p + 7) x (ior (M'.1 (p + 7) x) (ishl 1 d))) 10 (p + 7) v = some ((up M' (p + 7) x (ior (M'.1 (p + 7) x) (ishl 1 d))).1 (p + 7) v) := rd_v l7' vr.1 (by omega)
    have eW' : ∀ w, wt (up M' (p + 7) x (ior (M'.1 (p + 7) x) (ishl 1 d))) 10 (p + 7) v w = some (up (up M' (p + 7) x (ior (M'.1 (p + 7) x) (ishl 1 d))) (p + 7) v w) := fun w => wt_v l7' vr.1 (by omega)
    have ew : wr (v + 1) = v + 1 := wr_eq (by omega) (by omega)
    have t98 : (if rkC M s ≤ 1 then (some (0 : Int)) else some (ishl 1 d)) = some (if rkC M s ≤ 1 then 0 else ishl 1 d) := by split <;> rfl
    simp only [g7', obs, eR', t98, eW', ew]
    have o1 := ior_r (k := 6) (by decide) ix.1.1 ix.1.2 dr.1 dr.2
    have b1 : ∀ j, 0 ≤ j → j < 6 → (0 ≤ (up M' (p + 7) x (ior (M'.1 (p + 7) x) (ishl 1 d))).1 (p + 7) j ∧ (up M' (p + 7) x (ior (M'.1 (p + 7) x) (ishl 1 d))).1 (p + 7) j < 64) ∧ ∀ e, 0 ≤ e → (bt ((up M' (p + 7) x (ior (M'.1 (p + 7) x) (ishl 1 d))).1 (p + 7) j) e ↔ bt (M'.1 (p + 7) j) e ∨ (j = x ∧ e = d)) := by
      intro j j0 j1
      by_cases z : j = x
      · subst z
        rw [up_1, if_pos ⟨rfl, rfl⟩]
        refine ⟨o1, fun e e0 => ?_⟩
        rw [bt_ior1 ix.1.1 ix.1.2 rg.1 d6 e0]
        exact ⟨fun w => w.imp id (fun u => ⟨rfl, u⟩), fun w => w.imp id (fun u => u.2)⟩
      · rw [up_1, if_neg (fun w => z w.2)]
        exact ⟨(hI.2.2 j j0 j1).1, fun e e0 => ⟨Or.inl, fun w => w.elim id (fun u => absurd u.1 z)⟩⟩
    have o2' : ∀ a, a ≠ p + 7 → (up M' (p + 7) x (ior (M'.1 (p + 7) x) (ishl 1 d))).1 a = M'.1 a := fun a w => up_n w
    have s2' : (up M' (p + 7) x (ior (M'.1 (p + 7) x) (ishl 1 d))).2 = M'.2 := up_2 ..
    clear g7' l7' eR' eW' eR eW
    generalize up M' (p + 7) x (ior (M'.1 (p + 7) x) (ishl 1 d)) = N at *
    have bv := b1 v vr.1 v6
    refine ih (v + 1) _ ⟨⟨by omega, by omega⟩, by rw [up_2, s2', hI.1], fun a w => by rw [up_n w, o2' a w, hI.2.1 a w], fun j j0 j1 => ?_⟩ (by omega)
    have key : ∀ e, 0 ≤ e → ((∃ s' x' y', dn3 s x (v + 1) s' x' y' ∧ AE (M.1 1 1) (rkC M) (mch M p) s' x' y' j e) ↔ (bt (N.1 (p + 7) j) e ∨ (2 ≤ rkC M s ∧ j = v ∧ e = d))) := by
      intro e e0
      rw [(b1 j j0 j1).2 e e0, (hI.2.2 j j0 j1).2 e e0]
      constructor
      · intro ⟨s', x', y', u, w⟩
        by_cases t : dn3 s x v s' x' y'
        · exact Or.inl (Or.inl ⟨s', x', y', t, w⟩)
        · unfold dn3 at u t
          have es : s' = s := by omega
          have ex : x' = x := by omega
          have ey : y' = v := by omega
          subst es
          subst ex
          subst ey
          have w3 := w.2.2.1
          rw [ed] at w3
          rcases w.2.2.2 with ⟨_, e1⟩ | ⟨e2, e1⟩
          · exact Or.inl (Or.inr ⟨e1.symm, w3.symm⟩)
          · exact Or.inr ⟨e2, e1.symm, w3.symm⟩
      · intro t
        rcases t with (⟨s', x', y', u, w⟩ | ⟨e1, e2⟩) | ⟨e0', e1, e2⟩
        · exact ⟨s', x', y', by unfold dn3 at u ⊢; omega, w⟩
        · exact ⟨s, x, v, by unfold dn3; omega, ⟨s0, s1⟩, hA, by rw [ed, e2], Or.inl ⟨r1, e1.symm⟩⟩
        · exact ⟨s, x, v, by unfold dn3; omega, ⟨s0, s1⟩, hA, by rw [ed, e2], Or.inr ⟨e0', e1.symm⟩⟩
    by_cases w : rkC M s ≤ 1
    · rw [if_pos w]
      have same : (up N (p + 7) v (ior (N.1 (p + 7) v) 0)).1 (p + 7) j = N.1 (p + 7) j := by
        by_cases z : j = v
        · subst z
          rw [up_1, if_pos ⟨rfl, rfl⟩]
          have o := ior_r (k := 6) (by decide) bv.1.1 bv.1.2 (Int.le_refl 0) (by decide)
          refine bt_ext (k := 6) o.1 o.2 bv.1.1 bv.1.2 (fun i i0 i1 => ?_)
          rw [bt_or bv.1.1 (by omega) (Int.le_refl 0) (by decide)]
          exact ⟨fun t => t.elim id (fun u => absurd u (bt_zero i)), Or.inl⟩
        · rw [up_1, if_neg (fun t => z t.2)]
      rw [same]
      refine ⟨(b1 j j0 j1).1, fun e e0 => ?_⟩
      rw [key e e0]
      exact ⟨Or.inl, fun t => t.elim id (fun u => by omega)⟩
    · rw [if_neg w]
      by_cases z : j = v
      · subst z
        rw [up_1, if_pos ⟨rfl, rfl⟩]
        refine ⟨ior_r (k := 6) (by decide) bv.1.1 bv.1.2 dr.1 dr.2, fun e e0 => ?_⟩
        rw [bt_ior1 bv.1.1 bv.1.2 rg.1 d6 e0, key e e0]
        exact ⟨fun t => t.imp id (fun u => ⟨by omega, rfl, u⟩), fun t => t.imp id (fun u => u.2.2)⟩
      · rw [up_1, if_neg (fun t => z t.2)]
        refine ⟨(b1 j j0 j1).1, fun e e0 => ?_⟩
        rw [key e e0]
        exact ⟨Or.inl, fun t => t.elim id (fun u => absurd u.2.1 z)⟩
theorem la32_lp {M : Mem} {p s : Int} (hB : SB M) (hg : SgOk M) (hM : MOK M p) (s0 : 0 ≤ s) (s1 : s < M.1 1 1) (k : Mem → Option Mem) (P : Option Mem → Prop) (h2 : ∀ M', ABI M p (dn3 (s + 1) 0 0) M' → P (k M')) {M0 : Mem} (h0 : ABI M p (dn3 s 0 0) M0) : P (L_Machine_listAbove_32 k p s (rkC M s) FU 0 M0) := by
  have hp := hM.2.1
  have k6 : 0 ≤ M.1 p 10 ∧ M.1 p 10 ≤ 6 := hM.2.2.1.1
  refine lq1 (n := FU) (a := 0) (M := M0) (fun n v M' => L_Machine_listAbove_32 k p s (rkC M s) n v M') (fun v M' => (0 ≤ v ∧ v ≤ M.1 p 10) ∧ ABI M p (dn3 s v 0) M') (fun v => (M.1 p 10 - v).toNat) P ?_ ⟨⟨Int.le_refl 0, k6.1⟩, h0⟩ (by have := FU_eq; omega)
  intro n v M' ⟨vr, hI⟩ ih
  show P (L_Machine_listAbove_32 k p s (rkC M s) (n + 1) v M')
  obtain ⟨c1, c2, ek, em, ep, ms⟩ := hI.same hM
  have p10 : M'.1 p 10 = M.1 p 10 := by rw [ep]
  have g10 : gf M' p 1 14 10 = some (M.1 p 10) := by rw [← p10]; simp [gf, ms]
  clear ms
  have ew : wr (v + 1) = v + 1 := wr_eq (by omega) (by omega)
  rw [L_Machine_listAbove_32]
  have fin : (rkC M s ≤ 0 ∨ M.1 p 10 ≤ v) → P (k M') := fun q => h2 M' (hI.c (fun s' x' y' _ _ hA r => by
    unfold dn3
    have nn := hA.nn
    constructor
    · intro z; omega
    · intro z
      by_cases t : s' = s
      · subst t
        have := hA.1 r
        omega
      · omega))
  by_cases q1 : rkC M s ≤ 0
  · simp only [q1, if_true, obs]
    exact fin (Or.inl q1)
  · simp only [q1, if_false, g10, obs]
    by_cases q2 : M.1 p 10 ≤ v
    · simp only [q2, if_true, obs]
      exact fin (Or.inr q2)
    · simp only [q2, if_false, obs]
      rw [if_neg (by decide)]
      refine la47_lp hB hg hM s0 s1 (by omega) vr.1 (by omega) _ P (fun N hN => ?_) hI
      rw [ew]
      exact ih (v + 1) N ⟨⟨by omega, by omega⟩, hN⟩ (by omega)
/-- what lies above is listed -/
def LAP (M : Mem) (p : Int) (M' : Mem) : Prop := M'.2 = M.2 ∧ (∀ a, a ≠ p + 7 → M'.1 a = M.1 a) ∧ SB M' ∧ ∀ c, 0 ≤ c → c < 6 → (0 ≤ M'.1 (p + 7) c ∧ M'.1 (p + 7) c < 64) ∧ ∀ d, 0 ≤ d → (bt (M'.1 (p + 7) c) d ↔ Abv (M.1 1 1) (rkC M) (mch M p) c d)
theorem listAbove_ok {M : Mem} {p : Int} (hB : SB M) (hg : SgOk M) (hM : MOK M p) : OkM (D_Machine_listAbove p M) (fun M' => LAP M p M') := by
  have hp := hM.2.1
  have ms := hM.1
  have g7 : gf M p 1 14 7 = some (p + 7) := by simp [gf, ms]
  have ef := fill_ok (M := M) (a := p + 7) (n := 6) (by simp [ms]) (by decide) 0
  clear ms
  unfold D_Machine_listAbove
  rw [g7, obs, ef, obs]
  have h0 : ABI M p (dn3 0 0 0) (sc M (p + 7) (fun i => if 0 ≤ i ∧ i < (6 : Nat) then 0 else M.1 (p + 7) i)) := by
    refine ⟨rfl, fun a w => by funext i; rw [sc_1, if_neg w], fun c c0 c1 => ?_⟩
    rw [sc_1, if_pos rfl, if_pos ⟨c0, by omega⟩]
    refine ⟨by decide, fun d d0 => ⟨fun w => absurd w (bt_zero d), fun ⟨s, x, y, u, w⟩ => ?_⟩⟩
    unfold dn3 at u
    have := w.1
    have := w.2.1.nn
    omega
  generalize sc M (p + 7) (fun i => if 0 ≤ i ∧ i < (6 : Nat) then 0 else M.1 (p + 7) i) = M0 at *
  have n6 := hg.2.1
  have n0 := hg.1
  refine lq1 (n := FU) (a := 0) (M := M0) (fun n v M' => L_Machine_listAbove_10 (fun m10 => some m10) p n v M') (fun v M' => (0 ≤ v ∧ v ≤ M.1 1 1) ∧ ABI M p (dn3 v 0 0) M') (fun v => (M.1 1 1 - v).toNat) (fun o => OkM o (fun M' => LAP M p M')) ?_ ⟨⟨Int.le_refl 0, n0⟩, h0⟩ (by have := FU_eq; omega)
  intro n v M' ⟨vr, hI⟩ ih
  show OkM (L_Machine_listAbove_10 (fun m10 => some m10) p (n + 1) v M') _
  have hB' := hI.sb hB hp
  obtain ⟨c1, c2, ek, em, ep, ms⟩ := hI.same hM
  have g0 : gf M' p 1 14 0 = some 1 := by simp [gf, ms]
  clear ms
  have gn : gf M' 1 5 3 1 = some (M.1 1 1) := by rw [← c1]; simp [gf, hB'.s_]
  have ck1 : ck M' 1 5 3 = some () := by simp [ck, hB'.s_]
  have rko := rankOf_ok hB'.s_ (by rw [c1]; exact n6) v
  rw [ek] at rko
  have ew : wr (v + 1) = v + 1 := wr_eq (by omega) (by omega)
  rw [L_Machine_listAbove_10]
  simp only [g0, obs, gn]
  by_cases q : M.1 1 1 ≤ v
  · rw [if_pos q]
    refine OkM.i ⟨hI.1, hI.2.1, hB', fun c c0 c1 => ⟨(hI.2.2 c c0 c1).1, fun d d0 => ?_⟩⟩
    rw [(hI.2.2 c c0 c1).2 d d0]
    constructor
    · intro ⟨s, x, y, _, w⟩; exact ⟨s, x, y, w⟩
    · intro ⟨s, x, y, w⟩; exact ⟨s, x, y, by have := w.1; unfold dn3; omega, w⟩
  · rw [if_neg q]
    simp only [ck1, obs, rko]
    refine la32_lp hB hg hM vr.1 (by omega) _ (fun o => OkM o (fun M' => LAP M p M')) (fun N hN => ?_) hI
    rw [ew]
    exact ih (v + 1) N ⟨⟨by omega, by omega⟩, hN⟩ (by omega)
