/-! the row: read by a machine -/
/-- the row is a tree: every place begins one -/
def TRE (rk : Int → Int) (L : Int) (nm S : Int → Int) : Prop := ∀ i, 0 ≤ i → i < L → 1 ≤ S i ∧ i + S i ≤ L ∧ (1 ≤ rk (nm i) → i + 1 < L) ∧ (2 ≤ rk (nm i) → i + 1 + S (i + 1) < L) ∧ S i = (if rk (nm i) ≤ 0 then 1 else if rk (nm i) ≤ 1 then 1 + S (i + 1) else 1 + S (i + 1) + S (i + 1 + S (i + 1)))
theorem TRE.mk {rk : Int → Int} {L : Int} {nm S : Int → Int} (h : SPN rk L 0 nm S) (l : 0 < L) (e : S 0 = L) : TRE rk L nm S := by
  intro i i0 i1
  have nz := h.nz (Int.le_refl 0) L.toNat 0 (by omega) (Int.le_refl 0) l (by omega) i i0 (by omega)
  have b := h.b (Int.le_refl 0) i0 i1
  have hs := h i i0 i1
  unfold sv at hs
  refine ⟨by omega, b.2, ?_⟩
  by_cases c0 : rk (nm i) ≤ 0
  · rw [if_pos c0] at hs ⊢
    exact ⟨fun q => by omega, fun q => by omega, hs⟩
  · rw [if_neg c0] at hs ⊢
    by_cases c1 : L ≤ i + 1 ∨ S (i + 1) = 0
    · rw [if_pos c1] at hs; omega
    · rw [if_neg c1] at hs
      by_cases c2 : rk (nm i) ≤ 1
      · rw [if_pos c2] at hs ⊢
        exact ⟨fun q => by omega, fun q => by omega, hs⟩
      · rw [if_neg c2] at hs ⊢
        by_cases c3 : L ≤ i + 1 + S (i + 1) ∨ S (i + 1 + S (i + 1)) = 0
        · rw [if_pos c3] at hs; omega
        · rw [if_neg c3] at hs
          exact ⟨fun q => by omega, fun q => by omega, hs⟩
def kv (rk : Int → Int) (T : Int → Int → Int → Int) (nm S K : Int → Int) (i : Int) : Int := T (nm i) (if 1 ≤ rk (nm i) then K (i + 1) else 0) (if 2 ≤ rk (nm i) then K (i + 1 + S (i + 1)) else 0)
/-- K has the classes from q on -/
def RDN (rk : Int → Int) (T : Int → Int → Int → Int) (c L q : Int) (nm S K : Int → Int) : Prop := ∀ i, q ≤ i → i < L → K i = kv rk T nm S K i ∧ 0 ≤ K i ∧ K i < c
theorem RDN.arg {rk : Int → Int} {T : Int → Int → Int → Int} {c L q : Int} {nm S K : Int → Int} (h : RDN rk T c L q nm S K) (hT : TRE rk L nm S) {i : Int} (i0 : 0 ≤ i) (i1 : i < L) (hq : q ≤ i + 1) : Arg rk c (nm i) (if 1 ≤ rk (nm i) then K (i + 1) else 0) (if 2 ≤ rk (nm i) then K (i + 1 + S (i + 1)) else 0) := by
  have t := hT i i0 i1
  refine argx (fun w => ?_) (fun w => ?_) (fun w => if_neg w) (fun w => if_neg w)
  · rw [if_pos w]
    exact (h (i + 1) hq (t.2.2.1 w)).2
  · rw [if_pos w]
    have l1 := t.2.2.1 (by omega)
    have t1 := hT (i + 1) (by omega) l1
    exact (h (i + 1 + S (i + 1)) (by omega) (t.2.2.2.1 w)).2
theorem kv_c {rk : Int → Int} {T : Int → Int → Int → Int} {L : Int} {nm S K K' : Int → Int} {i : Int} (hT : TRE rk L nm S) (i0 : 0 ≤ i) (i1 : i < L) (h : ∀ j, i < j → j < L → K' j = K j) : kv rk T nm S K' i = kv rk T nm S K i := by
  have t := hT i i0 i1
  unfold kv
  by_cases c1 : 1 ≤ rk (nm i)
  · have l1 := t.2.2.1 c1
    have t1 := hT (i + 1) (by omega) l1
    rw [if_pos c1, if_pos c1, h (i + 1) (by omega) l1]
    by_cases c2 : 2 ≤ rk (nm i)
    · rw [if_pos c2, if_pos c2, h (i + 1 + S (i + 1)) (by omega) (t.2.2.2.1 c2)]
    · rw [if_neg c2, if_neg c2]
  · have c2 : ¬ 2 ≤ rk (nm i) := by omega
    rw [if_neg c1, if_neg c1, if_neg c2, if_neg c2]
/-- the class has read the row -/
def RBP (M : Mem) (p r : Int) (M' : Mem) : Prop := M'.2 = M.2 ∧ (∀ a, a ≠ 6 → M'.1 a = M.1 a) ∧ SB M' ∧ RDN (rkC M) (mT (mch M p)) (M.1 p 10) (M.1 3 4) 0 (M.1 4) (M.1 5) (M'.1 6) ∧ r = M'.1 6 0
theorem readBy_lp {M : Mem} {p : Int} (hB : SB M) (hg : SgOk M) (hM : MOK M p) (hL : 0 < M.1 3 4 ∧ M.1 3 4 ≤ 120) (hn : ∀ i, 0 ≤ i → i < M.1 3 4 → 0 ≤ M.1 4 i ∧ M.1 4 i < M.1 1 1) (hT : TRE (rkC M) (M.1 3 4) (M.1 4) (M.1 5)) (P : Option (Int × Mem) → Prop) (k : Mem → Option (Int × Mem)) (h2 : ∀ M', M'.2 = M.2 → (∀ a, a ≠ 6 → M'.1 a = M.1 a) → SB M' → RDN (rkC M) (mT (mch M p)) (M.1 p 10) (M.1 3 4) 0 (M.1 4) (M.1 5) (M'.1 6) → P (k M')) : P (L_Row_readBy_7 k 3 p FU (M.1 3 4 - 1) M) := by
  refine lq1 (n := FU) (a := M.1 3 4 - 1) (M := M) (fun n v M' => L_Row_readBy_7 k 3 p n v M') (fun v M' => -1 ≤ v ∧ v < M.1 3 4 ∧ M'.2 = M.2 ∧ (∀ a, a ≠ 6 → M'.1 a = M.1 a) ∧ RDN (rkC M) (mT (mch M p)) (M.1 p 10) (M.1 3 4) (v + 1) (M.1 4) (M.1 5) (M'.1 6)) (fun v => (v + 1).toNat) P ?_ ⟨by omega, by omega, rfl, fun _ _ => rfl, fun i a b => by omega⟩ (by have := FU_eq; omega)
  intro n v M' ⟨v0, v1, s2, o2, hS⟩ ih
  show P (L_Row_readBy_7 k 3 p (n + 1) v M')
  have p100 := hM.2.1
  have hB' : SB M' := SB_c hB s2 (fun a k s => by rw [o2 a (by unfold stp at s; omega)])
  have c3 : M'.1 3 = M.1 3 := o2 3 (by decide)
  have c4 : M'.1 4 = M.1 4 := o2 4 (by decide)
  have c5 : M'.1 5 = M.1 5 := o2 5 (by decide)
  have ek : rkC M' = rkC M := rk_c (o2 1 (by decide)) (o2 2 (by decide))
  have hM' : MOK M' p := hM.c (by rw [o2 1 (by decide)]) ek (fun a a0 a1 => ⟨o2 a (by omega), by rw [s2]⟩)
  have em : mch M' p = mch M p := mch_c ek (fun a a0 a1 => o2 a (by omega))
  rw [L_Row_readBy_7]
  by_cases q : v < 0
  · have e : v + 1 = 0 := by omega
    rw [e] at hS
    simp [-Option.bind_some, -Option.bind_none, gf, pf, rd, wt, ck, ln, lt, bz, nq, up_1, up_2, obs, obn, q]
    exact h2 M' s2 o2 hB' hS
  · have v00 : 0 ≤ v := by omega
    have v12 : v < 120 := by omega
    have e1 : wr (v + (-1)) = v - 1 := wr_eq (by omega) (by omega)
    have w1 : wr (v + 1) = v + 1 := wr_eq (by omega) (by omega)
    have hg' : SgOk M' := by
      unfold SgOk
      rw [o2 1 (by decide), o2 2 (by decide)]
      exact hg
    have ar := hS.arg hT v00 v1 (Int.le_refl _)
    have t := hT v v00 v1
    have nn := hn v v00 v1
    have n6 := hg.2.1
    have k6 : 0 ≤ M.1 p 10 ∧ M.1 p 10 ≤ 6 := hM.2.2.1.1
    have rg := hM.2.2.1.2 (M.1 4 v) _ _ nn.1 nn.2 ar
    have ms' := hM'.1
    have fin : ∀ x y, (1 ≤ rkC M (M.1 4 v) → x = M'.1 6 (v + 1)) → (2 ≤ rkC M (M.1 4 v) → y = M'.1 6 (v + 1 + M.1 5 (v + 1))) → P ((ck M' p 1 14).bind fun _ => (D_Machine_step p (M.1 4 v) x y M').bind fun x69 => (wt x69.2 10 6 v x69.1).bind fun m72 => L_Row_readBy_7 k 3 p n (wr (v + (-1))) m72) := by
      intro x y hx hy
      have ar1 := ar
      have sr := step_raw (x := x) (y := y) (p := p) (s := M.1 4 v) (c := M.1 p 10) hB' hg' ms' k6.2 ⟨nn.1, by omega⟩ (fun w => by rw [ek] at w; rw [hx w]; have := ar1.1 w; rw [if_pos w] at this; exact this) (fun w => by rw [ek] at w; rw [hy w]; have := ar1.2.2.1 w; rw [if_pos w] at this; exact this)
      have ee : mT (mch M p) (M.1 4 v) (if 1 ≤ rkC M (M.1 4 v) then x else 0) (if 2 ≤ rkC M (M.1 4 v) then y else 0) = kv (rkC M) (mT (mch M p)) (M.1 4) (M.1 5) (M'.1 6) v := by
        unfold kv
        by_cases c1 : 1 ≤ rkC M (M.1 4 v)
        · rw [if_pos c1, if_pos c1, hx c1]
          by_cases c2 : 2 ≤ rkC M (M.1 4 v)
          · rw [if_pos c2, if_pos c2, hy c2]
          · rw [if_neg c2, if_neg c2]
        · have c2 : ¬ 2 ≤ rkC M (M.1 4 v) := by omega
          rw [if_neg c1, if_neg c1, if_neg c2, if_neg c2]
      rw [em, ek, ee] at sr
      have rg' : 0 ≤ kv (rkC M) (mT (mch M p)) (M.1 4) (M.1 5) (M'.1 6) v ∧ kv (rkC M) (mT (mch M p)) (M.1 4) (M.1 5) (M'.1 6) v < M.1 p 10 := rg
      generalize hw : kv (rkC M) (mT (mch M p)) (M.1 4) (M.1 5) (M'.1 6) v = w at *
      clear ar ar1 rg
      simp [-Option.bind_some, -Option.bind_none, gf, pf, rd, wt, ck, ln, lt, bz, nq, up_1, up_2, obs, obn, ms', sr, hB'.r_, v00, v12]
      rw [e1]
      refine ih (v - 1) _ ⟨by clear ms'; omega, by clear ms'; omega, by rw [up_2]; exact s2, fun a z => by rw [up_n z]; exact o2 a z, fun i a b => ?_⟩ (by clear ms'; omega)
      have c6 : (up M' 6 v w).1 6 = ud (M'.1 6) v w := by rw [up_f, if_pos rfl]
      rw [c6]
      by_cases z : i = v
      · rw [z, ud_s]
        exact ⟨by rw [kv_c hT v00 v1 (fun j a b => ud_n (by clear ms'; omega)), hw], rg'⟩
      · have i0 : v + 1 ≤ i := by clear ms'; omega
        rw [ud_n z]
        have := hS i i0 b
        exact ⟨by rw [kv_c hT (by clear ms'; omega) b (fun j a b => ud_n (by clear ms'; omega))]; exact this.1, this.2⟩
    clear ms'
    have g1 : gf M' 3 4 5 1 = some 4 := by simp [gf, hB'.r_]
    have g3 : gf M' 3 4 5 3 = some 6 := by simp [gf, hB'.r_]
    have g4 : gf M' 3 4 5 4 = some (M.1 3 4) := by rw [← c3]; simp [gf, hB'.r_]
    have kk : ck M' 3 4 5 = some () := by simp [ck, hB'.r_]
    have d4 : rd M' 10 4 v = some (M.1 4 v) := by rw [rd_v (n := 120) (by simp [hB'.r_]) v00 (by omega), c4]
    have sp : D_Row_secondPart 3 v M' = some (if M.1 3 4 ≤ v + 1 then M.1 3 4 else v + 1 + M.1 5 (v + 1), M') := by
      unfold D_Row_secondPart
      rw [w1]
      by_cases l : M.1 3 4 ≤ v + 1
      · simp [-Option.bind_some, -Option.bind_none, gf, pf, rd, wt, ck, ln, lt, bz, nq, up_1, up_2, obs, obn, hB'.r_, c3, l]
      · have a0 : 0 ≤ v + 1 := by omega
        have a1 : v + 1 < 120 := by omega
        have t1 := hT (v + 1) a0 (by omega)
        have w2 : wr (v + 1 + M.1 5 (v + 1)) = v + 1 + M.1 5 (v + 1) := wr_eq (by omega) (by omega)
        simp [-Option.bind_some, -Option.bind_none, gf, pf, rd, wt, ck, ln, lt, bz, nq, up_1, up_2, obs, obn, hB'.r_, c3, c5, l, a0, a1, w2]
    simp only [q, if_false, kk, sp, g1, g3, g4, obs, d4, w1]
    by_cases l : M.1 3 4 ≤ v + 1
    · have cc1 : ¬ 1 ≤ rkC M (M.1 4 v) := fun w => by have := t.2.2.1 w; omega
      have cc2 : ¬ 2 ≤ rkC M (M.1 4 v) := fun w => cc1 (by omega)
      simp only [l, if_true, Int.le_refl, obs]
      exact fin 0 0 (fun w => absurd w cc1) (fun w => absurd w cc2)
    · have a0 : 0 ≤ v + 1 := by omega
      have t1 := hT (v + 1) a0 (by omega)
      have d6 : rd M' 10 6 (v + 1) = some (M'.1 6 (v + 1)) := rd_v (n := 120) (by simp [hB'.r_]) a0 (by omega)
      simp only [l, if_false, obs, d6]
      by_cases l2 : M.1 3 4 ≤ v + 1 + M.1 5 (v + 1)
      · have cc2 : ¬ 2 ≤ rkC M (M.1 4 v) := fun w => by have := t.2.2.2.1 w; omega
        simp only [l2, if_true, obs]
        exact fin _ 0 (fun _ => rfl) (fun w => absurd w cc2)
      · have d62 : rd M' 10 6 (v + 1 + M.1 5 (v + 1)) = some (M'.1 6 (v + 1 + M.1 5 (v + 1))) := rd_v (n := 120) (by simp [hB'.r_]) (by omega) (by omega)
        simp only [l2, if_false, obs, d62]
        exact fin _ _ (fun _ => rfl) (fun _ => rfl)
theorem readBy_ok {M : Mem} {p : Int} (hB : SB M) (hg : SgOk M) (hM : MOK M p) (hL : 0 < M.1 3 4 ∧ M.1 3 4 ≤ 120) (hn : ∀ i, 0 ≤ i → i < M.1 3 4 → 0 ≤ M.1 4 i ∧ M.1 4 i < M.1 1 1) (hT : TRE (rkC M) (M.1 3 4) (M.1 4) (M.1 5)) : OkV (D_Row_readBy 3 p M) (fun r M' => RBP M p r M') := by
  have e0 : wr (M.1 3 4 - 1) = M.1 3 4 - 1 := wr_eq (by omega) (by omega)
  have g4 : gf M 3 4 5 4 = some (M.1 3 4) := by simp [gf, hB.r_]
  unfold D_Row_readBy
  rw [g4, obs]
  unfold lt
  rw [e0]
  refine readBy_lp hB hg hM hL hn hT (fun o => OkV o (fun r M' => RBP M p r M')) _ (fun M' s2 o2 hB' hS => ?_)
  have g3 : gf M' 3 4 5 3 = some 6 := by simp [gf, hB'.r_]
  have d6 : rd M' 10 6 0 = some (M'.1 6 0) := rd_v (n := 120) (by simp [hB'.r_]) (by decide) (by decide)
  rw [g3, obs, d6, obs]
  exact OkV.i ⟨s2, o2, hB', hS, rfl⟩
