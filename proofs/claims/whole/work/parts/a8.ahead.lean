/-! how much is ahead of a tree: the class -/
/-- the trees of a node's size that a smaller sign or first part has -/
def ow (n : Int) (rk : Int → Int) (m : Mch) (W : Int → Int) (s z f : Int) : Int := sumN s.toNat (fun t => shA n rk m W z t) + (if rk s = 2 then sumN (f - 1).toNat (fun i => shP rk m (kC n rk m) W s z (1 + i)) else 0)
/-- all that is ahead of the part at i -/
def aP (n : Int) (rk : Int → Int) (m : Mch) (nm S K : Int → Int) : Nat → Int → (Int → Int) → Int
  | 0 => fun _ _ => 0
  | j + 1 => fun i W => ow n rk m W (nm i) (S i) (S (i + 1)) + (if 1 ≤ rk (nm i) then aP n rk m nm S K j (i + 1) (w1P rk m (kC n rk m) W (nm i) (S i) (S (i + 1))) else 0) + (if 2 ≤ rk (nm i) then aP n rk m nm S K j (i + 1 + S (i + 1)) (fun y => W (mT m (nm i) (K (i + 1)) y)) else 0)
theorem ow_nn {n : Int} {rk : Int → Int} {m : Mch} {W : Int → Int} {s z f : Int} (hW : MW n rk m) (hr : ∀ s, 0 ≤ rk s ∧ rk s ≤ 2) (hw : WOK (mN m) W) (s0 : 0 ≤ s) (s1 : s < n) : 0 ≤ ow n rk m W s z f := by
  have a : 0 ≤ sumN s.toNat (fun t => shA n rk m W z t) := sumN_nn (fun t t0 t1 => sumN_nn (fun i _ _ => (shP_nn hW hr hw t0 (by omega)).1))
  have b : 0 ≤ (if rk s = 2 then sumN (f - 1).toNat (fun i => shP rk m (kC n rk m) W s z (1 + i)) else 0) := by
    split
    · exact sumN_nn (fun i _ _ => (shP_nn hW hr hw s0 s1).1)
    · exact Int.le_refl 0
  unfold ow
  omega
/-- the tree that is read -/
def TRK (n : Int) (rk : Int → Int) (m : Mch) (L : Int) (nm S K : Int → Int) : Prop := TRE rk L nm S ∧ RDN rk (mT m) (mN m) L 0 nm S K ∧ (∀ i, 0 ≤ i → i < L → 0 ≤ nm i ∧ nm i < n) ∧ L ≤ 40
theorem TRK.w2 {n : Int} {rk : Int → Int} {m : Mch} {L : Int} {nm S K : Int → Int} {W : Int → Int} {i : Int} (h : TRK n rk m L nm S K) (hW : MW n rk m) (hw : WOK (mN m) W) (i0 : 0 ≤ i) (i1 : i < L) (r2 : 2 ≤ rk (nm i)) : WOK (mN m) (fun y => W (mT m (nm i) (K (i + 1)) y)) := by
  have t := h.1 i i0 i1
  have s := h.2.2.1 i i0 i1
  have kr := h.2.1 (i + 1) (by omega) (t.2.2.1 (by omega))
  intro y y0 y1
  have a := hW.2 (nm i) (K (i + 1)) y s.1 s.2 (argx (fun _ => kr.2) (fun _ => ⟨y0, y1⟩) (fun w => by omega) (fun w => by omega))
  exact hw _ a.1 a.2
theorem aP_nn {n : Int} {rk : Int → Int} {m : Mch} {L : Int} {nm S K : Int → Int} (h : TRK n rk m L nm S K) (hW : MW n rk m) (hr : ∀ s, 0 ≤ rk s ∧ rk s ≤ 2) : ∀ (j : Nat) (i : Int) (W : Int → Int), 0 ≤ i → i < L → WOK (mN m) W → 0 ≤ aP n rk m nm S K j i W := by
  intro j
  induction j with
  | zero => intro i W _ _ _; exact Int.le_refl 0
  | succ j ih =>
    intro i W i0 i1 hw
    have t := h.1 i i0 i1
    have s := h.2.2.1 i i0 i1
    have rs := hr (nm i)
    have a := ow_nn (z := S i) (f := S (i + 1)) hW hr hw s.1 s.2
    have b : 0 ≤ (if 1 ≤ rk (nm i) then aP n rk m nm S K j (i + 1) (w1P rk m (kC n rk m) W (nm i) (S i) (S (i + 1))) else 0) := by
      by_cases q : 1 ≤ rk (nm i)
      · rw [if_pos q]
        exact ih _ _ (by omega) (t.2.2.1 q) (fun x x0 x1 => w1P_r hW kC_r hw s.1 s.2 q rs.2 x0 x1)
      · rw [if_neg q]; exact Int.le_refl 0
    have c : 0 ≤ (if 2 ≤ rk (nm i) then aP n rk m nm S K j (i + 1 + S (i + 1)) (fun y => W (mT m (nm i) (K (i + 1)) y)) else 0) := by
      by_cases q : 2 ≤ rk (nm i)
      · rw [if_pos q]
        have t1 := h.1 (i + 1) (by omega) (t.2.2.1 (by omega))
        exact ih _ _ (by omega) (t.2.2.2.1 q) (h.w2 hW hw i0 i1 q)
      · rw [if_neg q]; exact Int.le_refl 0
    unfold aP
    omega
theorem ah138_lp {n : Int} {rk : Int → Int} {m : Mch} {p lv z s most v2 v5 v6 v7 : Int} {W : Int → Int} {M : Mem} (h : CSt n rk m p M) (hw : WOK (mN m) W) (hl : AtL lv (mN m) W M) (l0 : 0 ≤ lv) (l1 : lv ≤ 39) (z1 : 1 ≤ z) (z2 : z ≤ 40) (s0 : 0 ≤ s) (s1 : s < n) (hm : most < z) (w : Int → Int → Int → Int → Mem → Option (Int × Mem)) (k : Int → Mem → Option (Int × Mem)) (P : Option (Int × Mem) → Prop) : ∀ (j : Nat) (f U : Int) (n1 : Nat) (M' : Mem), (most - f + 1).toNat = j → j < n1 → 0 ≤ f → f ≤ 40 → 0 ≤ U → CWR (lv * 6 + 6) [] M M' → (∀ M'', CWR (lv * 6 + 6) [] M M'' → P (k (sat (U + sumN j (fun i => shP rk m (kC n rk m) W s z (f + i)))) M'')) → P (L_Census_ahead_138 w k 60 p v2 lv z v5 v6 v7 s most n1 (sat U) f M') := by
  obtain ⟨hW, hr, n6⟩ := h.mw
  have N6 := hW.1
  intro j
  induction j with
  | zero =>
    intro f U n1 M' ej hn f0 f4 U0 hc hP
    cases n1 with
    | zero => omega
    | succ n1 =>
    rw [L_Census_ahead_138]
    dsimp only
    rw [if_pos (by omega)]
    have := hP M' hc
    rw [show U + sumN 0 (fun i => shP rk m (kC n rk m) W s z (f + i)) = U from Int.add_zero U] at this
    exact this
  | succ j ih =>
    intro f U n1 M' ej hn f0 f4 U0 hc hP
    cases n1 with
    | zero => omega
    | succ n1 =>
    rw [L_Census_ahead_138]
    dsimp only
    rw [if_neg (by omega)]
    have hM' := h.c hc
    have hB' := hM'.1.1
    have ck0 : ck M' 60 0 4 = some () := by simp [ck, hB'.c_]
    obtain ⟨r, M2, d2, a1, a2, a3⟩ := shareQ_ok (s := s) (f := f) hM' hw (hl.c hc N6.2 (Int.le_refl _)) l0 l1 s0 s1 z1 z2 f0 (by omega)
    have hc2 : CWR (lv * 6 + 6) [] M M2 := hc.tr a2 (Int.le_refl _)
    have nn := shP_nn (z := z) (f := f) hW hr hw s0 s1
    have pl := plusC_ok (M := M2) (sat_r U0).1 (sat_r U0).2 nn.1 nn.2
    have ew : wr (f + 1) = f + 1 := wr_eq (by omega) (by omega)
    have es : sat (sat U + shP rk m (kC n rk m) W s z f) = sat (U + shP rk m (kC n rk m) W s z f) := sat_addl U0 nn.1
    rw [ck0, obs, d2, obs]
    dsimp only
    rw [a1, pl, obs, ew, es]
    refine ih (f + 1) (U + shP rk m (kC n rk m) W s z f) n1 M2 (by omega) (by omega) (by omega) (by omega) (by omega) hc2 (fun M'' hc'' => ?_)
    have := hP M'' hc''
    rw [sumN_f] at this
    rw [show f + 0 = f by omega] at this
    have ee := sumN_c (k := j) (f := fun i => shP rk m (kC n rk m) W s z (f + 1 + i)) (g := fun i => shP rk m (kC n rk m) W s z (f + (i + 1))) (fun i _ _ => by rw [show f + 1 + i = f + (i + 1) by omega])
    rw [ee, Int.add_assoc]
    exact this
theorem ah97_lp {n : Int} {rk : Int → Int} {m : Mch} {p lv z s v2 v6 v7 : Int} {W : Int → Int} {M : Mem} (h : CSt n rk m p M) (hw : WOK (mN m) W) (hl : AtL lv (mN m) W M) (l0 : 0 ≤ lv) (l1 : lv ≤ 39) (z1 : 1 ≤ z) (z2 : z ≤ 40) (s0 : 0 ≤ s) (s1 : s < n) (h7 : 0 ≤ v7 ∧ v7 ≤ z) (w : Int → Int → Int → Int → Mem → Option (Int × Mem)) (k : Int → Mem → Option (Int × Mem)) (P : Option (Int × Mem) → Prop) : ∀ (j : Nat) (t U : Int) (n1 : Nat) (M' : Mem), (s - t).toNat = j → j + 1 < n1 → 0 ≤ t → t ≤ s → 0 ≤ U → CWR (lv * 6 + 6) [] M M' → (∀ M'', CWR (lv * 6 + 6) [] M M'' → P (k (sat (U + (sumN j (fun i => shA n rk m W z (t + i)) + sumN (v7 - 1 - lst rk s z + 1).toNat (fun i => shP rk m (kC n rk m) W s z (lst rk s z + i))))) M'')) → P (L_Census_ahead_97 w k 60 p v2 lv z s v6 v7 n1 (sat U) t M') := by
  obtain ⟨hW, hr, n6⟩ := h.mw
  have N6 := hW.1
  intro j
  induction j with
  | zero =>
    intro t U n1 M' ej hn t0 ts U0 hc hP
    have et : t = s := by omega
    subst et
    cases n1 with
    | zero => omega
    | succ n1 =>
    have hM' := h.c hc
    have hB' := hM'.1.1
    have ck0 : ck M' 60 0 4 = some () := by simp [ck, hB'.c_]
    have w7 : wr (v7 - 1) = v7 - 1 := wr_eq (by omega) (by omega)
    have wt' : wr (t + 1) = t + 1 := wr_eq (by omega) (by omega)
    have lb := lst_b (hr t) z1 z2
    have lz : lst rk t z ≤ 40 := by
      unfold lst
      split
      · decide
      · split <;> omega
    rw [L_Census_ahead_97]
    dsimp only
    rw [if_neg (by omega), if_pos (Int.le_refl _), obs]
    dsimp only
    rw [ck0, obs, leastFirst_ok hM' z1 z2, obs, w7]
    refine ah138_lp (s := t) (most := v7 - 1) h hw hl l0 l1 z1 z2 t0 s1 (by omega) w _ P (v7 - 1 - lst rk t z + 1).toNat (lst rk t z) U FU M' rfl (by have := FU_eq; omega) lb.2 lz U0 hc (fun M2 hc2 => ?_)
    cases n1 with
    | zero => omega
    | succ n1 =>
    rw [wt', L_Census_ahead_97]
    dsimp only
    rw [if_pos (by omega)]
    have := hP M2 hc2
    rw [show sumN 0 (fun i => shA n rk m W z (t + i)) = 0 from rfl, Int.zero_add] at this
    exact this
  | succ j ih =>
    intro t U n1 M' ej hn t0 ts U0 hc hP
    cases n1 with
    | zero => omega
    | succ n1 =>
    have hM' := h.c hc
    have hB' := hM'.1.1
    have ck0 : ck M' 60 0 4 = some () := by simp [ck, hB'.c_]
    have wt' : wr (t + 1) = t + 1 := wr_eq (by omega) (by omega)
    have lb := lst_b (hr t) z1 z2
    have mz := mst_lt (hr t) z1
    have lz : lst rk t z ≤ 40 := by
      unfold lst
      split
      · decide
      · split <;> omega
    rw [L_Census_ahead_97]
    dsimp only
    rw [if_neg (by omega), if_neg (by omega), ck0, obs, mostFirst_ok hM' z1 z2, obs, obs]
    dsimp only
    rw [ck0, obs, leastFirst_ok hM' z1 z2, obs]
    dsimp only
    have na : 0 ≤ shA n rk m W z t := sumN_nn (fun i _ _ => (shP_nn hW hr hw t0 (by omega)).1)
    refine ah138_lp (s := t) (most := mst rk t z) h hw hl l0 l1 z1 z2 t0 (by omega) mz w _ P (mst rk t z - lst rk t z + 1).toNat (lst rk t z) U FU M' rfl (by have := FU_eq; omega) lb.2 lz U0 hc (fun M2 hc2 => ?_)
    rw [wt']
    have e0 : U + sumN (mst rk t z - lst rk t z + 1).toNat (fun i => shP rk m (kC n rk m) W t z (lst rk t z + i)) = U + shA n rk m W z t := rfl
    rw [e0]
    refine ih (t + 1) (U + shA n rk m W z t) n1 M2 (by omega) (by omega) (by omega) (by omega) (by omega) hc2 (fun M3 hc3 => ?_)
    have := hP M3 hc3
    rw [sumN_f] at this
    rw [show t + 0 = t by omega] at this
    have ee := sumN_c (k := j) (f := fun i => shA n rk m W z (t + 1 + i)) (g := fun i => shA n rk m W z (t + (i + 1))) (fun i _ _ => by rw [show t + 1 + i = t + (i + 1) by omega])
    rw [ee, Int.add_assoc, ← Int.add_assoc (shA n rk m W z t)]
    exact this
