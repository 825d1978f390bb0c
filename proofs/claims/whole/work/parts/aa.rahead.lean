/-! how much is ahead of a tree: the reference -/
theorem ra44_lp {n : Int} {rk : Int → Int} {m : Mch} {p z s t : Int} {W : Int → Int} {M : Mem} (h : RSt n rk m M) (hw : WOK (mN m) W) (hl : AtR p (mN m) W M) (p0 : 0 ≤ p) (p1 : p ≤ 120) (z1 : 1 ≤ z) (z2 : z ≤ 40) (t0 : 0 ≤ t) (t1 : t < n) (k : Int → Mem → Option (Int × Mem)) (P : Option (Int × Mem) → Prop) : ∀ (j : Nat) (i f U : Int) (n1 : Nat), ((if rk t = 2 then z - 2 else 0) - i + 1).toNat = j → j < n1 → 0 ≤ i → i ≤ 40 → (rk t = 2 → 1 ≤ i) → f = (if rk t = 1 then z - 1 + i else i) → 0 ≤ U → P (k (sat (U + sumN j (fun x => shP rk m (kC n rk m) W t z (f + x)))) M) → P (L_M_aheadAt_44 k 62 p s z t n1 (sat U) i M) := by
  obtain ⟨hW, hr, n6, eN⟩ := h.mw
  have hB := h.sb
  have rs := hr t
  have rk1 := h.rk_ t0 t1
  have ck0 : ck M 62 9 54 = some () := by simp [ck, hB.m_]
  have wz : wr (z - 2) = z - 2 := wr_eq (by omega) (by omega)
  have t2 : (if rk t = 2 then (some (wr (z - 2))) else (some 0) : Option Int) = some (if rk t = 2 then z - 2 else 0) := by rw [wz]; split <;> rfl
  intro j
  induction j with
  | zero =>
    intro i f U n1 ej hn i0 i4 i2 ef U0 hP
    cases n1 with
    | zero => omega
    | succ n1 =>
    rw [L_M_aheadAt_44]
    dsimp only
    rw [rk1.1, obs, rk1.2, obs, t2, obs, if_pos (by omega)]
    rw [show U + sumN 0 (fun x => shP rk m (kC n rk m) W t z (f + x)) = U from Int.add_zero U] at hP
    exact hP
  | succ j ih =>
    intro i f U n1 ej hn i0 i4 i2 ef U0 hP
    cases n1 with
    | zero => omega
    | succ n1 =>
    rw [L_M_aheadAt_44]
    dsimp only
    rw [rk1.1, obs, rk1.2, obs, t2, obs, if_neg (by omega), ck0, obs]
    have ir : rk t = 2 → 1 ≤ i ∧ i ≤ z - 2 := fun q => ⟨i2 q, by rw [if_pos q] at ej; omega⟩
    have iz : rk t ≠ 2 → i = 0 := fun q => by rw [if_neg q] at ej; omega
    have ff : f = if rk t = 1 then z - 1 else i := by
      by_cases q : rk t = 1
      · rw [if_pos q] at ef ⊢
        have := iz (by omega)
        omega
      · rw [if_neg q] at ef ⊢; exact ef
    have wq' := weighQ_ok h hw hl p0 p1 t0 t1 z1 z2 ir ff
    have nn := shP_nn (z := z) (f := f) hW hr hw t0 t1
    have pl := plusR_ok (M := M) (sat_r U0).1 (sat_r U0).2 nn.1 nn.2
    have es : sat (sat U + shP rk m (kC n rk m) W t z f) = sat (U + shP rk m (kC n rk m) W t z f) := sat_addl U0 nn.1
    have ew : wr (i + 1) = i + 1 := wr_eq (by omega) (by omega)
    rw [wq', obs]
    dsimp only
    rw [pl, obs, ew, es]
    refine ih (i + 1) (f + 1) (U + shP rk m (kC n rk m) W t z f) n1 (by omega) (by omega) (by omega) (by by_cases q : rk t = 2; have := ir q; omega; have := iz q; omega) (fun q => by have := i2 q; omega) (by rw [ef]; split <;> omega) (by omega) ?_
    rw [sumN_f] at hP
    rw [show f + 0 = f by omega] at hP
    have ee := sumN_c (k := j) (f := fun i => shP rk m (kC n rk m) W t z (f + 1 + i)) (g := fun i => shP rk m (kC n rk m) W t z (f + (i + 1))) (fun i _ _ => by rw [show f + 1 + i = f + (i + 1) by omega])
    rw [ee, Int.add_assoc]
    exact hP
theorem ra20_lp {n : Int} {rk : Int → Int} {m : Mch} {p z s : Int} {W : Int → Int} {M : Mem} (h : RSt n rk m M) (hw : WOK (mN m) W) (hl : AtR p (mN m) W M) (p0 : 0 ≤ p) (p1 : p ≤ 120) (z1 : 1 ≤ z) (z2 : z ≤ 40) (s1 : s < n) (k : Int → Mem → Option (Int × Mem)) (P : Option (Int × Mem) → Prop) : ∀ (j : Nat) (t U : Int) (n1 : Nat), (s - t).toNat = j → j < n1 → 0 ≤ t → 0 ≤ U → P (k (sat (U + sumN j (fun i => shA n rk m W z (t + i)))) M) → P (L_M_aheadAt_20 k 62 p s z n1 (sat U) t M) := by
  obtain ⟨hW, hr, n6, eN⟩ := h.mw
  intro j
  induction j with
  | zero =>
    intro t U n1 ej hn t0 U0 hP
    cases n1 with
    | zero => omega
    | succ n1 =>
    rw [L_M_aheadAt_20]
    dsimp only
    rw [if_pos (by omega)]
    rw [show U + sumN 0 (fun i => shA n rk m W z (t + i)) = U from Int.add_zero U] at hP
    exact hP
  | succ j ih =>
    intro t U n1 ej hn t0 U0 hP
    cases n1 with
    | zero => omega
    | succ n1 =>
    have rs := hr t
    have rk1 := h.rk_ t0 (show t < n by omega)
    have t1 : (if rk t = 2 then (some 1) else (some 0) : Option Int) = some (if rk t = 2 then 1 else 0) := by split <;> rfl
    have wt' : wr (t + 1) = t + 1 := wr_eq (by omega) (by omega)
    have na : 0 ≤ shA n rk m W z t := sumN_nn (fun i _ _ => (shP_nn hW hr hw t0 (by omega)).1)
    have i0' : 0 ≤ (if rk t = 2 then (1 : Int) else 0) ∧ (if rk t = 2 then (1 : Int) else 0) ≤ 1 := by split <;> decide
    rw [L_M_aheadAt_20]
    dsimp only
    rw [if_neg (by omega), rk1.1, obs, rk1.2, obs, t1, obs]
    have ec : ((if rk t = 2 then z - 2 else 0) - (if rk t = 2 then 1 else 0) + 1).toNat = (mst rk t z - lst rk t z + 1).toNat := by
      unfold mst lst
      by_cases q2 : rk t = 2
      · rw [if_pos q2, if_pos q2, if_pos q2, if_neg (by omega), if_neg (by omega)]
      · rw [if_neg q2, if_neg q2, if_neg q2]
        omega
    refine ra44_lp h hw hl p0 p1 z1 z2 t0 (by omega) _ P (mst rk t z - lst rk t z + 1).toNat (if rk t = 2 then 1 else 0) (lst rk t z) U FU ec (by have := FU_eq; have := lst_b rs z1 z2; omega) i0'.1 (by omega) (fun q => by rw [if_pos q]; exact Int.le_refl 1) ?_ U0 ?_
    · unfold lst
      by_cases u2 : rk t = 2
      · rw [if_neg (by omega), if_neg (by omega), if_neg (by omega), if_pos u2]
      · rw [if_neg u2]
        by_cases u1 : rk t = 1
        · rw [if_neg (by omega), if_pos u1, if_pos u1]; omega
        · rw [if_pos (by omega), if_neg u1]
    · rw [wt']
      have e0 : U + sumN (mst rk t z - lst rk t z + 1).toNat (fun i => shP rk m (kC n rk m) W t z (lst rk t z + i)) = U + shA n rk m W z t := rfl
      rw [e0]
      refine ih (t + 1) (U + shA n rk m W z t) n1 (by omega) (by omega) (by omega) (by omega) ?_
      rw [sumN_f] at hP
      rw [show t + 0 = t by omega] at hP
      have ee := sumN_c (k := j) (f := fun i => shA n rk m W z (t + 1 + i)) (g := fun i => shA n rk m W z (t + (i + 1))) (fun i _ _ => by rw [show t + 1 + i = t + (i + 1) by omega])
      rw [ee, Int.add_assoc]
      exact hP
theorem ra121_lp {n : Int} {rk : Int → Int} {m : Mch} {p z s one : Int} {W : Int → Int} {M : Mem} (h : RSt n rk m M) (hw : WOK (mN m) W) (hl : AtR p (mN m) W M) (p0 : 0 ≤ p) (p1 : p ≤ 120) (z1 : 1 ≤ z) (z2 : z ≤ 40) (s0 : 0 ≤ s) (s1 : s < n) (r2 : rk s = 2) (h1 : one ≤ z - 2) (k : Int → Mem → Option (Int × Mem)) (P : Option (Int × Mem) → Prop) : ∀ (j : Nat) (i U : Int) (n1 : Nat), (one - i).toNat = j → j < n1 → 1 ≤ i → 0 ≤ U → P (k (sat (U + sumN j (fun x => shP rk m (kC n rk m) W s z (i + x)))) M) → P (L_M_aheadAt_121 k 62 p s z one n1 (sat U) i M) := by
  obtain ⟨hW, hr, n6, eN⟩ := h.mw
  have hB := h.sb
  have rk1 := h.rk_ s0 s1
  have ck0 : ck M 62 9 54 = some () := by simp [ck, hB.m_]
  intro j
  induction j with
  | zero =>
    intro i U n1 ej hn i1 U0 hP
    cases n1 with
    | zero => omega
    | succ n1 =>
    rw [L_M_aheadAt_121]
    dsimp only
    rw [if_pos (by omega), obs, if_pos rfl]
    rw [show U + sumN 0 (fun x => shP rk m (kC n rk m) W s z (i + x)) = U from Int.add_zero U] at hP
    exact hP
  | succ j ih =>
    intro i U n1 ej hn i1 U0 hP
    cases n1 with
    | zero => omega
    | succ n1 =>
    have wq' := weighQ_ok (f := i) h hw hl p0 p1 s0 s1 z1 z2 (fun _ => ⟨i1, by omega⟩) (by rw [if_neg (by omega)])
    have nn := shP_nn (z := z) (f := i) hW hr hw s0 s1
    have pl := plusR_ok (M := M) (sat_r U0).1 (sat_r U0).2 nn.1 nn.2
    have es : sat (sat U + shP rk m (kC n rk m) W s z i) = sat (U + shP rk m (kC n rk m) W s z i) := sat_addl U0 nn.1
    have ew : wr (i + 1) = i + 1 := wr_eq (by omega) (by omega)
    rw [L_M_aheadAt_121]
    dsimp only
    rw [if_neg (by omega), rk1.1, obs, rk1.2, obs, if_pos r2, obs, if_neg (by decide), ck0, obs, wq', obs]
    dsimp only
    rw [pl, obs, ew, es]
    refine ih (i + 1) (U + shP rk m (kC n rk m) W s z i) n1 (by omega) (by omega) (by omega) (by omega) ?_
    rw [sumN_f] at hP
    rw [show i + 0 = i by omega] at hP
    have ee := sumN_c (k := j) (f := fun x => shP rk m (kC n rk m) W s z (i + 1 + x)) (g := fun x => shP rk m (kC n rk m) W s z (i + (x + 1))) (fun x _ _ => by rw [show i + 1 + x = i + (x + 1) by omega])
    rw [ee, Int.add_assoc]
    exact hP
/-- weights between lo and hi may have changed -/
def PF (lo hi : Int) (M M' : Mem) : Prop := M'.2 = M.2 ∧ (∀ a, a ≠ 94 → M'.1 a = M.1 a) ∧ (∀ i, i < lo ∨ hi ≤ i → M'.1 94 i = M.1 94 i) ∧ SB M'
theorem PF.rf (lo hi : Int) {M : Mem} (hB : SB M) : PF lo hi M M := ⟨rfl, fun _ _ => rfl, fun _ _ => rfl, hB⟩
theorem PF.tr {lo hi lo' hi' : Int} {M M' M'' : Mem} (h : PF lo hi M M') (h' : PF lo' hi' M' M'') (a : lo ≤ lo') (b : hi' ≤ hi) : PF lo hi M M'' := ⟨h'.1.trans h.1, fun x q => (h'.2.1 x q).trans (h.2.1 x q), fun i q => (h'.2.2.1 i (by omega)).trans (h.2.2.1 i q), h'.2.2.2⟩
theorem PF.rw {lo hi : Int} {M M' : Mem} (h : PF lo hi M M') : RWR lo 1000 [] M M' := ⟨h.1, fun a _ _ q => h.2.1 a (by omega), fun k _ _ _ => by rw [h.2.1 62 (by decide)], by rw [h.2.1 64 (by decide)]; rfl, by rw [h.2.1 62 (by decide), ln'_0]; omega, fun i q => h.2.2.1 i (Or.inl q), fun a i _ _ _ => by rw [h.2.1 a (by omega)], h.2.2.2⟩
/-- the row as the reference has read it -/
def RRD (L : Int) (nm S K : Int → Int) (M : Mem) : Prop := M.1 62 3 = L ∧ ∀ i, 0 ≤ i → i < L → M.1 64 i = nm i ∧ M.1 92 i = S i ∧ M.1 91 i = K i
theorem RRD.c {L lo hi : Int} {nm S K : Int → Int} {M M' : Mem} (h : RRD L nm S K M) (f : PF lo hi M M') : RRD L nm S K M' := ⟨by rw [f.2.1 62 (by decide)]; exact h.1, fun i a b => by rw [f.2.1 64 (by decide), f.2.1 92 (by decide), f.2.1 91 (by decide)]; exact h.2 i a b⟩
theorem aheadAt_ok {n : Int} {rk : Int → Int} {m : Mch} {L : Int} {nm S K : Int → Int} {p : Int} {W : Int → Int} {M : Mem} (hK : TRK n rk m L nm S K) (h : RSt n rk m M) (hR : RRD L nm S K M) (hw : WOK (mN m) W) (hl : AtR p (mN m) W M) (p0 : 0 ≤ p) (p1 : p < L) : OkV (D_M_aheadAt 62 p M) (fun r M' => r = sat (ow n rk m W (nm p) (S p) (S (p + 1))) ∧ PF (6 * (p + 1)) (6 * (p + S p)) M M' ∧ (1 ≤ rk (nm p) → AtR (p + 1) (mN m) (w1P rk m (kC n rk m) W (nm p) (S p) (S (p + 1))) M') ∧ (2 ≤ rk (nm p) → AtR (p + 1 + S (p + 1)) (mN m) (fun y => W (mT m (nm p) (K (p + 1)) y)) M')) := by
  obtain ⟨hW, hr, n6, eN⟩ := h.mw
  have N6 := hW.1
  have hB := h.sb
  have L40 := hK.2.2.2
  have hT := hK.1
  have t := hT p p0 p1
  have sr := hK.2.2.1 p p0 p1
  have rs := hr (nm p)
  have z1 := t.1
  have st0 : sat 0 = 0 := sat_i (by rw [FAR_e]; decide)
  have g2 : gf M 62 9 54 2 = some 64 := by simp [gf, hB.m_]
  have g44 : gf M 62 9 54 44 = some 92 := by simp [gf, hB.m_]
  have r64 : rd M 10 64 p = some (nm p) := by rw [rd_v (n := 120) (by simp [hB.m_]) p0 (by omega), (hR.2 p p0 p1).1]
  have r92 : ∀ x, 0 ≤ x → x < L → rd M 10 92 x = some (S x) := fun x x0 x1 => by rw [rd_v (n := 120) (by simp [hB.m_]) x0 (by omega), (hR.2 x x0 x1).2.1]
  have ck0 : ck M 62 9 54 = some () := by simp [ck, hB.m_]
  have rk1 := h.rk_ sr.1 sr.2
  have wp : wr (p + 1) = p + 1 := wr_eq (by omega) (by omega)
  unfold D_M_aheadAt
  rw [g2, obs, r64, obs, g44, obs, r92 p p0 p1, obs]
  have X := ra20_lp (s := nm p) (z := S p) h hw hl p0 (by omega) z1 (by omega) sr.2 (P := fun o => OkV o (fun r M' => r = sat (ow n rk m W (nm p) (S p) (S (p + 1))) ∧ PF (6 * (p + 1)) (6 * (p + S p)) M M' ∧ (1 ≤ rk (nm p) → AtR (p + 1) (mN m) (w1P rk m (kC n rk m) W (nm p) (S p) (S (p + 1))) M') ∧ (2 ≤ rk (nm p) → AtR (p + 1 + S (p + 1)) (mN m) (fun y => W (mT m (nm p) (K (p + 1)) y)) M'))) (j := (nm p).toNat) (t := 0) (U := 0) (n1 := FU)
  rw [st0] at X
  refine X _ (by omega) (by have := FU_eq; omega) (Int.le_refl 0) (Int.le_refl 0) ?_
  clear X
  have eA : (0 : Int) + sumN (nm p).toNat (fun i => shA n rk m W (S p) (0 + i)) = sumN (nm p).toNat (fun i => shA n rk m W (S p) i) := by
    rw [Int.zero_add]
    exact sumN_c (fun j _ _ => by rw [Int.zero_add])
  rw [eA]
  have nA : 0 ≤ sumN (nm p).toNat (fun i => shA n rk m W (S p) i) := sumN_nn (fun t t0 t1 => sumN_nn (fun i _ _ => (shP_nn hW hr hw t0 (by omega)).1))
  rw [rk1.1, obs, rk1.2, obs]
  by_cases q0 : rk (nm p) = 0
  · rw [if_pos q0]
    refine OkV.i ⟨?_, PF.rf _ _ hB, fun w => by omega, fun w => by omega⟩
    unfold ow
    rw [if_neg (by omega), Int.add_zero]
  · rw [if_neg q0, g44, obs, wp]
    have q1 : 1 ≤ rk (nm p) := by omega
    have p1' := t.2.2.1 q1
    have s1 := (hT (p + 1) (by omega) p1').1
    have e2 := t.2.2.2.2
    rw [if_neg (by omega)] at e2
    rw [r92 (p + 1) (by omega) p1', obs]
    have zf : S (p + 1) < S p := by
      by_cases u : rk (nm p) ≤ 1
      · rw [if_pos u] at e2; omega
      · rw [if_neg u] at e2
        have := (hT (p + 1 + S (p + 1)) (by omega) (t.2.2.2.1 (by omega))).1
        omega
    have wz : wr (S p - 1) = S p - 1 := wr_eq (by omega) (by omega)
    have wzf : wr (S p - 1 - S (p + 1)) = S p - 1 - S (p + 1) := wr_eq (by omega) (by omega)
    have B : ∀ (k : Int → Mem → Option (Int × Mem)) (P : Option (Int × Mem) → Prop), P (k (sat (ow n rk m W (nm p) (S p) (S (p + 1)))) M) → P (L_M_aheadAt_121 k 62 p (nm p) (S p) (S (p + 1)) FU (sat (sumN (nm p).toNat (fun i => shA n rk m W (S p) i))) 1 M) := by
      intro k P hP
      by_cases u2 : rk (nm p) = 2
      · rw [if_neg (by omega)] at e2
        have s2 := (hT (p + 1 + S (p + 1)) (by omega) (t.2.2.2.1 (by omega))).1
        refine ra121_lp h hw hl p0 (by omega) z1 (by omega) sr.1 sr.2 u2 (by omega) k P (S (p + 1) - 1).toNat 1 _ FU rfl (by have := FU_eq; omega) (Int.le_refl 1) nA ?_
        unfold ow at hP
        rw [if_pos u2] at hP
        exact hP
      · have eF : FU = (FU - 1) + 1 := by have := FU_eq; omega
        unfold ow at hP
        rw [if_neg u2, Int.add_zero] at hP
        rw [eF, L_M_aheadAt_121]
        dsimp only
        have e0 : (if S (p + 1) ≤ 1 then (some 0) else ((gf M 62 9 54 1).bind fun g129 => (rd M 10 g129 (nm p)).bind fun e133 => if e133 = 2 then (some 1) else (some 0)) : Option Int) = some 0 := by
          split
          · rfl
          · rw [rk1.1, obs, rk1.2, obs, if_neg u2]
        rw [e0, obs, if_pos rfl]
        exact hP
    refine B _ (fun o => OkV o _) ?_
    clear B
    obtain ⟨M1, d1, a1, a2, a3, a4, a5⟩ := layWeights_ok (d := p) (t := p + 1) (s := nm p) (b := 0) (x := 0) (j := S p - 1 - S (p + 1)) h hw hl p0 (by omega) (by omega) sr.1 sr.2 q1 (Or.inl rfl) (by omega) (by omega)
    have f1 : PF (6 * (p + 1)) (6 * (p + S p)) M M1 := ⟨a1, a2, fun i q => a3 i (by omega), a4⟩
    have h1 := h.c f1.rw
    have at1 : AtR (p + 1) (mN m) (w1P rk m (kC n rk m) W (nm p) (S p) (S (p + 1))) M1 := by
      intro c c0 c1
      rw [a5 c c0 c1]
      unfold gW w1P
      rw [if_pos rfl]
    have rk1' := h1.rk_ sr.1 sr.2
    rw [ck0, obs, wz, wzf, d1, obs, rk1'.1, obs, rk1'.2, obs]
    by_cases u2 : rk (nm p) = 2
    · rw [if_pos u2]
      rw [if_neg (by omega)] at e2
      have p2' := t.2.2.2.1 (by omega)
      have s2 := (hT (p + 1 + S (p + 1)) (by omega) p2').1
      have kr := (hK.2.1 (p + 1) (by omega) p1').2
      have g43 : gf M1 62 9 54 43 = some 91 := by simp [gf, a4.m_]
      have r91 : rd M1 10 91 (p + 1) = some (K (p + 1)) := by rw [rd_v (n := 120) (by simp [a4.m_]) (by omega) (by omega), a2 91 (by decide), (hR.2 (p + 1) (by omega) p1').2.2]
      have ck1 : ck M1 62 9 54 = some () := by simp [ck, a4.m_]
      have wx : wr (p + 1 + S (p + 1)) = p + 1 + S (p + 1) := wr_eq (by omega) (by omega)
      obtain ⟨M2, d2, b1, b2, b3, b4, b5⟩ := layWeights_ok (d := p) (t := p + 1 + S (p + 1)) (s := nm p) (b := 1) (x := K (p + 1)) (j := 0) h1 hw (hl.c f1.rw N6.2 (by omega)) p0 (by omega) (by omega) sr.1 sr.2 q1 (Or.inr ⟨rfl, u2, kr⟩) (Int.le_refl 0) (by decide)
      have f2 : PF (6 * (p + 1)) (6 * (p + S p)) M1 M2 := ⟨b1, b2, fun i q => b3 i (by omega), b4⟩
      rw [g43, obs, r91, obs, ck1, obs, wx, d2, obs, obs]
      refine OkV.i ⟨rfl, f1.tr f2 (Int.le_refl _) (Int.le_refl _), fun _ c c0 c1 => ?_, fun _ c c0 c1 => ?_⟩
      · rw [b3 _ (by omega)]; exact at1 c c0 c1
      · rw [b5 c c0 c1]
        unfold gW
        rw [if_neg (by decide)]
    · rw [if_neg u2, obs]
      exact OkV.i ⟨rfl, f1, fun _ => at1, fun w => by omega⟩
theorem pl85_lp {n : Int} {rk : Int → Int} {m : Mch} {L : Int} {nm S K : Int → Int} (hK : TRK n rk m L nm S K) (k : Int → Mem → Option (Int × Mem)) (P : Option (Int × Mem) → Prop) : ∀ (j : Nat) {M : Mem} {W : Int → Int} {p U : Int} (m0 : Nat), RSt n rk m M → RRD L nm S K M → WOK (mN m) W → AtR p (mN m) W M → 0 ≤ p → p < L → S p ≤ j → 0 ≤ U → (∀ M', PF (6 * (p + 1)) (6 * (p + S p)) M M' → P (L_M_place_85 k 62 m0 (sat (U + aP n rk m nm S K j p W)) (p + S p) M')) → P (L_M_place_85 k 62 (m0 + (S p).toNat) (sat U) p M) := by
  have hT := hK.1
  have L40 := hK.2.2.2
  intro j
  induction j with
  | zero => intro M W p U m0 _ _ _ _ p0 p1 sj; have := (hT p p0 p1).1; omega
  | succ j ih =>
    intro M W p U m0 h hR hw hl p0 p1 sj U0 hP
    obtain ⟨hW, hr, n6, eN⟩ := h.mw
    have N6 := hW.1
    have hB := h.sb
    have t := hT p p0 p1
    have sr := hK.2.2.1 p p0 p1
    have rs := hr (nm p)
    have z1 := t.1
    have on := ow_nn (z := S p) (f := S (p + 1)) hW hr hw sr.1 sr.2
    have g3 : gf M 62 9 54 3 = some L := by rw [← hR.1]; simp [gf, hB.m_]
    have ck0 : ck M 62 9 54 = some () := by simp [ck, hB.m_]
    have wp : wr (p + 1) = p + 1 := wr_eq (by omega) (by omega)
    obtain ⟨r, M1, d1, e1, f1, at1, at2⟩ := aheadAt_ok hK h hR hw hl p0 p1
    have h1 := h.c f1.rw
    have hR1 := hR.c f1
    have pl := plusR_ok (M := M1) (sat_r U0).1 (sat_r U0).2 (sat_r on).1 (sat_r on).2
    have eS : m0 + (S p).toNat = (m0 + (S p - 1).toNat) + 1 := by omega
    rw [eS, L_M_place_85]
    dsimp only
    rw [g3, obs, if_neg (by omega), ck0, obs, d1, obs]
    dsimp only
    rw [e1, pl, obs, wp, sat_add U0 on]
    rw [aP_s] at hP
    have e2 := t.2.2.2.2
    by_cases q0 : rk (nm p) ≤ 0
    · rw [if_pos q0] at e2
      rw [if_neg (by omega), if_neg (by omega), Int.add_zero, Int.add_zero, e2] at hP
      rw [e2, show m0 + ((1 : Int) - 1).toNat = m0 from rfl]
      rw [e2] at f1
      exact hP M1 f1
    · rw [if_neg q0] at e2
      have q1 : 1 ≤ rk (nm p) := by omega
      rw [if_pos q1] at hP
      have p1' := t.2.2.1 q1
      have s1 := (hT (p + 1) (by omega) p1').1
      have w1 : WOK (mN m) (w1P rk m (kC n rk m) W (nm p) (S p) (S (p + 1))) := fun x x0 x1 => w1P_r hW kC_r hw sr.1 sr.2 q1 rs.2 x0 x1
      have n1 := aP_nn hK hW hr j (p + 1) _ (by omega) p1' w1
      by_cases u1 : rk (nm p) ≤ 1
      · rw [if_pos u1] at e2
        rw [if_neg (by omega), Int.add_zero] at hP
        rw [show m0 + (S p - 1).toNat = m0 + (S (p + 1)).toNat by omega]
        refine ih (p := p + 1) m0 h1 hR1 w1 (at1 q1) (by omega) p1' (by omega) (by omega) (fun M2 f2 => ?_)
        rw [Int.add_assoc, show p + 1 + S (p + 1) = p + S p by omega]
        exact hP M2 (f1.tr f2 (by omega) (by omega))
      · rw [if_neg u1] at e2
        rw [if_pos (by omega)] at hP
        have p2' := t.2.2.2.1 (by omega)
        have s2 := (hT (p + 1 + S (p + 1)) (by omega) p2').1
        have w2 := hK.w2 hW hw p0 p1 (show 2 ≤ rk (nm p) by omega)
        rw [show m0 + (S p - 1).toNat = (m0 + (S (p + 1 + S (p + 1))).toNat) + (S (p + 1)).toNat by omega]
        refine ih (p := p + 1) _ h1 hR1 w1 (at1 q1) (by omega) p1' (by omega) (by omega) (fun M2 f2 => ?_)
        have f12 : PF (6 * (p + 1)) (6 * (p + S p)) M M2 := f1.tr f2 (by omega) (by omega)
        refine ih (p := p + 1 + S (p + 1)) m0 (h.c f12.rw) (hR.c f12) w2 (fun c c0 c1 => ?_) (by omega) p2' (by omega) (by omega) (fun M3 f3 => ?_)
        · rw [f2.2.2.1 _ (by omega)]; exact at2 (by omega) c c0 c1
        · rw [show p + 1 + S (p + 1) + S (p + 1 + S (p + 1)) = p + S p by omega]
          have := hP M3 (f12.tr f3 (by omega) (by omega))
          rw [← Int.add_assoc, ← Int.add_assoc] at this
          exact this
