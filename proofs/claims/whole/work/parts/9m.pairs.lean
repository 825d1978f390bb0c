/-! the counts: pairs, and all sizes -/
def prs (t : Int → Int → Int) (z x y : Int) : Int := sumN (z - 2).toNat (fun i => t (i + 1) x * t (z - 2 - i) y)
theorem prs_nn {t : Int → Int → Int} (tn : ∀ z c, 0 ≤ t z c) (z x y : Int) : 0 ≤ prs t z x y := sumN_nn (fun _ _ _ => Int.mul_nonneg (tn _ _) (tn _ _))
theorem pairsOf_ok {M : Mem} {p z x y : Int} {t : Int → Int → Int} {A : Int → Int} {M' : Mem} (hM : MOK M p) (hbl : BEL M p z t) (tn : ∀ z c, 0 ≤ t z c) (z0 : 1 ≤ z) (z1 : z ≤ 40) (h : CST M p z A M') (x0 : 0 ≤ x) (x1 : x < M.1 p 10) (y0 : 0 ≤ y) (y1 : y < M.1 p 10) : D_Census_pairsOf 60 p x y (z - 1) M' = some (sat (prs t z x y), M') := by
  have hp := hM.2.1
  have k6 : 0 ≤ M.1 p 10 ∧ M.1 p 10 ≤ 6 := hM.2.2.1.1
  obtain ⟨-, -, -, -, -, ms⟩ := h.same hM
  have g6 : gf M' p 1 14 6 = some (p + 6) := by simp [gf, ms]
  have l6 : M'.2.1 (p + 6) = (11, 246) := by simp [ms]
  clear ms
  unfold D_Census_pairsOf
  refine lq2 (n := FU) (a := 0) (b := 1) (M := M') (fun n u v N => L_Census_pairsOf_6 (fun w5_6 m6 => some (w5_6, m6)) p x y (z - 1) n u v N) (fun u v N => N = M' ∧ 1 ≤ v ∧ (v ≤ z - 1 ∨ v = 1) ∧ u = sat (sumN (v - 1).toNat (fun i => t (i + 1) x * t (z - 2 - i) y))) (fun u v => (z - v).toNat) (fun o => o = some (sat (prs t z x y), M')) ?_ ⟨rfl, Int.le_refl 1, Or.inr rfl, by rw [show ((1 : Int) - 1).toNat = 0 from rfl]; show (0 : Int) = sat 0; exact (sat_i (by rw [FAR_e]; decide)).symm⟩ (by have := FU_eq; omega)
  intro n u v N ⟨e, v1, v2, eu⟩ ih
  subst e
  show L_Census_pairsOf_6 (fun w5_6 m6 => some (w5_6, m6)) p x y (z - 1) (n + 1) u v N = _
  have ew : wr (v + 1) = v + 1 := wr_eq (by omega) (by omega)
  have w1 : wr (v * 6) = v * 6 := wr_eq (by omega) (by omega)
  have w2 : wr (v * 6 + x) = v * 6 + x := wr_eq (by omega) (by omega)
  have w3 : wr (z - 1 - v) = z - 1 - v := wr_eq (by omega) (by omega)
  have w4 : wr ((z - 1 - v) * 6) = (z - 1 - v) * 6 := wr_eq (by omega) (by omega)
  have w5 : wr ((z - 1 - v) * 6 + y) = (z - 1 - v) * 6 + y := wr_eq (by omega) (by omega)
  have sn : 0 ≤ sumN (v - 1).toNat (fun i => t (i + 1) x * t (z - 2 - i) y) := sumN_nn (fun _ _ _ => Int.mul_nonneg (tn _ _) (tn _ _))
  rw [L_Census_pairsOf_6]
  dsimp only
  by_cases q : z - 1 ≤ v
  · rw [if_pos q, eu]
    unfold prs
    have : (v - 1).toNat = (z - 2).toNat := by omega
    rw [this]
  · rw [if_neg q]
    have eR1 : rd N 11 (p + 6) (v * 6 + x) = some (sat (t v x)) := by rw [rd_v l6 (by omega) (by omega), h.2.2.1 _ (by omega), hbl v x (by omega) (by omega) x0 x1]
    have eR2 : rd N 11 (p + 6) ((z - 1 - v) * 6 + y) = some (sat (t (z - 1 - v) y)) := by rw [rd_v l6 (by omega) (by omega), h.2.2.1 _ (by omega), hbl (z - 1 - v) y (by omega) (by omega) y0 y1]
    have r1 := sat_r (tn v x)
    have r2 := sat_r (tn (z - 1 - v) y)
    have tm := timesC_ok (M := N) r1.1 r1.2 r2.1 r2.2
    rw [sat_mul (tn _ _) (tn _ _)] at tm
    have pn := Int.mul_nonneg (tn v x) (tn (z - 1 - v) y)
    have r3 := sat_r pn
    have r4 := sat_r sn
    have pl := plusC_ok (M := N) r4.1 r4.2 r3.1 r3.2
    rw [sat_add sn pn] at pl
    rw [eu]
    simp only [g6, obs, w1, w2, w3, w4, w5, eR1, eR2, tm, pl, ew]
    refine ih _ (v + 1) N ⟨rfl, by omega, Or.inl (by omega), ?_⟩ (by omega)
    rw [show (v + 1 - 1).toNat = (v - 1).toNat + 1 by omega, sumN_s, show (((v - 1).toNat : Nat) : Int) = v - 1 by omega, show v - 1 + 1 = v by omega, show z - 2 - (v - 1) = z - 1 - v by omega]
theorem cp38_lp {M : Mem} {p z x y : Int} {t : Int → Int → Int} {A : Int → Int} (hB : SB M) (hg : SgOk M) (hM : MOK M p) (tn : ∀ z c, 0 ≤ t z c) (z0 : 1 ≤ z) (z1 : z ≤ 40) (x0 : 0 ≤ x) (x1 : x < M.1 p 10) (y0 : 0 ≤ y) (y1 : y < M.1 p 10) (k : Mem → Option Mem) (P : Option Mem → Prop) (h2 : ∀ N, CST M p z (fun c => A c + sumN (M.1 1 1).toNat (fun s => if rkC M s = 2 ∧ mT (mch M p) s x y = c then prs t z x y else 0)) N → P (k N)) {M0 : Mem} (h0 : CST M p z A M0) : P (L_Census_countPairs_38 k 60 p z x y (sat (prs t z x y)) FU 0 M0) := by
  have hp := hM.2.1
  have k6 : 0 ≤ M.1 p 10 ∧ M.1 p 10 ≤ 6 := hM.2.2.1.1
  have n0 := hg.1
  have n6 := hg.2.1
  have pn := prs_nn tn z x y
  by_cases ez : prs t z x y = 0
  · obtain ⟨fu, efu⟩ : ∃ fu, FU = fu + 1 := ⟨99999, FU_eq⟩
    have s0 : sat (prs t z x y) = 0 := by rw [ez]; exact sat_i (by rw [FAR_e]; decide)
    rw [s0, efu, L_Census_countPairs_38]
    have c0 : lc 0 0 ≤ 0 := lc_le.mpr (Int.le_refl 0)
    simp only [c0, if_true, obs]
    refine h2 M0 (h0.c (fun c _ _ => ?_))
    rw [sumN_z (fun s _ _ => by split; exact ez; rfl)]
    omega
  · have np : ¬ lc (sat (prs t z x y)) 0 ≤ 0 := fun w => by
      have := lc_le.mp w
      have f := FAR_e
      unfold sat at this
      split at this <;> omega
    refine lq1 (n := FU) (a := 0) (M := M0) (fun n v M' => L_Census_countPairs_38 k 60 p z x y (sat (prs t z x y)) n v M') (fun v M' => (0 ≤ v ∧ v ≤ M.1 1 1) ∧ CST M p z (fun c => A c + sumN v.toNat (fun s => if rkC M s = 2 ∧ mT (mch M p) s x y = c then prs t z x y else 0)) M') (fun v => (M.1 1 1 - v).toNat) P ?_ ⟨⟨Int.le_refl 0, n0⟩, h0.c (fun c _ _ => by show A c = A c + 0; omega)⟩ (by have := FU_eq; omega)
    intro n v M' ⟨vr, hI⟩ ih
    show P (L_Census_countPairs_38 k 60 p z x y (sat (prs t z x y)) (n + 1) v M')
    obtain ⟨c1, c2, ek, em, ep, ms⟩ := hI.same hM
    have hB' := hI.sb hB hp
    have g0 : gf M' 60 0 4 0 = some 1 := by simp [gf, hB'.c_]
    have gn : gf M' 1 5 3 1 = some (M.1 1 1) := by rw [← c1]; simp [gf, hB'.s_]
    have ck1 : ck M' 1 5 3 = some () := by simp [ck, hB'.s_]
    have ck60 : ck M' 60 0 4 = some () := by simp [ck, hB'.c_]
    have ckp : ck M' p 1 14 = some () := by simp [ck, ms]
    have rko := rankOf_ok hB'.s_ (by rw [c1]; exact n6) v
    rw [ek] at rko
    have ew : wr (v + 1) = v + 1 := wr_eq (by omega) (by omega)
    rw [L_Census_countPairs_38]
    simp only [np, if_false, g0, obs, gn]
    have sN : ∀ c, sumN (v + 1).toNat (fun s => if rkC M s = 2 ∧ mT (mch M p) s x y = c then prs t z x y else 0) = sumN v.toNat (fun s => if rkC M s = 2 ∧ mT (mch M p) s x y = c then prs t z x y else 0) + (if rkC M v = 2 ∧ mT (mch M p) v x y = c then prs t z x y else 0) := fun c => by rw [show (v + 1).toNat = v.toNat + 1 by omega, sumN_s, show ((v.toNat : Nat) : Int) = v by omega]
    by_cases q : M.1 1 1 ≤ v
    · simp only [q, if_true, obs]
      exact h2 M' (hI.c (fun c _ _ => by rw [show v = M.1 1 1 by omega]))
    · simp only [q, if_false, obs]
      rw [if_neg (by decide)]
      simp only [ck1, obs, rko]
      by_cases r2 : rkC M v = 2
      · rw [if_pos r2]
        have hA : Arg (rkC M) (M.1 p 10) v x y := argx (fun _ => ⟨x0, x1⟩) (fun _ => ⟨y0, y1⟩) (fun w => by omega) (fun w => by omega)
        have st := step_ok (M := M') (p := p) (s := v) (x := x) (y := y) (c := M.1 p 10) hB' (by unfold SgOk; rw [c1, c2]; exact hg) ms k6.2 ⟨vr.1, by omega⟩ (by rw [ek]; exact hA)
        clear ms
        rw [em] at st
        have rg := hM.2.2.1.2 v x y vr.1 (by omega) hA
        obtain ⟨N, eN, hN⟩ := add_ok' (d := mT (mch M p) v x y) hI hM z0 z1 rg.1 rg.2 pn
        simp only [ckp, obs, st, ck60, eN, ew]
        refine ih (v + 1) N ⟨⟨by omega, by omega⟩, hN.c (fun c _ _ => ?_)⟩ (by omega)
        rw [sN c]
        by_cases w : mT (mch M p) v x y = c
        · rw [if_pos w, if_pos ⟨r2, w⟩]; omega
        · rw [if_neg w, if_neg (fun u => w u.2)]; omega
      · rw [if_neg r2]
        simp only [obs, ew]
        refine ih (v + 1) M' ⟨⟨by omega, by omega⟩, hI.c (fun c _ _ => ?_)⟩ (by omega)
        rw [sN c, if_neg (fun u : rkC M v = 2 ∧ mT (mch M p) v x y = c => r2 u.1)]
        omega
/-- what two classes bring to a third, over all signs -/
def pc (n : Int) (rk : Int → Int) (m : Mch) (t : Int → Int → Int) (z x y c : Int) : Int := sumN n.toNat (fun s => if rk s = 2 ∧ mT m s x y = c then prs t z x y else 0)
theorem cp13_lp {M : Mem} {p z x : Int} {t : Int → Int → Int} {A : Int → Int} (hB : SB M) (hg : SgOk M) (hM : MOK M p) (hbl : BEL M p z t) (tn : ∀ z c, 0 ≤ t z c) (z0 : 1 ≤ z) (z1 : z ≤ 40) (x0 : 0 ≤ x) (x1 : x < M.1 p 10) (k : Mem → Option Mem) (P : Option Mem → Prop) (h2 : ∀ N, CST M p z (fun c => A c + sumN (M.1 p 10).toNat (fun y => pc (M.1 1 1) (rkC M) (mch M p) t z x y c)) N → P (k N)) {M0 : Mem} (h0 : CST M p z A M0) : P (L_Census_countPairs_13 k 60 p z x FU 0 M0) := by
  have hp := hM.2.1
  have k6 : 0 ≤ M.1 p 10 ∧ M.1 p 10 ≤ 6 := hM.2.2.1.1
  refine lq1 (n := FU) (a := 0) (M := M0) (fun n v M' => L_Census_countPairs_13 k 60 p z x n v M') (fun v M' => (0 ≤ v ∧ v ≤ M.1 p 10) ∧ CST M p z (fun c => A c + sumN v.toNat (fun y => pc (M.1 1 1) (rkC M) (mch M p) t z x y c)) M') (fun v => (M.1 p 10 - v).toNat) P ?_ ⟨⟨Int.le_refl 0, k6.1⟩, h0.c (fun c _ _ => by show A c = A c + 0; omega)⟩ (by have := FU_eq; omega)
  intro n v M' ⟨vr, hI⟩ ih
  show P (L_Census_countPairs_13 k 60 p z x (n + 1) v M')
  obtain ⟨c1, c2, ek, em, ep, ms⟩ := hI.same hM
  have hB' := hI.sb hB hp
  have g10 : gf M' p 1 14 10 = some (M.1 p 10) := by rw [← ep]; simp [gf, ms]
  clear ms
  have ck60 : ck M' 60 0 4 = some () := by simp [ck, hB'.c_]
  have ew : wr (v + 1) = v + 1 := wr_eq (by omega) (by omega)
  have wz : wr (z - 1) = z - 1 := wr_eq (by omega) (by omega)
  rw [L_Census_countPairs_13]
  simp only [g10, obs]
  by_cases q : M.1 p 10 ≤ v
  · rw [if_pos q]
    exact h2 M' (hI.c (fun c _ _ => by rw [show v = M.1 p 10 by omega]))
  · rw [if_neg q]
    have po := pairsOf_ok (x := x) (y := v) hM hbl tn z0 z1 hI x0 x1 vr.1 (by omega)
    simp only [ck60, obs, wz, po]
    refine cp38_lp hB hg hM tn z0 z1 x0 x1 vr.1 (by omega) _ P (fun N hN => ?_) hI
    rw [ew]
    refine ih (v + 1) N ⟨⟨by omega, by omega⟩, hN.c (fun c _ _ => ?_)⟩ (by omega)
    rw [show (v + 1).toNat = v.toNat + 1 by omega, sumN_s, show ((v.toNat : Nat) : Int) = v by omega]
    show A c + sumN v.toNat _ + pc (M.1 1 1) (rkC M) (mch M p) t z x v c = _
    omega
theorem countPairs_lp {M : Mem} {p z : Int} {t : Int → Int → Int} {A : Int → Int} (hB : SB M) (hg : SgOk M) (hM : MOK M p) (hbl : BEL M p z t) (tn : ∀ z c, 0 ≤ t z c) (z0 : 1 ≤ z) (z1 : z ≤ 40) {M0 : Mem} (h0 : CST M p z A M0) : OkM (D_Census_countPairs 60 p z M0) (fun N => CST M p z (fun c => A c + sumN (M.1 p 10).toNat (fun x => sumN (M.1 p 10).toNat (fun y => pc (M.1 1 1) (rkC M) (mch M p) t z x y c))) N) := by
  have hp := hM.2.1
  have k6 : 0 ≤ M.1 p 10 ∧ M.1 p 10 ≤ 6 := hM.2.2.1.1
  unfold D_Census_countPairs
  refine lq1 (n := FU) (a := 0) (M := M0) (fun n v M' => L_Census_countPairs_2 (fun m2 => some m2) 60 p z n v M') (fun v M' => (0 ≤ v ∧ v ≤ M.1 p 10) ∧ CST M p z (fun c => A c + sumN v.toNat (fun x => sumN (M.1 p 10).toNat (fun y => pc (M.1 1 1) (rkC M) (mch M p) t z x y c))) M') (fun v => (M.1 p 10 - v).toNat) (fun o => OkM o (fun N => CST M p z (fun c => A c + sumN (M.1 p 10).toNat (fun x => sumN (M.1 p 10).toNat (fun y => pc (M.1 1 1) (rkC M) (mch M p) t z x y c))) N)) ?_ ⟨⟨Int.le_refl 0, k6.1⟩, h0.c (fun c _ _ => by show A c = A c + 0; omega)⟩ (by have := FU_eq; omega)
  intro n v M' ⟨vr, hI⟩ ih
  show OkM (L_Census_countPairs_2 (fun m2 => some m2) 60 p z (n + 1) v M') _
  obtain ⟨c1, c2, ek, em, ep, ms⟩ := hI.same hM
  have g10 : gf M' p 1 14 10 = some (M.1 p 10) := by rw [← ep]; simp [gf, ms]
  clear ms
  have ew : wr (v + 1) = v + 1 := wr_eq (by omega) (by omega)
  rw [L_Census_countPairs_2]
  simp only [g10, obs]
  by_cases q : M.1 p 10 ≤ v
  · rw [if_pos q]
    exact OkM.i (hI.c (fun c _ _ => by rw [show v = M.1 p 10 by omega]))
  · rw [if_neg q]
    refine cp13_lp hB hg hM hbl tn z0 z1 vr.1 (by omega) _ (fun o => OkM o (fun N => CST M p z (fun c => A c + sumN (M.1 p 10).toNat (fun x => sumN (M.1 p 10).toNat (fun y => pc (M.1 1 1) (rkC M) (mch M p) t z x y c))) N)) (fun N hN => ?_) hI
    rw [ew]
    refine ih (v + 1) N ⟨⟨by omega, by omega⟩, hN.c (fun c _ _ => ?_)⟩ (by omega)
    rw [show (v + 1).toNat = v.toNat + 1 by omega, sumN_s, show ((v.toNat : Nat) : Int) = v by omega]
    omega
/-- simple parts and pairs make the whole -/
theorem cf_split {n : Int} {rk : Int → Int} {m : Mch} {t : Int → Int → Int} {z c : Int} (hr : ∀ s, 0 ≤ rk s ∧ rk s ≤ 2) : cf n rk m t z c = sumN n.toNat (fun s => smp n rk m t z s c) + sumN (mN m).toNat (fun x => sumN (mN m).toNat (fun y => pc n rk m t z x y c)) := by
  have e1 : sumN (mN m).toNat (fun x => sumN (mN m).toNat (fun y => pc n rk m t z x y c)) = sumN n.toNat (fun s => sumN (mN m).toNat (fun x => sumN (mN m).toNat (fun y => if rk s = 2 ∧ mT m s x y = c then prs t z x y else 0))) := by
    rw [← sumN_sw (fun x s => sumN (mN m).toNat (fun y => if rk s = 2 ∧ mT m s x y = c then prs t z x y else 0)) (mN m).toNat n.toNat]
    refine sumN_c (fun x _ _ => ?_)
    unfold pc
    exact sumN_sw (fun y s => if rk s = 2 ∧ mT m s x y = c then prs t z x y else 0) (mN m).toNat n.toNat
  rw [e1, ← sumN_add]
  unfold cf
  refine sumN_c (fun s _ _ => ?_)
  have r := hr s
  unfold smp
  by_cases r0 : rk s = 0
  · rw [if_pos r0, if_pos r0, sumN_z (fun x _ _ => sumN_z (fun y _ _ => by rw [if_neg (fun u => by omega)]))]
    omega
  · rw [if_neg r0, if_neg r0]
    by_cases r1 : rk s = 1
    · rw [if_pos r1, if_pos r1, sumN_z (k := (mN m).toNat) (f := fun x => sumN (mN m).toNat (fun y => if rk s = 2 ∧ mT m s x y = c then prs t z x y else 0)) (fun x _ _ => sumN_z (fun y _ _ => by rw [if_neg (fun u => by omega)]))]
      omega
    · rw [if_neg r1, if_neg r1]
      have r2 : rk s = 2 := by omega
      have : sumN (mN m).toNat (fun x => sumN (mN m).toNat (fun y => if rk s = 2 ∧ mT m s x y = c then prs t z x y else 0)) = sumN (mN m).toNat (fun x => sumN (mN m).toNat (fun y => if mT m s x y = c then sumN (z - 2).toNat (fun i => t (i + 1) x * t (z - 2 - i) y) else 0)) := sumN_c (fun x _ _ => sumN_c (fun y _ _ => by
        by_cases w : mT m s x y = c
        · rw [if_pos ⟨r2, w⟩, if_pos w]; rfl
        · rw [if_neg (fun u => w u.2), if_neg w]))
      rw [this]
      omega
