/-! the counts of a machine -/
theorem fillJ_ok {M : Mem} {a : Int} {n : Nat} (h : M.2.1 a = (11, n)) (hn : n < 90000) : OkM (D_Arr_fill_JJV a 0 M) (fun M' => M'.2 = M.2 ∧ (∀ b, b ≠ a → M'.1 b = M.1 b) ∧ ∀ i : Int, 0 ≤ i → i < n → M'.1 a i = 0) := by
  have gl : ln M a = some (n : Int) := by simp [ln, h]
  unfold D_Arr_fill_JJV
  rw [gl, obs]
  refine lq1 (n := FU) (a := 0) (M := M) (fun k v M' => L_Arr_fill_JJV_6 (fun m6 => some m6) a 0 n k v M') (fun v M' => (0 ≤ v ∧ v ≤ n) ∧ M'.2 = M.2 ∧ (∀ b, b ≠ a → M'.1 b = M.1 b) ∧ ∀ i, 0 ≤ i → i < v → M'.1 a i = 0) (fun v => (n - v).toNat) (fun o => OkM o (fun M' => M'.2 = M.2 ∧ (∀ b, b ≠ a → M'.1 b = M.1 b) ∧ ∀ i : Int, 0 ≤ i → i < n → M'.1 a i = 0)) ?_ ⟨⟨Int.le_refl 0, by omega⟩, rfl, fun _ _ => rfl, fun i _ _ => by omega⟩ (by have := FU_eq; omega)
  intro k v M' ⟨vr, s2, o2, hz⟩ ih
  show OkM (L_Arr_fill_JJV_6 (fun m6 => some m6) a 0 n (k + 1) v M') _
  have ew : wr (v + 1) = v + 1 := wr_eq (by omega) (by omega)
  rw [L_Arr_fill_JJV_6]
  dsimp only
  by_cases q : (n : Int) ≤ v
  · rw [if_pos q]
    exact OkM.i ⟨s2, o2, fun i i0 i1 => hz i i0 (by omega)⟩
  · rw [if_neg q]
    have eW : wt M' 11 a v 0 = some (up M' a v 0) := wt_v (n := n) (by rw [s2]; exact h) vr.1 (by omega)
    rw [eW, obs, ew]
    refine ih (v + 1) _ ⟨⟨by omega, by omega⟩, by rw [up_2]; exact s2, fun b w => by rw [up_n w]; exact o2 b w, fun i i0 i1 => ?_⟩ (by omega)
    rw [up_1]
    by_cases z : i = v
    · rw [if_pos ⟨rfl, z⟩]
    · rw [if_neg (fun w => z w.2)]; exact hz i i0 (by omega)
/-- the machine has its counts -/
def CNT (M : Mem) (p : Int) (M' : Mem) : Prop := M'.2 = M.2 ∧ (∀ a, a ≠ p → a ≠ p + 6 → M'.1 a = M.1 a) ∧ (∀ j, j ≠ 13 → M'.1 p j = M.1 p j) ∧ M'.1 p 13 = 1 ∧ SB M' ∧ ∀ z c, 0 ≤ z → z ≤ 40 → 0 ≤ c → c < M.1 p 10 → M'.1 (p + 6) (z * 6 + c) = sat (tC (M.1 1 1) (rkC M) (mch M p) z c)
theorem ca18_lp {A M0 : Mem} {p : Int} (hB : SB A) (hg : SgOk A) (hP : HP A) (hM : MOK A p) (s0 : M0.2 = A.2) (o0 : ∀ a, a ≠ p + 6 → M0.1 a = A.1 a) (z0 : ∀ i, 0 ≤ i → i < 246 → M0.1 (p + 6) i = 0) (k : Mem → Option Mem) (P : Option Mem → Prop) (h2 : ∀ M', M'.2 = A.2 → (∀ a, a ≠ p + 6 → M'.1 a = A.1 a) → (∀ z c, 0 ≤ z → z ≤ 40 → 0 ≤ c → c < A.1 p 10 → M'.1 (p + 6) (z * 6 + c) = sat (tC (A.1 1 1) (rkC A) (mch A p) z c)) → P (k M')) : P (L_Census_countAll_18 k 60 p FU 1 M0) := by
  have hp := hM.2.1
  have k6 : 0 ≤ A.1 p 10 ∧ A.1 p 10 ≤ 6 := hM.2.2.1.1
  have st0 : sat 0 = 0 := sat_i (by rw [FAR_e]; decide)
  refine lq1 (n := FU) (a := 1) (M := M0) (fun n v M' => L_Census_countAll_18 k 60 p n v M') (fun v M' => (1 ≤ v ∧ v ≤ 41) ∧ M'.2 = A.2 ∧ (∀ a, a ≠ p + 6 → M'.1 a = A.1 a) ∧ (∀ z c, 0 ≤ z → z < v → 0 ≤ c → c < A.1 p 10 → M'.1 (p + 6) (z * 6 + c) = sat (tC (A.1 1 1) (rkC A) (mch A p) z c)) ∧ ∀ i, v * 6 ≤ i → i < 246 → M'.1 (p + 6) i = 0) (fun v => (41 - v).toNat) P ?_ ⟨by decide, s0, o0, fun z c a b c0 c1 => by rw [z0 _ (by omega) (by omega), show z = 0 by omega, tC_0 (Int.le_refl 0), st0], fun i i0 i1 => z0 i (by omega) i1⟩ (by have := FU_eq; omega)
  intro n v M' ⟨vr, s2, o2, hb, hz⟩ ih
  show P (L_Census_countAll_18 k 60 p (n + 1) v M')
  have hB' : SB M' := SB_c hB s2 (fun a k s => by rw [o2 a (by unfold stp at s; omega)])
  have c1 : M'.1 1 = A.1 1 := o2 1 (by omega)
  have c2 : M'.1 2 = A.1 2 := o2 2 (by omega)
  have ek : rkC M' = rkC A := rk_c c1 c2
  have em : mch M' p = mch A p := mch_c ek (fun a _ _ => o2 a (by omega))
  have ep : M'.1 p = A.1 p := o2 p (by omega)
  have hg' : SgOk M' := by unfold SgOk; rw [c1, c2]; exact hg
  have hM' : MOK M' p := ⟨MS.c hM.1 (fun k _ => by rw [ep]) (fun a _ _ => by rw [s2]), hp, by rw [c1, ek, em]; exact hM.2.2.1, by rw [ep]; exact hM.2.2.2⟩
  have ew : wr (v + 1) = v + 1 := wr_eq (by omega) (by omega)
  rw [L_Census_countAll_18]
  dsimp only
  by_cases q : 40 < v
  · rw [if_pos q]
    exact h2 M' s2 o2 (fun z c a b c0 c1 => hb z c a (by omega) c0 c1)
  · rw [if_neg q]
    have tn : ∀ z c, 0 ≤ tC (A.1 1 1) (rkC A) (mch A p) z c := fun z c => tC_nn z c
    have hbl : BEL M' p v (tC (A.1 1 1) (rkC A) (mch A p)) := fun z c a b c0 c1 => hb z c a b c0 (by rw [← ep]; exact c1)
    have h0 : CST M' p v (fun _ => 0) M' := ⟨rfl, fun _ _ => rfl, fun _ _ => rfl, fun c c0 c1 => ⟨Int.le_refl 0, by rw [hz _ (by omega) (by rw [ep] at c1; omega), st0]⟩⟩
    have ck60 : ck M' 60 0 4 = some () := by simp [ck, hB'.c_]
    obtain ⟨N1, e1, h1⟩ := countSimple_ok hB' hg' hM' hbl tn vr.1 (by omega) h0
    have hB1 := h1.sb hB' hp
    have g0 : gf N1 60 0 4 0 = some 1 := by simp [gf, hB1.c_]
    have n12 : N1.1 1 2 = A.1 1 2 := by rw [h1.2.1 1 (by omega), c1]
    have g2 : gf N1 1 5 3 2 = some (A.1 1 2) := by rw [← n12]; simp [gf, hB1.s_]
    have ckN : ck N1 60 0 4 = some () := by simp [ck, hB1.c_]
    rw [ck60, obs, e1, obs, g0, obs, g2, obs]
    have sp := fun c => cf_split (n := A.1 1 1) (rk := rkC A) (m := mch A p) (t := tC (A.1 1 1) (rkC A) (mch A p)) (z := v) (c := c) (fun s => hg.rk s)
    have fin : ∀ N, CST M' p v (fun c => tC (A.1 1 1) (rkC A) (mch A p) v c) N → P (L_Census_countAll_18 k 60 p n (wr (v + 1)) N) := by
      intro N hN
      rw [ew]
      refine ih (v + 1) N ⟨⟨by omega, by omega⟩, hN.1.trans s2, fun a w => (hN.2.1 a w).trans (o2 a w), fun z c a b c0 c1 => ?_, fun i i0 i1 => ?_⟩ (by omega)
      · by_cases y : z = v
        · rw [y]; exact (hN.2.2.2 c c0 (by rw [ep]; exact c1)).2
        · rw [hN.2.2.1 _ (by omega)]; exact hb z c a (by omega) c0 c1
      · rw [hN.2.2.1 _ (by omega)]; exact hz i (by omega) i1
    have emN : mN (mch A p) = A.1 p 10 := rfl
    rw [c1, ek, em] at h1
    by_cases hp2 : A.1 1 2 = 0
    · rw [if_pos hp2, obs]
      refine fin N1 (h1.c (fun c _ _ => ?_))
      rw [tC_eq vr.1 (by omega), sp c, sumN_z (k := (mN (mch A p)).toNat) (f := fun x => sumN (mN (mch A p)).toNat (fun y => pc (A.1 1 1) (rkC A) (mch A p) (tC (A.1 1 1) (rkC A) (mch A p)) v x y c)) (fun x _ _ => sumN_z (fun y _ _ => ?_))]
      · omega
      · unfold pc
        refine sumN_z (fun s s0 s1 => ?_)
        rw [if_neg (fun u => ?_)]
        have := hP.2.mpr ⟨s, ⟨s0, by omega⟩, u.1⟩
        omega
    · rw [if_neg hp2, ckN, obs]
      obtain ⟨N2, e2, h2'⟩ := countPairs_lp hB' hg' hM' hbl tn vr.1 (by omega) h1
      rw [e2, obs, obs]
      refine fin N2 (h2'.c (fun c _ _ => ?_))
      rw [tC_eq vr.1 (by omega), sp c, emN, ep, c1, ek, em]
theorem countAll_ok {M : Mem} {p : Int} (hB : SB M) (hg : SgOk M) (hP : HP M) (hM : MOK M p) (hC : CV M p) : OkM (D_Census_countAll 60 p M) (fun M' => CNT M p M') := by
  have hp := hM.2.1
  have ms := hM.1
  have g13 : gf M p 1 14 13 = some (M.1 p 13) := by simp [gf, ms]
  have g6 : gf M p 1 14 6 = some (p + 6) := by simp [gf, ms]
  have l6 : M.2.1 (p + 6) = (11, 246) := by simp [ms]
  have lp : M.2.1 p = (1, 14) := ms.1
  clear ms
  unfold D_Census_countAll
  rw [g13, obs]
  rcases hC.2 with z | ⟨z, hc⟩
  · rw [if_pos z, g6, obs]
    obtain ⟨M0, e0, s0, o0, z0⟩ := fillJ_ok (M := M) (a := p + 6) (n := 246) l6 (by decide)
    rw [e0, obs]
    refine ca18_lp hB hg hP hM s0 o0 (fun i a b => z0 i a b) _ (fun o => OkM o (fun M' => CNT M p M')) (fun N sN oN hN => ?_)
    have eW : pf N p 1 14 13 1 = some (up N p 13 1) := by simp [pf, sN, lp]
    have hBN : SB N := SB_c hB sN (fun a k s => by rw [oN a (by unfold stp at s; omega)])
    rw [eW, obs]
    refine OkM.i ⟨by rw [up_2]; exact sN, fun a q r => by rw [up_n q]; exact oN a r, fun j q => by rw [up_1, if_neg (fun w => q w.2), oN p (by omega)], by rw [up_1, if_pos ⟨rfl, rfl⟩], SB_up hBN (by unfold stp; omega), fun z c a b c0 c1 => ?_⟩
    rw [up_n (by omega)]
    exact hN z c a b c0 c1
  · rw [if_neg (by omega)]
    exact OkM.i ⟨rfl, fun _ _ _ => rfl, fun _ _ => rfl, z, hB, hc⟩
/-- how many trees of a size the tongue has -/
def tot (n : Int) (rk : Int → Int) (m : Mch) (F : Int → Int) (z : Int) (k : Nat) : Int := sumN k (fun c => if F c = 1 then tC n rk m z c else 0)
theorem tot_nn {n : Int} {rk : Int → Int} {m : Mch} {F : Int → Int} (z : Int) (k : Nat) : 0 ≤ tot n rk m F z k := sumN_nn (fun c _ _ => by split; exact tC_nn _ _; exact Int.le_refl 0)
def fb (M : Mem) (p c : Int) : Int := iand (ishr (M.1 p 11) c) 1
theorem treesOf_ok {M : Mem} {p z : Int} (hB : SB M) (hg : SgOk M) (hP : HP M) (hM : MOK M p) (hC : CV M p) (z0 : 1 ≤ z) (z1 : z ≤ 40) : OkV (D_Census_treesOf 60 p z M) (fun r M' => r = sat (tot (M.1 1 1) (rkC M) (mch M p) (fb M p) z (M.1 p 10).toNat) ∧ CNT M p M') := by
  have hp := hM.2.1
  have k6 : 0 ≤ M.1 p 10 ∧ M.1 p 10 ≤ 6 := hM.2.2.1.1
  have ck60 : ck M 60 0 4 = some () := by simp [ck, hB.c_]
  obtain ⟨N, eN, hN⟩ := countAll_ok hB hg hP hM hC
  have st0 : sat 0 = 0 := sat_i (by rw [FAR_e]; decide)
  have msN : MS N p := hM.1.c (fun k hk => hN.2.2.1 k (by omega)) (fun a _ _ => by rw [hN.1])
  unfold D_Census_treesOf
  rw [ck60, obs, eN, obs]
  refine lq2 (n := FU) (a := 0) (b := 0) (M := N) (fun n u v M' => L_Census_treesOf_10 (fun w3_10 m10 => some (w3_10, m10)) p z n u v M') (fun u v M' => M' = N ∧ (0 ≤ v ∧ v ≤ M.1 p 10) ∧ u = sat (tot (M.1 1 1) (rkC M) (mch M p) (fb M p) z v.toNat)) (fun u v => (M.1 p 10 - v).toNat) (fun o => OkV o (fun r M' => r = sat (tot (M.1 1 1) (rkC M) (mch M p) (fb M p) z (M.1 p 10).toNat) ∧ CNT M p M')) ?_ ⟨rfl, ⟨Int.le_refl 0, k6.1⟩, by show (0 : Int) = sat 0; rw [st0]⟩ (by have := FU_eq; omega)
  intro n u v M' ⟨e, vr, eu⟩ ih
  subst e
  show OkV (L_Census_treesOf_10 (fun w3_10 m10 => some (w3_10, m10)) p z (n + 1) u v M') _
  have e10 : M'.1 p 10 = M.1 p 10 := hN.2.2.1 10 (by decide)
  have e11 : M'.1 p 11 = M.1 p 11 := hN.2.2.1 11 (by decide)
  have g10 : gf M' p 1 14 10 = some (M.1 p 10) := by rw [← e10]; simp [gf, msN]
  have g6 : gf M' p 1 14 6 = some (p + 6) := by simp [gf, msN]
  have l6 : M'.2.1 (p + 6) = (11, 246) := by simp [msN]
  have ckp : ck M' p 1 14 = some () := by simp [ck, msN]
  have fbo := finalBit_ok (c := v) msN
  rw [e11] at fbo
  clear msN
  have ew : wr (v + 1) = v + 1 := wr_eq (by omega) (by omega)
  have w1 : wr (z * 6) = z * 6 := wr_eq (by omega) (by omega)
  have w2 : wr (z * 6 + v) = z * 6 + v := wr_eq (by omega) (by omega)
  rw [L_Census_treesOf_10]
  simp only [g10, obs]
  by_cases q : M.1 p 10 ≤ v
  · rw [if_pos q]
    exact OkV.i ⟨by rw [eu, show v = M.1 p 10 by omega], hN⟩
  · rw [if_neg q]
    have tN : tot (M.1 1 1) (rkC M) (mch M p) (fb M p) z (v + 1).toNat = tot (M.1 1 1) (rkC M) (mch M p) (fb M p) z v.toNat + (if fb M p v = 1 then tC (M.1 1 1) (rkC M) (mch M p) z v else 0) := by
      unfold tot
      rw [show (v + 1).toNat = v.toNat + 1 by omega, sumN_s, show ((v.toNat : Nat) : Int) = v by omega]
    have eR : rd M' 11 (p + 6) (z * 6 + v) = some (sat (tC (M.1 1 1) (rkC M) (mch M p) z v)) := by rw [rd_v l6 (by omega) (by omega), hN.2.2.2.2.2 z v (by omega) z1 vr.1 (by omega)]
    simp only [ckp, obs, fbo, g6, w1, w2, eR, ew]
    have r1 := sat_r (tot_nn (n := M.1 1 1) (rk := rkC M) (m := mch M p) (F := fb M p) z v.toNat)
    have r2 := sat_r (tC_nn (n := M.1 1 1) (rk := rkC M) (m := mch M p) z v)
    have pl := plusC_ok (M := M') r1.1 r1.2 r2.1 r2.2
    rw [sat_add (tot_nn _ _) (tC_nn _ _)] at pl
    have fdef : fb M p v = iand (ishr (M.1 p 11) v) 1 := rfl
    rw [← fdef]
    by_cases b : fb M p v = 1
    · rw [if_pos b, eu]
      simp only [pl, obs]
      exact ih _ (v + 1) M' ⟨rfl, ⟨by omega, by omega⟩, by rw [tN, if_pos b]⟩ (by omega)
    · rw [if_neg b]
      simp only [obs]
      exact ih _ (v + 1) M' ⟨rfl, ⟨by omega, by omega⟩, by rw [tN, if_neg b, eu, show ∀ y : Int, y + 0 = y from fun y => by omega]⟩ (by omega)
