/-! the reference: all counts -/
theorem sgn_eq {rk : Int → Int} {m : Mch} {t : Int → Int → Int} {z s c : Int} (hr : 0 ≤ rk s ∧ rk s ≤ 2) : sgn rk m t z s c = (if rk s = 0 then (if z = 1 ∧ mT m s 0 0 = c then 1 else 0) else 0) + sumN (mN m).toNat (fun x => xrt rk m t z s x c) := by
  unfold sgn
  by_cases r0 : rk s = 0
  · rw [if_pos r0, if_pos r0, sumN_z (k := (mN m).toNat) (f := fun x => xrt rk m t z s x c) (fun x _ _ => by unfold xrt; rw [if_neg (by omega), if_neg (by omega)])]
    omega
  · rw [if_neg r0, if_neg r0]
    by_cases r1 : rk s = 1
    · rw [if_pos r1]
      have : sumN (mN m).toNat (fun x => xrt rk m t z s x c) = sumN (mN m).toNat (fun x => if mT m s x 0 = c then t (z - 1) x else 0) := sumN_c (fun x _ _ => by unfold xrt; rw [if_pos r1])
      rw [this]; omega
    · rw [if_neg r1]
      have r2 : rk s = 2 := by omega
      have : sumN (mN m).toNat (fun x => xrt rk m t z s x c) = sumN (mN m).toNat (fun x => sumN (mN m).toNat (fun y => if mT m s x y = c then sumN (z - 2).toNat (fun i => t (i + 1) x * t (z - 2 - i) y) else 0)) := sumN_c (fun x _ _ => by unfold xrt; rw [if_neg r1, if_pos r2]; rfl)
      rw [this]; omega
theorem cf_sgn {n : Int} {rk : Int → Int} {m : Mch} {t : Int → Int → Int} {z c : Int} : cf n rk m t z c = sumN n.toNat (fun s => sgn rk m t z s c) := rfl
theorem rc40_lp {M : Mem} {z : Int} {t : Int → Int → Int} (hB : SB M) (hg : SgE M) (hW : MW (M.1 1 1) (rkC M) (mchR M 16)) (hbl : RBL M z t) (tn : ∀ z c, 0 ≤ t z c) (t0 : ∀ z c, z ≤ 0 → t z c = 0) (z0 : 1 ≤ z) (z1 : z ≤ 40) (h0 : RST M z (fun _ => 0) M) (k : Mem → Option Mem) (P : Option Mem → Prop) (h2 : ∀ N, RST M z (fun c => cf (M.1 1 1) (rkC M) (mchR M 16) t z c) N → P (k N)) : P (L_M_countAll_40 k 62 (M.1 73 16) z FU 0 M) := by
  have k6 : 0 ≤ M.1 73 16 ∧ M.1 73 16 ≤ 6 := hW.1
  have n6 := hg.1.2.1
  have n0 := hg.1.1
  refine lq1 (n := FU) (a := 0) (M := M) (fun n v M' => L_M_countAll_40 k 62 (M.1 73 16) z n v M') (fun v M' => (0 ≤ v ∧ v ≤ M.1 1 1) ∧ RST M z (fun c => sumN v.toNat (fun s => sgn (rkC M) (mchR M 16) t z s c)) M') (fun v => (M.1 1 1 - v).toNat) P ?_ ⟨⟨Int.le_refl 0, n0⟩, h0⟩ (by have := FU_eq; omega)
  intro n v M' ⟨vr, hI⟩ ih
  show P (L_M_countAll_40 k 62 (M.1 73 16) z (n + 1) v M')
  have hB' := hI.sb hB
  have g0 : gf M' 62 9 54 0 = some (M.1 1 1) := by rw [← hg.2.1, ← hI.2.1 62 (by decide)]; simp [gf, hB'.m_]
  have g1 : gf M' 62 9 54 1 = some 63 := by simp [gf, hB'.m_]
  have g45 : gf M' 62 9 54 45 = some 93 := by simp [gf, hB'.m_]
  have ck0 : ck M' 62 9 54 = some () := by simp [ck, hB'.m_]
  have ew : wr (v + 1) = v + 1 := wr_eq (by omega) (by omega)
  rw [L_M_countAll_40]
  simp only [g0, obs]
  by_cases q : M.1 1 1 ≤ v
  · rw [if_pos q]
    exact h2 M' (hI.c (fun c _ _ => by rw [cf_sgn, show v = M.1 1 1 by omega]))
  · rw [if_neg q]
    have r63 := hg.2.2 v vr.1 (by omega)
    have rgs := hg.1.rk v
    have d63 : rd M' 10 63 v = some (rkC M v) := by rw [rd_v (n := 6) (by simp [hB'.m_]) vr.1 (by omega), hI.2.1 63 (by decide), r63]
    simp only [g1, obs, d63]
    have sN : ∀ c, sumN (v + 1).toNat (fun s => sgn (rkC M) (mchR M 16) t z s c) = sumN v.toNat (fun s => sgn (rkC M) (mchR M 16) t z s c) + ((if rkC M v = 0 then (if z = 1 ∧ mT (mchR M 16) v 0 0 = c then 1 else 0) else 0) + sumN (M.1 73 16).toNat (fun x => xrt (rkC M) (mchR M 16) t z v x c)) := fun c => by
      rw [show (v + 1).toNat = v.toNat + 1 by omega, sumN_s, show ((v.toNat : Nat) : Int) = v by omega, sgn_eq rgs]
      rfl
    have rest : ∀ (B : Int → Int) (M1 : Mem), RST M z B M1 → (∀ c, 0 ≤ c → c < M.1 73 16 → B c = sumN v.toNat (fun s => sgn (rkC M) (mchR M 16) t z s c) + (if rkC M v = 0 then (if z = 1 ∧ mT (mchR M 16) v 0 0 = c then 1 else 0) else 0)) → P (L_M_countAll_99 (fun m99 => L_M_countAll_40 k 62 (M.1 73 16) z n (wr (v + 1)) m99) 62 (M.1 73 16) z v FU 0 M1) := by
      intro B M1 h1 e
      refine rc99_lp hB hg hW hbl tn t0 z0 z1 vr.1 (by omega) _ P (fun N hN => ?_) h1
      rw [ew]
      refine ih (v + 1) N ⟨⟨by omega, by omega⟩, hN.c (fun c c0 c1 => ?_)⟩ (by omega)
      rw [sN c, e c c0 c1]
      omega
    by_cases r0 : rkC M v = 0
    · rw [if_pos r0]
      by_cases zz : z = 1
      · rw [if_pos zz]
        have hA : Arg (rkC M) (M.1 73 16) v 0 0 := argx (fun w => by omega) (fun w => by omega) (fun _ => rfl) (fun _ => rfl)
        have st := rstep_ok (M := M') (m := 16) (s := v) (x := 0) (y := 0) hB' (by decide) ⟨vr.1, by omega⟩ (by decide) (by decide)
        rw [hI.mr] at st
        have rg := hW.2 v 0 0 vr.1 (by omega) hA
        have emN : mN (mchR M 16) = M.1 73 16 := rfl
        rw [emN] at rg
        have w1 : wr (41 * mT (mchR M 16) v 0 0) = 41 * mT (mchR M 16) v 0 0 := wr_eq (by omega) (by omega)
        have w2 : wr (41 * mT (mchR M 16) v 0 0 + z) = 41 * mT (mchR M 16) v 0 0 + z := wr_eq (by omega) (by omega)
        obtain ⟨e1, e2, e3, e4⟩ := radd' (d := mT (mchR M 16) v 0 0) (e := 1) hI hB k6.2 z0 z1 rg.1 rg.2 (by decide)
        rw [show sat 1 = 1 from sat_i (by rw [FAR_e]; decide)] at e2
        simp only [ck0, obs, st, lt, w1, w2, g45, e1, e2, e3]
        refine rest _ _ e4 (fun c _ _ => ?_)
        rw [if_pos r0]
        by_cases w : mT (mchR M 16) v 0 0 = c
        · rw [if_pos w, if_pos ⟨zz, w⟩]
        · rw [if_neg w, if_neg (fun u => w u.2)]
      · rw [if_neg zz]
        simp only [obs]
        refine rest _ M' hI (fun c _ _ => ?_)
        rw [if_pos r0, if_neg (fun u : z = 1 ∧ mT (mchR M 16) v 0 0 = c => zz u.1)]
        omega
    · rw [if_neg r0]
      simp only [obs]
      refine rest _ M' hI (fun c _ _ => ?_)
      rw [if_neg r0]
      omega
/-- the reference has its counts -/
def RCN (M : Mem) (M' : Mem) : Prop := M'.2 = M.2 ∧ (∀ a, a ≠ 93 → M'.1 a = M.1 a) ∧ SB M' ∧ ∀ z c, 0 ≤ z → z ≤ 40 → 0 ≤ c → c < M.1 73 16 → M'.1 93 (41 * c + z) = sat (tC (M.1 1 1) (rkC M) (mchR M 16) z c)
theorem rc32_lp {A M0 : Mem} (hB : SB A) (hg : SgE A) (hW : MW (A.1 1 1) (rkC A) (mchR A 16)) (s0 : M0.2 = A.2) (o0 : ∀ a, a ≠ 93 → M0.1 a = A.1 a) (z0 : ∀ i, 0 ≤ i → i < 246 → M0.1 93 i = 0) : OkM (L_M_countAll_32 (fun m32 => some m32) 62 (A.1 73 16) FU 1 M0) (fun M' => RCN A M') := by
  have k6 : 0 ≤ A.1 73 16 ∧ A.1 73 16 ≤ 6 := hW.1
  have st0 : sat 0 = 0 := sat_i (by rw [FAR_e]; decide)
  refine lq1 (n := FU) (a := 1) (M := M0) (fun n v M' => L_M_countAll_32 (fun m32 => some m32) 62 (A.1 73 16) n v M') (fun v M' => (1 ≤ v ∧ v ≤ 41) ∧ M'.2 = A.2 ∧ (∀ a, a ≠ 93 → M'.1 a = A.1 a) ∧ (∀ z c, 0 ≤ z → z < v → 0 ≤ c → c < A.1 73 16 → M'.1 93 (41 * c + z) = sat (tC (A.1 1 1) (rkC A) (mchR A 16) z c)) ∧ ∀ z c, v ≤ z → z ≤ 40 → 0 ≤ c → c < 6 → M'.1 93 (41 * c + z) = 0) (fun v => (41 - v).toNat) (fun o => OkM o (fun M' => RCN A M')) ?_ ⟨by decide, s0, o0, fun z c a b c0 c1 => by rw [z0 _ (by omega) (by omega), show z = 0 by omega, tC_0 (Int.le_refl 0), st0], fun z c a b c0 c1 => z0 _ (by omega) (by omega)⟩ (by have := FU_eq; omega)
  intro n v M' ⟨vr, s2, o2, hb, hz⟩ ih
  show OkM (L_M_countAll_32 (fun m32 => some m32) 62 (A.1 73 16) (n + 1) v M') _
  have hB' : SB M' := SB_c hB s2 (fun a k s => by rw [o2 a (by unfold stp at s; omega)])
  have c1 : M'.1 1 = A.1 1 := o2 1 (by decide)
  have ek : rkC M' = rkC A := rk_c c1 (o2 2 (by decide))
  have e73 : M'.1 73 = A.1 73 := o2 73 (by decide)
  have em : mchR M' 16 = mchR A 16 := by
    unfold mchR
    rw [e73, o2 74 (by decide), o2 75 (by decide), o2 76 (by decide), o2 77 (by decide), o2 78 (by decide), o2 79 (by decide)]
  have hg' : SgE M' := hg.c c1 (o2 2 (by decide)) (by rw [o2 62 (by decide)]) (o2 63 (by decide))
  have hW' : MW (M'.1 1 1) (rkC M') (mchR M' 16) := by rw [c1, ek, em]; exact hW
  have ew : wr (v + 1) = v + 1 := wr_eq (by omega) (by omega)
  rw [L_M_countAll_32]
  dsimp only
  by_cases q : 40 < v
  · rw [if_pos q]
    exact OkM.i ⟨s2, o2, hB', fun z c a b c0 c1 => hb z c a (by omega) c0 c1⟩
  · rw [if_neg q]
    have tn : ∀ z c, 0 ≤ tC (A.1 1 1) (rkC A) (mchR A 16) z c := fun z c => tC_nn z c
    have hbl : RBL M' v (tC (A.1 1 1) (rkC A) (mchR A 16)) := fun z c a b c0 c1 => hb z c a b c0 (by rw [← e73]; exact c1)
    have h0 : RST M' v (fun _ => 0) M' := ⟨rfl, fun _ _ => rfl, fun _ _ _ _ _ _ _ => rfl, fun c c0 c1 => ⟨Int.le_refl 0, by rw [hz v c (Int.le_refl _) (by omega) c0 (by rw [e73] at c1; omega), st0]⟩⟩
    rw [← e73]
    refine rc40_lp hB' hg' hW' hbl tn (fun z c h => tC_0 h) vr.1 (by omega) h0 _ (fun o => OkM o (fun M' => RCN A M')) (fun N hN => ?_)
    rw [c1, ek, em] at hN
    rw [ew, e73]
    refine ih (v + 1) N ⟨⟨by omega, by omega⟩, hN.1.trans s2, fun a w => (hN.2.1 a w).trans (o2 a w), fun z c a b c0 c1 => ?_, fun z c a b c0 c1 => ?_⟩ (by omega)
    · by_cases y : z = v
      · rw [y, (hN.2.2.2 c c0 (by rw [e73]; exact c1)).2, tC_eq vr.1 (by omega)]
      · rw [hN.2.2.1 z c a (by omega) y c0 (by omega)]; exact hb z c a (by omega) c0 c1
    · rw [hN.2.2.1 z c (by omega) b (by omega) c0 c1]; exact hz z c (by omega) b c0 c1
theorem rcountAll_ok {M : Mem} (hB : SB M) (hg : SgE M) (hW : MW (M.1 1 1) (rkC M) (mchR M 16)) : OkM (D_M_countAll 62 M) (fun M' => RCN M M') := by
  have k6 : 0 ≤ M.1 73 16 ∧ M.1 73 16 ≤ 6 := hW.1
  unfold D_M_countAll
  refine lq1 (n := FU) (a := 0) (M := M) (fun n v M' => L_M_countAll_2 (fun m2 => (gf m2 62 9 54 13).bind fun g23 => (rd m2 10 g23 16).bind fun e28 => L_M_countAll_32 (fun m32 => some m32) 62 e28 FU 1 m2) 62 n v M') (fun v M' => (0 ≤ v ∧ v ≤ 246) ∧ M'.2 = M.2 ∧ (∀ a, a ≠ 93 → M'.1 a = M.1 a) ∧ ∀ i, 0 ≤ i → i < v → M'.1 93 i = 0) (fun v => (246 - v).toNat) (fun o => OkM o (fun M' => RCN M M')) ?_ ⟨by decide, rfl, fun _ _ => rfl, fun i _ _ => by omega⟩ (by have := FU_eq; omega)
  intro n v M' ⟨vr, s2, o2, hz⟩ ih
  show OkM (L_M_countAll_2 _ 62 (n + 1) v M') _
  have hB' : SB M' := SB_c hB s2 (fun a k s => by rw [o2 a (by unfold stp at s; omega)])
  have g45 : gf M' 62 9 54 45 = some 93 := by simp [gf, hB'.m_]
  have g13 : gf M' 62 9 54 13 = some 73 := by simp [gf, hB'.m_]
  have d73 : rd M' 10 73 16 = some (M.1 73 16) := by rw [rd_v (n := 19) (by simp [hB'.m_]) (by decide) (by decide), o2 73 (by decide)]
  have ew : wr (v + 1) = v + 1 := wr_eq (by omega) (by omega)
  rw [L_M_countAll_2]
  dsimp only
  by_cases q : 246 ≤ v
  · rw [if_pos q, g13, obs, d73, obs]
    exact rc32_lp hB hg hW s2 o2 (fun i a b => hz i a (by omega))
  · rw [if_neg q]
    have eW : wt M' 11 93 v 0 = some (up M' 93 v 0) := wt_v (n := 246) (by simp [hB'.m_]) vr.1 (by omega)
    rw [g45, obs, eW, obs, ew]
    refine ih (v + 1) _ ⟨⟨by omega, by omega⟩, by rw [up_2]; exact s2, fun b w => by rw [up_n w]; exact o2 b w, fun i i0 i1 => ?_⟩ (by omega)
    rw [up_1]
    by_cases z : i = v
    · rw [if_pos ⟨rfl, z⟩]
    · rw [if_neg (fun w => z w.2)]; exact hz i i0 (by omega)
theorem countIn_ok {M N : Mem} {z : Int} (hB : SB M) (hW : MW (M.1 1 1) (rkC M) (mchR M 16)) (hA : BA M) (hN : RCN M N) (z0 : 1 ≤ z) (z1 : z ≤ 40) : D_M_countIn 62 z N = some (sat (tot (M.1 1 1) (rkC M) (mchR M 16) (fun c => M.1 75 (96 + c)) z (M.1 73 16).toNat), N) := by
  have k6 : 0 ≤ M.1 73 16 ∧ M.1 73 16 ≤ 6 := hW.1
  have st0 : sat 0 = 0 := sat_i (by rw [FAR_e]; decide)
  have hBN := hN.2.2.1
  have g45 : gf N 62 9 54 45 = some 93 := by simp [gf, hBN.m_]
  have g13 : gf N 62 9 54 13 = some 73 := by simp [gf, hBN.m_]
  have g15 : gf N 62 9 54 15 = some 75 := by simp [gf, hBN.m_]
  have d73 : rd N 10 73 16 = some (M.1 73 16) := by rw [rd_v (n := 19) (by simp [hBN.m_]) (by decide) (by decide), hN.2.1 73 (by decide)]
  have l : N.2.1 93 = (11, 246) := by simp [hBN.m_]
  unfold D_M_countIn
  refine lq2 (n := FU) (a := 0) (b := 0) (M := N) (fun n u v M' => L_M_countIn_5 (fun w2_5 m5 => some (w2_5, m5)) 62 z n u v M') (fun u v M' => M' = N ∧ (0 ≤ v ∧ v ≤ M.1 73 16) ∧ u = sat (tot (M.1 1 1) (rkC M) (mchR M 16) (fun c => M.1 75 (96 + c)) z v.toNat)) (fun u v => (M.1 73 16 - v).toNat) (fun o => o = some (sat (tot (M.1 1 1) (rkC M) (mchR M 16) (fun c => M.1 75 (96 + c)) z (M.1 73 16).toNat), N)) ?_ ⟨rfl, ⟨Int.le_refl 0, k6.1⟩, by show (0 : Int) = sat 0; rw [st0]⟩ (by have := FU_eq; omega)
  intro n u v M' ⟨e, vr, eu⟩ ih
  subst e
  show L_M_countIn_5 (fun w2_5 m5 => some (w2_5, m5)) 62 z (n + 1) u v M' = _
  have ew : wr (v + 1) = v + 1 := wr_eq (by omega) (by omega)
  have w1 : wr (41 * v) = 41 * v := wr_eq (by omega) (by omega)
  have w2 : wr (41 * v + z) = 41 * v + z := wr_eq (by omega) (by omega)
  have w3 : wr (96 + v) = 96 + v := wr_eq (by omega) (by omega)
  rw [L_M_countIn_5]
  simp only [g13, obs, d73]
  by_cases q : M.1 73 16 ≤ v
  · rw [if_pos q, eu, show v = M.1 73 16 by omega]
  · rw [if_neg q]
    have tN : tot (M.1 1 1) (rkC M) (mchR M 16) (fun c => M.1 75 (96 + c)) z (v + 1).toNat = tot (M.1 1 1) (rkC M) (mchR M 16) (fun c => M.1 75 (96 + c)) z v.toNat + (if M.1 75 (96 + v) = 1 then tC (M.1 1 1) (rkC M) (mchR M 16) z v else 0) := by
      unfold tot
      rw [show (v + 1).toNat = v.toNat + 1 by omega, sumN_s, show ((v.toNat : Nat) : Int) = v by omega]
    have d75 : rd M' 12 75 (96 + v) = some (M.1 75 (96 + v)) := by rw [rd_v (n := 114) (by simp [hBN.m_]) (by omega) (by omega), hN.2.1 75 (by decide)]
    have eR : rd M' 11 93 (41 * v + z) = some (sat (tC (M.1 1 1) (rkC M) (mchR M 16) z v)) := by rw [rd_v l (by omega) (by omega), hN.2.2.2 z v (by omega) z1 vr.1 (by omega)]
    simp only [g15, obs, w3, d75, g45, w1, w2, eR, ew]
    have r1 := sat_r (tot_nn (n := M.1 1 1) (rk := rkC M) (m := mchR M 16) (F := fun c => M.1 75 (96 + c)) z v.toNat)
    have r2 := sat_r (tC_nn (n := M.1 1 1) (rk := rkC M) (m := mchR M 16) z v)
    have pl := plusR_ok (M := M') r1.1 r1.2 r2.1 r2.2
    rw [sat_add (tot_nn _ _) (tC_nn _ _)] at pl
    rcases hA (96 + v) (by omega) (by omega) with b | b
    · rw [if_pos b]
      simp only [obs]
      exact ih _ (v + 1) M' ⟨rfl, ⟨by omega, by omega⟩, by rw [tN, if_neg (show ¬ M.1 75 (96 + v) = 1 by omega), eu, show ∀ y : Int, y + 0 = y from fun y => by omega]⟩ (by omega)
    · rw [if_neg (show ¬ M.1 75 (96 + v) = 0 by omega), eu]
      simp only [pl, obs]
      exact ih _ (v + 1) M' ⟨rfl, ⟨by omega, by omega⟩, by rw [tN, if_pos b]⟩ (by omega)
