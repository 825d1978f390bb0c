/-! the counts: the reference -/
def RST (M : Mem) (z : Int) (A : Int → Int) (M' : Mem) : Prop := M'.2 = M.2 ∧ (∀ a, a ≠ 93 → M'.1 a = M.1 a) ∧ (∀ z' c, 0 ≤ z' → z' ≤ 40 → z' ≠ z → 0 ≤ c → c < 6 → M'.1 93 (41 * c + z') = M.1 93 (41 * c + z')) ∧ ∀ c, 0 ≤ c → c < M.1 73 16 → 0 ≤ A c ∧ M'.1 93 (41 * c + z) = sat (A c)
theorem RST.c {M : Mem} {z : Int} {A A' : Int → Int} {M' : Mem} (h : RST M z A M') (e : ∀ c, 0 ≤ c → c < M.1 73 16 → A c = A' c) : RST M z A' M' := ⟨h.1, h.2.1, h.2.2.1, fun c c0 c1 => by rw [← e c c0 c1]; exact h.2.2.2 c c0 c1⟩
theorem RST.sb {M : Mem} {z : Int} {A : Int → Int} {M' : Mem} (h : RST M z A M') (hB : SB M) : SB M' := SB_c hB h.1 (fun a k s => by rw [h.2.1 a (by unfold stp at s; omega)])
theorem RST.mr {M : Mem} {z : Int} {A : Int → Int} {M' : Mem} (h : RST M z A M') (m : Int) : mchR M' m = mchR M m := by
  unfold mchR
  rw [h.2.1 73 (by decide), h.2.1 74 (by decide), h.2.1 75 (by decide), h.2.1 76 (by decide), h.2.1 77 (by decide), h.2.1 78 (by decide), h.2.1 79 (by decide)]
theorem radd' {M : Mem} {z d e : Int} {A : Int → Int} {M' : Mem} (h : RST M z A M') (hB : SB M) (k6 : M.1 73 16 ≤ 6) (z0 : 1 ≤ z) (z1 : z ≤ 40) (d0 : 0 ≤ d) (d1 : d < M.1 73 16) (e0 : 0 ≤ e) : rd M' 11 93 (41 * d + z) = some (sat (A d)) ∧ D_M_plus (sat (A d)) (sat e) M' = some (sat (A d + e), M') ∧ wt M' 11 93 (41 * d + z) (sat (A d + e)) = some (up M' 93 (41 * d + z) (sat (A d + e))) ∧ RST M z (fun c => A c + (if d = c then e else 0)) (up M' 93 (41 * d + z) (sat (A d + e))) := by
  have hB' := h.sb hB
  have l : M'.2.1 93 = (11, 246) := by simp [hB'.m_]
  have cd := h.2.2.2 d d0 d1
  have r1 := sat_r cd.1
  have r2 := sat_r e0
  have pl := plusR_ok (M := M') r1.1 r1.2 r2.1 r2.2
  rw [sat_add cd.1 e0] at pl
  refine ⟨by rw [rd_v l (by omega) (by omega), cd.2], pl, wt_v l (by omega) (by omega), by rw [up_2]; exact h.1, fun a w => by rw [up_n w]; exact h.2.1 a w, fun z' c a b n c0 c1 => ?_, fun c c0 c1 => ?_⟩
  · rw [up_1, if_neg (by omega)]; exact h.2.2.1 z' c a b n c0 c1
  · have := h.2.2.2 c c0 c1
    show 0 ≤ A c + (if d = c then e else 0) ∧ (up M' 93 (41 * d + z) (sat (A d + e))).1 93 (41 * c + z) = sat (A c + (if d = c then e else 0))
    by_cases q : d = c
    · subst q
      rw [if_pos rfl, up_1, if_pos ⟨rfl, rfl⟩]
      exact ⟨by omega, rfl⟩
    · rw [if_neg q, up_1, if_neg (by omega)]
      exact ⟨by omega, by rw [show A c + 0 = A c by omega]; exact this.2⟩
def RBL (M : Mem) (z : Int) (t : Int → Int → Int) : Prop := ∀ z' c, 0 ≤ z' → z' < z → 0 ≤ c → c < M.1 73 16 → M.1 93 (41 * c + z') = sat (t z' c)
theorem rc217_lp {M : Mem} {z s x y d : Int} {t : Int → Int → Int} {A : Int → Int} (hB : SB M) (k6 : M.1 73 16 ≤ 6) (hbl : RBL M z t) (tn : ∀ z c, 0 ≤ t z c) (z0 : 1 ≤ z) (z1 : z ≤ 40) (x0 : 0 ≤ x) (x1 : x < M.1 73 16) (y0 : 0 ≤ y) (y1 : y < M.1 73 16) (d0 : 0 ≤ d) (d1 : d < M.1 73 16) (n0 : Int) (k : Mem → Option Mem) (P : Option Mem → Prop) (h2 : ∀ N, RST M z (fun c => A c + (if d = c then prs t z x y else 0)) N → P (k N)) {M0 : Mem} (h0 : RST M z A M0) : P (L_M_countAll_217 k 62 n0 z s x y (41 * d + z) FU 1 M0) := by
  have wz : wr (z - 1) = z - 1 := wr_eq (by omega) (by omega)
  refine lq1 (n := FU) (a := 1) (M := M0) (fun n v M' => L_M_countAll_217 k 62 n0 z s x y (41 * d + z) n v M') (fun v M' => 1 ≤ v ∧ (v ≤ z - 1 ∨ v = 1) ∧ RST M z (fun c => A c + (if d = c then sumN (v - 1).toNat (fun i => t (i + 1) x * t (z - 2 - i) y) else 0)) M') (fun v => (z - v).toNat) P ?_ ⟨Int.le_refl 1, Or.inr rfl, h0.c (fun c _ _ => by rw [show ((1 : Int) - 1).toNat = 0 from rfl]; show A c = A c + (if d = c then 0 else 0); split <;> omega)⟩ (by have := FU_eq; omega)
  intro n v M' ⟨v1, v2, hI⟩ ih
  show P (L_M_countAll_217 k 62 n0 z s x y (41 * d + z) (n + 1) v M')
  have hB' := hI.sb hB
  have g45 : gf M' 62 9 54 45 = some 93 := by simp [gf, hB'.m_]
  have l : M'.2.1 93 = (11, 246) := by simp [hB'.m_]
  have ew : wr (v + 1) = v + 1 := wr_eq (by omega) (by omega)
  rw [L_M_countAll_217]
  dsimp only
  rw [wz]
  by_cases q : z - 1 ≤ v
  · rw [if_pos q]
    refine h2 M' (hI.c (fun c _ _ => ?_))
    unfold prs
    rw [show (v - 1).toNat = (z - 2).toNat by omega]
  · rw [if_neg q]
    have pn := Int.mul_nonneg (tn v x) (tn (z - 1 - v) y)
    generalize hA2 : (fun c => A c + (if d = c then sumN (v - 1).toNat (fun i => t (i + 1) x * t (z - 2 - i) y) else 0)) = A2 at hI
    obtain ⟨e1, e2, e3, e4⟩ := radd' (d := d) (e := t v x * t (z - 1 - v) y) hI hB k6 z0 z1 d0 d1 pn
    have w1 : wr (41 * x) = 41 * x := wr_eq (by omega) (by omega)
    have w2 : wr (41 * x + v) = 41 * x + v := wr_eq (by omega) (by omega)
    have w3 : wr (41 * y) = 41 * y := wr_eq (by omega) (by omega)
    have w4 : wr (41 * y + z) = 41 * y + z := wr_eq (by omega) (by omega)
    have w5 : wr (41 * y + z - 1) = 41 * y + z - 1 := wr_eq (by omega) (by omega)
    have w6 : wr (41 * y + z - 1 - v) = 41 * y + (z - 1 - v) := by rw [wr_eq (by omega) (by omega)]; omega
    have eR1 : rd M' 11 93 (41 * x + v) = some (sat (t v x)) := by rw [rd_v l (by omega) (by omega), hI.2.2.1 v x (by omega) (by omega) (by omega) x0 (by omega), hbl v x (by omega) (by omega) x0 x1]
    have eR2 : rd M' 11 93 (41 * y + (z - 1 - v)) = some (sat (t (z - 1 - v) y)) := by rw [rd_v l (by omega) (by omega), hI.2.2.1 (z - 1 - v) y (by omega) (by omega) (by omega) y0 (by omega), hbl (z - 1 - v) y (by omega) (by omega) y0 y1]
    have r1 := sat_r (tn v x)
    have r2 := sat_r (tn (z - 1 - v) y)
    have tm := timesR_ok (M := M') r1.1 r1.2 r2.1 r2.2
    rw [sat_mul (tn _ _) (tn _ _)] at tm
    simp only [g45, obs, e1, w1, w2, w3, w4, w5, w6, eR1, eR2, tm, e2, e3, ew]
    refine ih (v + 1) _ ⟨by omega, Or.inl (by omega), e4.c (fun c _ _ => ?_)⟩ (by omega)
    rw [← hA2]
    dsimp only
    rw [show (v + 1 - 1).toNat = (v - 1).toNat + 1 by omega, sumN_s, show (((v - 1).toNat : Nat) : Int) = v - 1 by omega, show v - 1 + 1 = v by omega, show z - 2 - (v - 1) = z - 1 - v by omega]
    by_cases w : d = c
    · rw [if_pos w, if_pos w, if_pos w]; omega
    · rw [if_neg w, if_neg w, if_neg w]; omega
theorem rc180_lp {M : Mem} {z s x : Int} {t : Int → Int → Int} {A : Int → Int} (hB : SB M) (hg : SgE M) (hW : MW (M.1 1 1) (rkC M) (mchR M 16)) (hbl : RBL M z t) (tn : ∀ z c, 0 ≤ t z c) (z0 : 1 ≤ z) (z1 : z ≤ 40) (s0 : 0 ≤ s) (s1 : s < M.1 1 1) (x0 : 0 ≤ x) (x1 : x < M.1 73 16) (k : Mem → Option Mem) (P : Option Mem → Prop) (h2 : ∀ N, RST M z (fun c => A c + (if rkC M s = 2 then sumN (M.1 73 16).toNat (fun y => if mT (mchR M 16) s x y = c then prs t z x y else 0) else 0)) N → P (k N)) {M0 : Mem} (h0 : RST M z A M0) : P (L_M_countAll_180 k 62 (M.1 73 16) z s x FU 0 M0) := by
  have k6 : 0 ≤ M.1 73 16 ∧ M.1 73 16 ≤ 6 := hW.1
  have n6 := hg.1.2.1
  have r63 := hg.2.2 s s0 s1
  have rgs := hg.1.rk s
  refine lq1 (n := FU) (a := 0) (M := M0) (fun n v M' => L_M_countAll_180 k 62 (M.1 73 16) z s x n v M') (fun v M' => (0 ≤ v ∧ v ≤ M.1 73 16) ∧ RST M z (fun c => A c + (if rkC M s = 2 then sumN v.toNat (fun y => if mT (mchR M 16) s x y = c then prs t z x y else 0) else 0)) M') (fun v => (M.1 73 16 - v).toNat) P ?_ ⟨⟨Int.le_refl 0, k6.1⟩, h0.c (fun c _ _ => by show A c = A c + (if rkC M s = 2 then 0 else 0); split <;> omega)⟩ (by have := FU_eq; omega)
  intro n v M' ⟨vr, hI⟩ ih
  show P (L_M_countAll_180 k 62 (M.1 73 16) z s x (n + 1) v M')
  have hB' := hI.sb hB
  have g1 : gf M' 62 9 54 1 = some 63 := by simp [gf, hB'.m_]
  have d63 : rd M' 10 63 s = some (rkC M s) := by rw [rd_v (n := 6) (by simp [hB'.m_]) s0 (by omega), hI.2.1 63 (by decide), r63]
  have ck0 : ck M' 62 9 54 = some () := by simp [ck, hB'.m_]
  have ew : wr (v + 1) = v + 1 := wr_eq (by omega) (by omega)
  rw [L_M_countAll_180]
  by_cases q : M.1 73 16 ≤ v
  · simp only [q, if_true, obs]
    exact h2 M' (hI.c (fun c _ _ => by rw [show v = M.1 73 16 by omega]))
  · simp only [q, if_false, g1, obs, d63]
    by_cases r2 : rkC M s = 2
    · simp only [r2, if_true, obs]
      rw [if_neg (by decide)]
      have hA : Arg (rkC M) (M.1 73 16) s x v := argx (fun _ => ⟨x0, x1⟩) (fun _ => ⟨vr.1, by omega⟩) (fun w => by omega) (fun w => by omega)
      have b6 := hA.b6 k6.2
      have st := rstep_ok (M := M') (m := 16) (s := s) (x := x) (y := v) hB' (by decide) ⟨s0, by omega⟩ b6.1 b6.2
      rw [hI.mr] at st
      have rg := hW.2 s x v s0 s1 hA
      have emN : mN (mchR M 16) = M.1 73 16 := rfl
      rw [emN] at rg
      have w1 : wr (41 * mT (mchR M 16) s x v) = 41 * mT (mchR M 16) s x v := wr_eq (by omega) (by omega)
      have w2 : wr (41 * mT (mchR M 16) s x v + z) = 41 * mT (mchR M 16) s x v + z := wr_eq (by omega) (by omega)
      simp only [ck0, obs, st, lt, w1, w2]
      refine rc217_lp hB k6.2 hbl tn z0 z1 x0 x1 vr.1 (by omega) rg.1 rg.2 _ _ P (fun N hN => ?_) hI
      rw [ew]
      refine ih (v + 1) N ⟨⟨by omega, by omega⟩, hN.c (fun c _ _ => ?_)⟩ (by omega)
      rw [if_pos r2, if_pos r2, show (v + 1).toNat = v.toNat + 1 by omega, sumN_s, show ((v.toNat : Nat) : Int) = v by omega]
      omega
    · simp only [r2, if_false, obs, if_true]
      refine h2 M' (hI.c (fun c _ _ => ?_))
      rw [if_neg r2, if_neg r2]
/-- what sign s brings -/
def sgn (rk : Int → Int) (m : Mch) (t : Int → Int → Int) (z s c : Int) : Int := if rk s = 0 then (if z = 1 ∧ mT m s 0 0 = c then 1 else 0) else if rk s = 1 then sumN (mN m).toNat (fun x => if mT m s x 0 = c then t (z - 1) x else 0) else sumN (mN m).toNat (fun x => sumN (mN m).toNat (fun y => if mT m s x y = c then sumN (z - 2).toNat (fun i => t (i + 1) x * t (z - 2 - i) y) else 0))
def xrt (rk : Int → Int) (m : Mch) (t : Int → Int → Int) (z s x c : Int) : Int := if rk s = 1 then (if mT m s x 0 = c then t (z - 1) x else 0) else if rk s = 2 then sumN (mN m).toNat (fun y => if mT m s x y = c then prs t z x y else 0) else 0
theorem rc99_lp {M : Mem} {z s : Int} {t : Int → Int → Int} {A : Int → Int} (hB : SB M) (hg : SgE M) (hW : MW (M.1 1 1) (rkC M) (mchR M 16)) (hbl : RBL M z t) (tn : ∀ z c, 0 ≤ t z c) (t0 : ∀ z c, z ≤ 0 → t z c = 0) (z0 : 1 ≤ z) (z1 : z ≤ 40) (s0 : 0 ≤ s) (s1 : s < M.1 1 1) (k : Mem → Option Mem) (P : Option Mem → Prop) (h2 : ∀ N, RST M z (fun c => A c + sumN (M.1 73 16).toNat (fun x => xrt (rkC M) (mchR M 16) t z s x c)) N → P (k N)) {M0 : Mem} (h0 : RST M z A M0) : P (L_M_countAll_99 k 62 (M.1 73 16) z s FU 0 M0) := by
  have k6 : 0 ≤ M.1 73 16 ∧ M.1 73 16 ≤ 6 := hW.1
  have n6 := hg.1.2.1
  have r63 := hg.2.2 s s0 s1
  have rgs := hg.1.rk s
  refine lq1 (n := FU) (a := 0) (M := M0) (fun n v M' => L_M_countAll_99 k 62 (M.1 73 16) z s n v M') (fun v M' => (0 ≤ v ∧ v ≤ M.1 73 16) ∧ RST M z (fun c => A c + sumN v.toNat (fun x => xrt (rkC M) (mchR M 16) t z s x c)) M') (fun v => (M.1 73 16 - v).toNat) P ?_ ⟨⟨Int.le_refl 0, k6.1⟩, h0.c (fun c _ _ => by show A c = A c + 0; omega)⟩ (by have := FU_eq; omega)
  intro n v M' ⟨vr, hI⟩ ih
  show P (L_M_countAll_99 k 62 (M.1 73 16) z s (n + 1) v M')
  have hB' := hI.sb hB
  have g1 : gf M' 62 9 54 1 = some 63 := by simp [gf, hB'.m_]
  have g45 : gf M' 62 9 54 45 = some 93 := by simp [gf, hB'.m_]
  have l : M'.2.1 93 = (11, 246) := by simp [hB'.m_]
  have d63 : rd M' 10 63 s = some (rkC M s) := by rw [rd_v (n := 6) (by simp [hB'.m_]) s0 (by omega), hI.2.1 63 (by decide), r63]
  have ck0 : ck M' 62 9 54 = some () := by simp [ck, hB'.m_]
  have ew : wr (v + 1) = v + 1 := wr_eq (by omega) (by omega)
  have zz : ∀ (a b : Nat) c, (∀ x : Int, 0 ≤ x → x < M.1 73 16 → xrt (rkC M) (mchR M 16) t z s x c = 0) → (a : Int) ≤ M.1 73 16 → (b : Int) ≤ M.1 73 16 → sumN a (fun x => xrt (rkC M) (mchR M 16) t z s x c) = sumN b (fun x => xrt (rkC M) (mchR M 16) t z s x c) := fun a b c h ha hb => by rw [sumN_z (fun i i0 i1 => h i i0 (by omega)), sumN_z (fun i i0 i1 => h i i0 (by omega))]
  rw [L_M_countAll_99]
  by_cases q : M.1 73 16 ≤ v
  · simp only [q, if_true, obs]
    exact h2 M' (hI.c (fun c _ _ => by rw [show v = M.1 73 16 by omega]))
  · simp only [q, if_false, g1, obs, d63]
    by_cases r0 : rkC M s ≤ 0
    · simp only [r0, if_true, obs]
      refine h2 M' (hI.c (fun c _ _ => ?_))
      rw [zz v.toNat (M.1 73 16).toNat c (fun x _ _ => by unfold xrt; rw [if_neg (by omega), if_neg (by omega)]) (by omega) (by omega)]
    · simp only [r0, if_false, obs]
      by_cases zl : z ≤ 1
      · simp only [zl, if_true, obs]
        refine h2 M' (hI.c (fun c _ _ => ?_))
        rw [zz v.toNat (M.1 73 16).toNat c (fun x _ _ => ?_) (by omega) (by omega)]
        unfold xrt prs
        by_cases r1 : rkC M s = 1
        · rw [if_pos r1, t0 _ _ (by omega)]; split <;> rfl
        · rw [if_neg r1, if_pos (by omega)]
          refine sumN_z (fun y _ _ => ?_)
          rw [show (z - 2).toNat = 0 by omega]
          show (if _ then (0 : Int) else 0) = 0
          split <;> rfl
      · simp only [zl, if_false, obs]
        rw [if_neg (by decide)]
        have sN : ∀ c, sumN (v + 1).toNat (fun x => xrt (rkC M) (mchR M 16) t z s x c) = sumN v.toNat (fun x => xrt (rkC M) (mchR M 16) t z s x c) + xrt (rkC M) (mchR M 16) t z s v c := fun c => by rw [show (v + 1).toNat = v.toNat + 1 by omega, sumN_s, show ((v.toNat : Nat) : Int) = v by omega]
        have rest : ∀ (B : Int → Int) (M1 : Mem), RST M z B M1 → (∀ c, 0 ≤ c → c < M.1 73 16 → B c + (if rkC M s = 2 then sumN (M.1 73 16).toNat (fun y => if mT (mchR M 16) s v y = c then prs t z v y else 0) else 0) = A c + sumN (v + 1).toNat (fun x => xrt (rkC M) (mchR M 16) t z s x c)) → P (L_M_countAll_180 (fun m180 => L_M_countAll_99 k 62 (M.1 73 16) z s n (wr (v + 1)) m180) 62 (M.1 73 16) z s v FU 0 M1) := by
          intro B M1 h1 e
          refine rc180_lp hB hg hW hbl tn z0 z1 s0 s1 vr.1 (by omega) _ P (fun N hN => ?_) h1
          rw [ew]
          exact ih (v + 1) N ⟨⟨by omega, by omega⟩, hN.c e⟩ (by omega)
        by_cases r1 : rkC M s = 1
        · have hA : Arg (rkC M) (M.1 73 16) s v 0 := argx (fun _ => ⟨vr.1, by omega⟩) (fun w => by omega) (fun w => by omega) (fun _ => rfl)
          have b6 := hA.b6 k6.2
          have st := rstep_ok (M := M') (m := 16) (s := s) (x := v) (y := 0) hB' (by decide) ⟨s0, by omega⟩ b6.1 b6.2
          rw [hI.mr] at st
          have rg := hW.2 s v 0 s0 s1 hA
          have emN : mN (mchR M 16) = M.1 73 16 := rfl
          rw [emN] at rg
          have w1 : wr (41 * mT (mchR M 16) s v 0) = 41 * mT (mchR M 16) s v 0 := wr_eq (by omega) (by omega)
          have w2 : wr (41 * mT (mchR M 16) s v 0 + z) = 41 * mT (mchR M 16) s v 0 + z := wr_eq (by omega) (by omega)
          have w3 : wr (41 * v) = 41 * v := wr_eq (by omega) (by omega)
          have w4 : wr (41 * v + z) = 41 * v + z := wr_eq (by omega) (by omega)
          have w5 : wr (41 * v + z - 1) = 41 * v + (z - 1) := by rw [wr_eq (by omega) (by omega)]; omega
          obtain ⟨e1, e2, e3, e4⟩ := radd' (d := mT (mchR M 16) s v 0) (e := t (z - 1) v) hI hB k6.2 z0 z1 rg.1 rg.2 (tn _ _)
          have eR : rd M' 11 93 (41 * v + (z - 1)) = some (sat (t (z - 1) v)) := by rw [rd_v l (by omega) (by omega), hI.2.2.1 (z - 1) v (by omega) (by omega) (by omega) vr.1 (by omega), hbl (z - 1) v (by omega) (by omega) vr.1 (by omega)]
          rw [if_pos r1]
          simp only [ck0, obs, st, lt, w1, w2, g45, e1, w3, w4, w5, eR, e2, e3]
          refine rest _ _ e4 (fun c _ _ => ?_)
          have ex : xrt (rkC M) (mchR M 16) t z s v c = (if mT (mchR M 16) s v 0 = c then t (z - 1) v else 0) := by unfold xrt; rw [if_pos r1]
          rw [sN c, ex, if_neg (show ¬ rkC M s = 2 by omega)]
          omega
        · rw [if_neg r1]
          simp only [obs]
          refine rest _ M' hI (fun c _ _ => ?_)
          have ex : xrt (rkC M) (mchR M 16) t z s v c = (if rkC M s = 2 then sumN (M.1 73 16).toNat (fun y => if mT (mchR M 16) s v y = c then prs t z v y else 0) else 0) := by unfold xrt; rw [if_neg r1]; rfl
          rw [sN c, ex]
          omega
