/-! the size of the tree of a number -/
def nsr (T : Int → Int) : Nat → Int → Int → Option (Int × Int)
  | 0 => fun _ _ => none
  | q + 1 => fun z l => if 40 < z then none else if l < T z then some (z, l) else nsr T q (z + 1) (l - T z)
theorem nsr_f {T : Int → Int} (T0 : ∀ z, 0 ≤ T z) {z' l' : Int} : ∀ (q : Nat) (z l : Int), nsr T q z l = some (z', l') → 0 ≤ l → (z ≤ z' ∧ z' ≤ 40) ∧ (0 ≤ l' ∧ l' ≤ l) ∧ l' < T z' := by
  intro q
  induction q with
  | zero => intro z l e; unfold nsr at e; cases e
  | succ q ih =>
    intro z l e l0
    unfold nsr at e
    by_cases q1 : 40 < z
    · rw [if_pos q1] at e; cases e
    · rw [if_neg q1] at e
      by_cases q2 : l < T z
      · rw [if_pos q2] at e
        simp only [Option.some.injEq, Prod.mk.injEq] at e
        obtain ⟨x1, x2⟩ := e
        subst x1 x2
        exact ⟨⟨Int.le_refl _, by omega⟩, ⟨l0, Int.le_refl _⟩, q2⟩
      · rw [if_neg q2] at e
        have := ih _ _ e (by omega)
        have := T0 z
        omega
/-- the finals' weights and the whole -/
theorem fin_w {n : Int} {rk : Int → Int} {m : Mch} {F : Int → Int} (N0 : 0 ≤ mN m) (hF : ∀ c, 0 ≤ c → c < mN m → F c = 0 ∨ F c = 1) (z : Int) : ssum (mN m).toNat (fun c => sat (kC n rk m z c * F c)) = sat (tot n rk m F z (mN m).toNat) := by
  have e : ∀ c : Int, 0 ≤ c → c < (mN m).toNat → sat (kC n rk m z c * F c) = sat (if F c = 1 then tC n rk m z c else 0) := by
    intro c c0 c1
    rcases hF c c0 (by omega) with w | w
    · rw [w, if_neg (by decide), Int.mul_zero]
    · rw [w, if_pos rfl, Int.mul_one]
      exact sat_ss
  rw [ssum_c e]
  unfold tot
  exact ssum_sat (fun c _ _ => by split; exact tC_nn _ _; exact Int.le_refl 0)
/-- the machine's own counts may have changed -/
def CNQ (M : Mem) (p : Int) (N : Mem) : Prop := N.2 = M.2 ∧ (∀ a, a ≠ p → a ≠ p + 6 → N.1 a = M.1 a) ∧ (∀ j, j ≠ 13 → N.1 p j = M.1 p j)
theorem CNQ.rf (M : Mem) (p : Int) : CNQ M p M := ⟨rfl, fun _ _ _ => rfl, fun _ _ => rfl⟩
theorem CNQ.cn {M N N' : Mem} {p : Int} (h : CNQ M p N) (c : CNT N p N') : CNQ M p N' := ⟨c.1.trans h.1, fun a x y => (c.2.1 a x y).trans (h.2.1 a x y), fun j x => (c.2.2.1 j x).trans (h.2.2 j x)⟩
theorem CNQ.same {M N : Mem} {p : Int} (h : CNQ M p N) (hp : p = 50 ∨ 100 ≤ p) : N.1 1 = M.1 1 ∧ rkC N = rkC M ∧ mch N p = mch M p ∧ fb N p = fb M p := by
  have c1 := h.2.1 1 (by omega) (by omega)
  have c2 := h.2.1 2 (by omega) (by omega)
  have ek := rk_c c1 c2
  refine ⟨c1, ek, mch_c2 ek (h.2.2 10 (by decide)) (h.2.2 11 (by decide)) (fun a _ _ => h.2.1 a (by omega) (by omega)), ?_⟩
  funext c
  unfold fb
  rw [h.2.2 11 (by decide)]
theorem treesQ_ok {M N : Mem} {tc k z : Int} (hI : IB N tc) (k0 : 0 ≤ k) (k1 : k < tc) (hc : CNQ M (102 + 12 * k) N) (h7 : M.1 (100 + 12 * k) 7 = 0) (h12 : M.1 (102 + 12 * k) 12 = 0) (z0 : 1 ≤ z) (z1 : z ≤ 40) : OkV (D_Census_treesOf 60 (102 + 12 * k) z N) (fun r N' => r = sat (tot (M.1 1 1) (rkC M) (mch M (102 + 12 * k)) (fb M (102 + 12 * k)) z (M.1 (102 + 12 * k) 10).toNat) ∧ IB N' tc ∧ CNQ M (102 + 12 * k) N' ∧ ∀ z c, 0 ≤ z → z ≤ 40 → 0 ≤ c → c < M.1 (102 + 12 * k) 10 → N'.1 (102 + 12 * k + 6) (z * 6 + c) = kC (M.1 1 1) (rkC M) (mch M (102 + 12 * k)) z c) := by
  have tg := hI.2.2.2.2.2.2.2.2.2.2 k k0 k1
  have g7 : N.1 (100 + 12 * k) 7 = 0 := by rw [hc.2.1 _ (by omega) (by omega)]; exact h7
  have g12 : N.1 (102 + 12 * k) 12 = 0 := by rw [hc.2.2 12 (by decide)]; exact h12
  obtain ⟨c1, ek, em, ef⟩ := hc.same (by omega)
  obtain ⟨r, N', d, e, hC⟩ := treesOf_ok (z := z) hI.sb hI.sg.1 hI.2.2.1 (TG.mok tg g7 g12) (tg.cv g7 g12) z0 z1
  have hcv := hC.2.2.2.2.2
  rw [c1, ek, em, hc.2.2 10 (by decide)] at hcv
  rw [c1, ek, em, ef, hc.2.2 10 (by decide)] at e
  exact ⟨r, N', d, e, hC.ib' hI k0 k1, hc.cn hC, hcv⟩
/-- where the search for the size ends -/
noncomputable def WHIT (p z l : Int) (M : Mem) : Option (Int × Mem) := (ck M 60 0 4).bind fun _ => (D_Census_weighFinals 60 p M).bind fun x32 => (gf x32 60 0 4 1).bind fun g36 => (pf x32 g36 4 5 4 0).bind fun m40 => (ck m40 60 0 4).bind fun _ => (D_Census_write WF 60 p z 0 l m40).bind fun x50 => (gf x50.2 60 0 4 1).bind fun g55 => (gf x50.2 g55 4 5 4).bind fun g58 => some (g58, x50.2)
theorem wn_lp {M : Mem} {tc k : Int} (k0 : 0 ≤ k) (k1 : k < tc) (h7 : M.1 (100 + 12 * k) 7 = 0) (h12 : M.1 (102 + 12 * k) 12 = 0) (P : Option (Int × Mem) → Prop) (T : Int → Int) (eT : T = fun z => sat (tot (M.1 1 1) (rkC M) (mch M (102 + 12 * k)) (fb M (102 + 12 * k)) z (M.1 (102 + 12 * k) 10).toNat)) (K : Mem → Option (Int × Mem)) : ∀ (q : Nat) (z l : Int) (n1 : Nat) (N : Mem), IB N tc → CNQ M (102 + 12 * k) N → 1 ≤ z → (0 ≤ l ∧ l < FAR) → (41 - z).toNat < q → (41 - z).toNat < n1 → (nsr T q z l = none → ∀ N', IB N' tc → CNQ M (102 + 12 * k) N' → P (K N')) → (∀ z' l' N', nsr T q z l = some (z', l') → IB N' tc → CNQ M (102 + 12 * k) N' → (∀ z c, 0 ≤ z → z ≤ 40 → 0 ≤ c → c < M.1 (102 + 12 * k) 10 → N'.1 (102 + 12 * k + 6) (z * 6 + c) = kC (M.1 1 1) (rkC M) (mch M (102 + 12 * k)) z c) → P (WHIT (102 + 12 * k) z' l' N')) → P (L_Census_writeNumber_6 K 60 (102 + 12 * k) n1 l z N) := by
  have T0 : ∀ z, 0 ≤ T z ∧ T z ≤ FAR := fun z => by rw [eT]; exact sat_r (tot_nn _ _)
  intro q
  induction q with
  | zero => intro z l n1 N _ _ _ _ h; omega
  | succ q ih =>
    intro z l n1 N hI hc z1 lr hq hn1 hno hso
    cases n1 with
    | zero => omega
    | succ n1 =>
    rw [L_Census_writeNumber_6]
    dsimp only
    by_cases qz : 40 < z
    · rw [if_pos qz]
      exact hno (by unfold nsr; rw [if_pos qz]) N hI hc
    · rw [if_neg qz]
      have hB := hI.sb
      have ck0 : ck N 60 0 4 = some () := by simp [ck, hB.c_]
      obtain ⟨r, N', d, e, hI', hc', hk⟩ := treesQ_ok hI k0 k1 hc h7 h12 z1 (show z ≤ 40 by omega)
      have eT' : T z = r := by rw [eT, e]
      rw [ck0, obs, d, obs]
      dsimp only
      by_cases ql : l < r
      · rw [if_neg (fun u => by have := lc_ge.mp u; omega)]
        exact hso z l N' (by unfold nsr; rw [if_neg qz, eT', if_pos ql]) hI' hc' hk
      · rw [if_pos (lc_ge.mpr (by omega))]
        have tz := T0 z
        have wl1 : wl (l - r) = l - r := wl_eq (by rw [FAR_e] at *; omega) (by rw [FAR_e] at *; omega)
        have wz : wr (z + 1) = z + 1 := wr_eq (by omega) (by omega)
        have en : nsr T (q + 1) z l = nsr T q (z + 1) (l - r) := by
          rw [nsr]
          dsimp only
          rw [if_neg qz, eT', if_neg ql]
        rw [wl1, wz]
        unfold lt
        refine ih (z + 1) (l - r) n1 N' hI' hc' (by omega) (by omega) (by omega) (by omega) (fun w => hno (by rw [en]; exact w)) (fun z' l' N'' w => hso z' l' N'' (by rw [en]; exact w))
theorem weighFinals_ok {n : Int} {rk : Int → Int} {m : Mch} {p : Int} {M : Mem} (h : CSt n rk m p M) : OkM (D_Census_weighFinals 60 p M) (fun M' => CWR 0 [] M M' ∧ AtL 0 (mN m) (fb M p) M' ∧ M'.1 60 = M.1 60) := by
  obtain ⟨hW, hr, n6⟩ := h.mw
  have N6 := hW.1
  have hB := h.1.1
  unfold D_Census_weighFinals
  refine lq1 (n := FU) (a := 0) (M := M) (fun n y N => L_Census_weighFinals_2 (fun m2 => some m2) 60 p n y N) (fun y N => (0 ≤ y ∧ y ≤ mN m) ∧ W61 0 6 M N ∧ ∀ c, 0 ≤ c → c < y → N.1 61 (0 * 6 + c) = fb M p c) (fun y => (mN m - y).toNat) (fun o => OkM o (fun M' => CWR 0 [] M M' ∧ AtL 0 (mN m) (fb M p) M' ∧ M'.1 60 = M.1 60)) ?_ ⟨⟨Int.le_refl 0, N6.1⟩, ⟨rfl, fun _ _ => rfl, fun _ _ => rfl⟩, fun y a b => by omega⟩ (by have := FU_eq; omega)
  intro nn y N ⟨yr, hWN, hy⟩ ih
  show OkM (L_Census_weighFinals_2 (fun m2 => some m2) 60 p (nn + 1) y N) _
  have cwN := hWN.cw hB
  have hN := h.c cwN
  have hBN := hWN.sb hB
  have msN := hN.1.2.2.1.1
  have g10 : gf N p 1 14 10 = some (mN m) := by rw [← hN.2.2.2.2]; simp [gf, msN]
  have ckpN : ck N p 1 14 = some () := by simp [ck, msN]
  have fbo := finalBit_ok (c := y) msN
  have p100 := h.1.2.2.1.2.1
  clear msN
  have e11 : iand (ishr (N.1 p 11) y) 1 = fb M p y := by unfold fb; rw [hWN.2.1 p (by omega)]
  rw [e11] at fbo
  have g2N : gf N 60 0 4 2 = some 61 := by simp [gf, hBN.c_]
  have l61N : N.2.1 61 = (11, 246) := by simp [hBN.c_]
  rw [L_Census_weighFinals_2]
  simp only [g10, obs]
  by_cases q : mN m ≤ y
  · rw [if_pos q]
    exact ⟨N, rfl, cwN, fun c c0 c1 => hy c c0 (by omega), hWN.2.1 60 (by decide)⟩
  · rw [if_neg q]
    have eW : wt N 11 61 y (fb M p y) = some (up N 61 y (fb M p y)) := wt_v l61N yr.1 (by omega)
    have ew : wr (y + 1) = y + 1 := wr_eq (by omega) (by omega)
    simp only [g2N, obs, ckpN, fbo, eW, ew]
    refine ih (y + 1) _ ⟨⟨by omega, by omega⟩, ⟨by rw [up_2]; exact hWN.1, fun a q => by rw [up_n q]; exact hWN.2.1 a q, fun i q => by rw [up_1, if_neg (by omega)]; exact hWN.2.2 i q⟩, fun c c0 c1 => ?_⟩ (by omega)
    rw [up_1]
    by_cases qc : c = y
    · rw [if_pos ⟨rfl, by omega⟩, qc]
    · rw [if_neg (by omega)]; exact hy c c0 (by omega)
/-- the class's row is T, its census in some state -/
def SETW (T : List Int) (M M' : Mem) : Prop := M'.2 = M.2 ∧ (∀ a, a ≠ 3 → a ≠ 4 → a ≠ 60 → a ≠ 61 → M'.1 a = M.1 a) ∧ M'.1 4 = wq (M.1 4) 0 T ∧ M'.1 3 4 = ln' T ∧ SB M'
theorem whit_ok {n : Int} {rk : Int → Int} {m : Mch} {p z l c r : Int} {T : List Int} {M : Mem} (h : CSt n rk m p M) (hw : WOK (mN m) (fb M p)) (z2 : z ≤ 40) (lr : 0 ≤ l ∧ l < FAR) (hT : WT n rk m 40 (fb M p) z l c r T) : OkV (WHIT p z l M) (fun r M' => r = ln' T ∧ SETW T M M') := by
  have hB := h.1.1
  have ck0 : ck M 60 0 4 = some () := by simp [ck, hB.c_]
  obtain ⟨M1, d1, c1, a1, -⟩ := weighFinals_ok h
  have h1 := h.c c1
  have hB1 := h1.1.1
  have g1 : gf M1 60 0 4 1 = some 3 := by simp [gf, hB1.c_]
  have p1 : pf M1 3 4 5 4 0 = some (up M1 3 4 0) := by simp [pf, hB1.r_]
  have hB2 : SB (up M1 3 4 0) := SB_up hB1 (by unfold stp; omega)
  have o2 : ∀ a, a ≠ 3 → (up M1 3 4 0).1 a = M1.1 a := fun a q => up_n q
  have e2 : (up M1 3 4 0).2 = M1.2 := up_2 ..
  have z2' : (up M1 3 4 0).1 3 4 = 0 := by rw [up_1, if_pos ⟨rfl, rfl⟩]
  generalize up M1 3 4 0 = M2 at *
  have h2 : CSt n rk m p M2 := by
    have := h1.1.c e2 (fun a q _ _ _ => o2 a q) hB2
    exact ⟨this.1, by rw [this.2.2.2.2]; exact h1.2.1, by rw [this.2.1]; exact h1.2.2.1, by rw [this.2.2.1]; exact h1.2.2.2.1, by rw [this.2.2.2.1]; exact h1.2.2.2.2⟩
  have a2 : AtL 0 (mN m) (fb M p) M2 := fun c x y => by rw [o2 61 (by decide)]; exact a1 c x y
  have tl := hT.ar
  have hlen : ln' T = z := tl.2.2.2
  obtain ⟨c', M3, d3, -, w3, -⟩ := write_ok 40 (N := WF) (lv := 0) h2 hw a2 (Int.le_refl 0) (by omega) lr hT (by rw [WF_eq]; decide) (by omega) (by omega)
  have hB3 := w3.2.2.2.2.2.2.2
  have ck2 : ck M2 60 0 4 = some () := by simp [ck, hB2.c_]
  have g3 : gf M3 60 0 4 1 = some 3 := by simp [gf, hB3.c_]
  have e34 : M3.1 3 4 = ln' T := by rw [w3.2.2.2.2.1, z2']; omega
  have g34 : gf M3 3 4 5 4 = some (ln' T) := by rw [← e34]; simp [gf, hB3.r_]
  unfold WHIT
  rw [ck0, obs, d1, obs, g1, obs, p1, obs, ck2, obs, d3, obs]
  dsimp only
  rw [g3, obs, g34, obs]
  refine OkV.i ⟨rfl, by rw [w3.1, e2, c1.1], fun a x y u v => by rw [w3.2.1 a x y u v, o2 a x, c1.2.1 a x y u v], ?_, e34, hB3⟩
  rw [w3.2.2.2.1, z2', o2 4 (by decide), c1.2.2.2.1]
  rfl
