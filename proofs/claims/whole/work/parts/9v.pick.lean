/-! the pick of a sign and of a first part's size; the tree of a number -/
def kC (n : Int) (rk : Int → Int) (m : Mch) (z c : Int) : Int := sat (tC n rk m z c)
theorem kC_r {n : Int} {rk : Int → Int} {m : Mch} : ∀ z c, 0 ≤ kC n rk m z c ∧ kC n rk m z c ≤ FAR := fun z c => sat_r (tC_nn z c)
theorem kC_0 {n : Int} {rk : Int → Int} {m : Mch} : ∀ c, kC n rk m 0 c = 0 := fun c => by
  unfold kC
  rw [tC_0 (Int.le_refl 0)]
  exact sat_i (by rw [FAR_e]; decide)
def lst (rk : Int → Int) (s z : Int) : Int := if rk s = 0 then 0 else if rk s = 1 then z - 1 else 1
def mst (rk : Int → Int) (s z : Int) : Int := if rk s = 2 then z - 2 else lst rk s z
theorem satN_c {a b : Int → Int} : ∀ {k : Nat}, (∀ i : Int, 0 ≤ i → i < k → 0 ≤ a i ∧ 0 ≤ b i ∧ sat (a i) = sat (b i)) → sat (sumN k a) = sat (sumN k b) := by
  intro k
  induction k with
  | zero => intro _; rfl
  | succ k ih =>
    intro h
    have hk := h k (by omega) (by omega)
    have e := ih (fun i x y => h i x (by omega))
    have na : 0 ≤ sumN k a := sumN_nn (fun i x y => (h i x (by omega)).1)
    have nb : 0 ≤ sumN k b := sumN_nn (fun i x y => (h i x (by omega)).2.1)
    rw [sumN_s, sumN_s, ← sat_add na hk.1, ← sat_add nb hk.2.1, e, hk.2.2]
theorem sat_le {z : Int} : sat z ≤ z := by
  unfold sat
  split <;> omega
theorem sat_w {a w : Int} (a0 : 0 ≤ a) (w0 : 0 ≤ w) (w1 : w ≤ FAR) : sat (sat a * w) = sat (a * w) := by
  have := sat_mul a0 w0
  rw [sat_i w1] at this
  exact this
theorem secP_T {n : Int} {rk : Int → Int} {m : Mch} {W : Int → Int} {s x z : Int} (hw : ∀ y, 0 ≤ y → y < mN m → 0 ≤ W (mT m s x y) ∧ W (mT m s x y) ≤ FAR) (N0 : 0 ≤ mN m) : secP m (kC n rk m) W s x z = sat (sumN (mN m).toNat (fun y => tC n rk m z y * W (mT m s x y))) := by
  unfold secP
  rw [← ssum_sat (fun i i0 i1 => Int.mul_nonneg (tC_nn z i) (hw i i0 (by omega)).1)]
  exact ssum_c (fun i i0 i1 => sat_w (tC_nn z i) (hw i i0 (by omega)).1 (hw i i0 (by omega)).2)
theorem shP_nn {n : Int} {rk : Int → Int} {m : Mch} {W : Int → Int} {s z f : Int} (hW : MW n rk m) (hr : ∀ s, 0 ≤ rk s ∧ rk s ≤ 2) (hw : WOK (mN m) W) (s0 : 0 ≤ s) (s1 : s < n) : 0 ≤ shP rk m (kC n rk m) W s z f ∧ shP rk m (kC n rk m) W s z f ≤ FAR := by
  have rs := hr s
  unfold shP
  split
  · split
    · have r := hW.2 s 0 0 s0 s1 (argx (fun w => by omega) (fun w => by omega) (fun _ => rfl) (fun _ => rfl))
      exact hw _ r.1 r.2
    · rw [FAR_e]; decide
  · exact ssum_r (fun i i0 i1 => (sat_r (Int.mul_nonneg (kC_r _ i).1 (w1P_r hW kC_r hw s0 s1 (by omega) rs.2 i0 (by have := hW.1; omega)).1)).1)
theorem shT_nn {n : Int} {rk : Int → Int} {m : Mch} {W : Int → Int} {s z : Int} (hW : MW n rk m) (hr : ∀ s, 0 ≤ rk s ∧ rk s ≤ 2) (hw : WOK (mN m) W) (s0 : 0 ≤ s) (s1 : s < n) : 0 ≤ shT rk m (tC n rk m) W s z := by
  have rs := hr s
  have N6 := hW.1
  unfold shT
  split
  · split
    · have r := hW.2 s 0 0 s0 s1 (argx (fun w => by omega) (fun w => by omega) (fun _ => rfl) (fun _ => rfl))
      exact (hw _ r.1 r.2).1
    · decide
  · split
    · refine sumN_nn (fun x x0 x1 => Int.mul_nonneg (tC_nn _ _) ?_)
      have r := hW.2 s x 0 s0 s1 (argx (fun w => by omega) (fun w => by omega) (fun w => by omega) (fun _ => rfl))
      exact (hw _ r.1 r.2).1
    · refine sumN_nn (fun i i0 i1 => sumN_nn (fun x x0 x1 => Int.mul_nonneg (tC_nn _ _) (sumN_nn (fun y y0 y1 => Int.mul_nonneg (tC_nn _ _) ?_))))
      have r := hW.2 s x y s0 s1 (argx (fun w => by omega) (fun w => by omega) (fun w => by omega) (fun w => by omega))
      exact (hw _ r.1 r.2).1
theorem shP_T {n : Int} {rk : Int → Int} {m : Mch} {W : Int → Int} {s z : Int} (hW : MW n rk m) (hr : ∀ s, 0 ≤ rk s ∧ rk s ≤ 2) (hw : WOK (mN m) W) (s0 : 0 ≤ s) (s1 : s < n) (z1 : 1 ≤ z) : sat (sumN (mst rk s z - lst rk s z + 1).toNat (fun i => shP rk m (kC n rk m) W s z (lst rk s z + i))) = sat (shT rk m (tC n rk m) W s z) := by
  have rs := hr s
  have N6 := hW.1
  by_cases q0 : rk s = 0
  · have e1 : lst rk s z = 0 := by unfold lst; rw [if_pos q0]
    have e2 : mst rk s z = 0 := by unfold mst; rw [if_neg (by omega), e1]
    rw [e1, e2, show ((0 : Int) - 0 + 1).toNat = 0 + 1 from rfl, sumN_s]
    show sat (0 + shP rk m (kC n rk m) W s z (0 + (0 : Nat))) = _
    rw [Int.zero_add]
    unfold shP shT
    rw [if_pos q0, if_pos q0]
  · by_cases q1 : rk s = 1
    · have e1 : lst rk s z = z - 1 := by unfold lst; rw [if_neg q0, if_pos q1]
      have e2 : mst rk s z = z - 1 := by unfold mst; rw [if_neg (by omega), e1]
      have wx : ∀ x, 0 ≤ x → x < mN m → 0 ≤ W (mT m s x 0) ∧ W (mT m s x 0) ≤ FAR := by
        intro x x0 x1
        have r := hW.2 s x 0 s0 s1 (argx (fun w => by omega) (fun w => by omega) (fun w => by omega) (fun _ => rfl))
        exact hw _ r.1 r.2
      rw [e1, e2, show (z - 1 - (z - 1) + 1).toNat = 0 + 1 by omega, sumN_s]
      show sat (0 + shP rk m (kC n rk m) W s z (z - 1 + (0 : Nat))) = _
      rw [Int.zero_add, show z - 1 + ((0 : Nat) : Int) = z - 1 by omega]
      unfold shP shT
      rw [if_neg q0, if_neg q0, if_pos q1]
      have e3 : ∀ x, w1P rk m (kC n rk m) W s z (z - 1) x = W (mT m s x 0) := fun x => by unfold w1P; rw [if_pos q1]
      rw [ssum_c (g := fun x => sat (tC n rk m (z - 1) x * W (mT m s x 0))) (fun x x0 x1 => by rw [e3]; exact sat_w (tC_nn _ _) (wx x x0 (by omega)).1 (wx x x0 (by omega)).2)]
      rw [ssum_sat (fun x x0 x1 => Int.mul_nonneg (tC_nn _ _) (wx x x0 (by omega)).1), sat_ss]
    · have q2 : rk s = 2 := by omega
      have e1 : lst rk s z = 1 := by unfold lst; rw [if_neg q0, if_neg q1]
      have e2 : mst rk s z = z - 2 := by unfold mst; rw [if_pos q2]
      have wx : ∀ x y, 0 ≤ x → x < mN m → 0 ≤ y → y < mN m → 0 ≤ W (mT m s x y) ∧ W (mT m s x y) ≤ FAR := by
        intro x y x0 x1 y0 y1
        have r := hW.2 s x y s0 s1 (argx (fun w => by omega) (fun w => by omega) (fun w => by omega) (fun w => by omega))
        exact hw _ r.1 r.2
      rw [e1, e2, show (z - 2 - 1 + 1).toNat = (z - 2).toNat by omega]
      unfold shT
      rw [if_neg q0, if_neg q1]
      have g0 : ∀ i x, 0 ≤ x → x < mN m → 0 ≤ sumN (mN m).toNat (fun y => tC n rk m (z - 2 - i) y * W (mT m s x y)) := fun i x x0 x1 => sumN_nn (fun y y0 y1 => Int.mul_nonneg (tC_nn _ _) (wx x y x0 x1 y0 (by omega)).1)
      have g1 : ∀ i, 0 ≤ sumN (mN m).toNat (fun x => tC n rk m (i + 1) x * sumN (mN m).toNat (fun y => tC n rk m (z - 2 - i) y * W (mT m s x y))) := fun i => sumN_nn (fun x x0 x1 => Int.mul_nonneg (tC_nn _ _) (g0 i x x0 (by omega)))
      refine satN_c (fun i i0 i1 => ?_)
      have e4 : shP rk m (kC n rk m) W s z (1 + i) = sat (sumN (mN m).toNat (fun x => tC n rk m (i + 1) x * sumN (mN m).toNat (fun y => tC n rk m (z - 2 - i) y * W (mT m s x y)))) := by
        unfold shP
        rw [if_neg q0, ← ssum_sat (fun x x0 x1 => Int.mul_nonneg (tC_nn _ _) (g0 i x x0 (by omega)))]
        refine ssum_c (fun x x0 x1 => ?_)
        have e3 : w1P rk m (kC n rk m) W s z (1 + i) x = sat (sumN (mN m).toNat (fun y => tC n rk m (z - 2 - i) y * W (mT m s x y))) := by
          unfold w1P
          rw [if_neg q1, secP_T (fun y y0 y1 => wx x y x0 (by omega) y0 y1) N6.1, show z - 1 - (1 + i) = z - 2 - i by omega]
        rw [e3]
        unfold kC
        rw [sat_mul (tC_nn _ _) (g0 i x x0 (by omega)), Int.add_comm 1 i]
      refine ⟨?_, g1 i, ?_⟩
      · rw [e4]; exact (sat_r (g1 i)).1
      · rw [e4, sat_ss]
/-- all shares of a size -/
def shA (n : Int) (rk : Int → Int) (m : Mch) (W : Int → Int) (z s : Int) : Int := sumN (mst rk s z - lst rk s z + 1).toNat (fun i => shP rk m (kC n rk m) W s z (lst rk s z + i))
theorem shA_tot {n : Int} {rk : Int → Int} {m : Mch} {W : Int → Int} {z : Int} (hW : MW n rk m) (hr : ∀ s, 0 ≤ rk s ∧ rk s ≤ 2) (hw : WOK (mN m) W) (z1 : 1 ≤ z) (z2 : z ≤ 40) : ssum (mN m).toNat (fun c => sat (kC n rk m z c * W c)) ≤ sumN n.toNat (shA n rk m W z) := by
  have N6 := hW.1
  have e1 : ssum (mN m).toNat (fun c => sat (kC n rk m z c * W c)) = sat (sumN (mN m).toNat (fun c => tC n rk m z c * W c)) := by
    rw [← ssum_sat (fun c c0 c1 => Int.mul_nonneg (tC_nn _ _) (hw c c0 (by omega)).1)]
    exact ssum_c (fun c c0 c1 => sat_w (tC_nn _ _) (hw c c0 (by omega)).1 (hw c c0 (by omega)).2)
  rw [e1, tC_w hW hr z1 z2]
  have e2 : sat (sumN n.toNat (fun s => shT rk m (tC n rk m) W s z)) = sat (sumN n.toNat (shA n rk m W z)) := by
    refine satN_c (fun s s0 s1 => ⟨shT_nn hW hr hw s0 (by omega), ?_, ?_⟩)
    · exact sumN_nn (fun i _ _ => (shP_nn hW hr hw s0 (by omega)).1)
    · exact (shP_T hW hr hw s0 (by omega) z1).symm
  rw [e2]
  exact sat_le
