/-! all the shares of a size together -/
theorem sumN_ml (a : Int) (f : Int → Int) : ∀ (k : Nat), sumN k (fun i => a * f i) = a * sumN k f := by
  intro k
  induction k with
  | zero => exact (Int.mul_zero a).symm
  | succ k ih => rw [sumN_s, sumN_s, ih, Int.mul_add]
theorem sumN_mr (a : Int) (f : Int → Int) (k : Nat) : sumN k (fun i => f i * a) = sumN k f * a := by
  rw [Int.mul_comm, ← sumN_ml]
  exact sumN_c (fun i _ _ => Int.mul_comm _ _)
theorem sumN_f (f : Int → Int) : ∀ (k : Nat), sumN (k + 1) f = f 0 + sumN k (fun i => f (i + 1)) := by
  intro k
  induction k with
  | zero =>
    rw [sumN_s]
    show 0 + f (0 : Nat) = f 0 + 0
    rw [Int.zero_add, Int.add_zero]
    rfl
  | succ k ih =>
    rw [sumN_s, ih, sumN_s, Int.add_assoc]
    congr 1
/-- one class of all takes part -/
theorem sumN_1 {d v : Int} {W : Int → Int} : ∀ {k : Nat}, 0 ≤ d → d < k → sumN k (fun c => (if d = c then v else 0) * W c) = v * W d := by
  intro k
  induction k with
  | zero => intro a b; omega
  | succ k ih =>
    intro a b
    rw [sumN_s]
    by_cases q : d = k
    · rw [sumN_z (fun i i0 i1 => by rw [if_neg (by omega), Int.zero_mul]), if_pos q, q, Int.zero_add]
    · rw [ih a (by omega), if_neg q, Int.zero_mul, Int.add_zero]
theorem ssum_sat {g : Int → Int} : ∀ {k : Nat}, (∀ i : Int, 0 ≤ i → i < k → 0 ≤ g i) → ssum k (fun i => sat (g i)) = sat (sumN k g) := by
  intro k
  induction k with
  | zero => intro _; exact (sat_i (by rw [FAR_e]; decide : (0 : Int) ≤ FAR)).symm
  | succ k ih =>
    intro h
    rw [ssum_s, ih (fun i a b => h i a (by omega)), sumN_s]
    exact sat_add (sumN_nn (fun i a b => h i a (by omega))) (h k (by omega) (by omega))
/-- what all trees of a sign and a size count -/
def shT (rk : Int → Int) (m : Mch) (t : Int → Int → Int) (W : Int → Int) (s z : Int) : Int := if rk s = 0 then (if z = 1 then W (mT m s 0 0) else 0) else if rk s = 1 then sumN (mN m).toNat (fun x => t (z - 1) x * W (mT m s x 0)) else sumN (z - 2).toNat (fun i => sumN (mN m).toNat (fun x => t (i + 1) x * sumN (mN m).toNat (fun y => t (z - 2 - i) y * W (mT m s x y))))
theorem sgn_w {rk : Int → Int} {n : Int} {m : Mch} {t : Int → Int → Int} {W : Int → Int} {s z : Int} (hW : MW n rk m) (hr : 0 ≤ rk s ∧ rk s ≤ 2) (s0 : 0 ≤ s) (s1 : s < n) : sumN (mN m).toNat (fun c => sgn rk m t z s c * W c) = shT rk m t W s z := by
  have N6 := hW.1
  have hA := hW.2 s
  unfold shT sgn
  by_cases q0 : rk s = 0
  · have r := hA 0 0 s0 s1 (argx (fun w => by omega) (fun w => by omega) (fun _ => rfl) (fun _ => rfl))
    simp only [q0, if_true]
    by_cases z1 : z = 1
    · simp only [z1, true_and, if_true]
      rw [sumN_1 r.1 (by omega), Int.one_mul]
    · simp only [z1, false_and, if_false]
      exact sumN_z (fun i _ _ => Int.zero_mul _)
  · simp only [q0, if_false]
    by_cases q1 : rk s = 1
    · simp only [q1, if_true]
      have e : ∀ c, sumN (mN m).toNat (fun x => if mT m s x 0 = c then t (z - 1) x else 0) * W c = sumN (mN m).toNat (fun x => (if mT m s x 0 = c then t (z - 1) x else 0) * W c) := fun c => (sumN_mr (W c) _ _).symm
      rw [sumN_c (fun c _ _ => e c), sumN_sw]
      refine sumN_c (fun x x0 x1 => ?_)
      have r := hA x 0 s0 s1 (argx (fun w => by omega) (fun w => by omega) (fun w => by omega) (fun _ => rfl))
      exact sumN_1 r.1 (by omega)
    · simp only [q1, if_false]
      have e : ∀ c, sumN (mN m).toNat (fun x => sumN (mN m).toNat (fun y => if mT m s x y = c then sumN (z - 2).toNat (fun i => t (i + 1) x * t (z - 2 - i) y) else 0)) * W c = sumN (mN m).toNat (fun x => sumN (mN m).toNat (fun y => (if mT m s x y = c then sumN (z - 2).toNat (fun i => t (i + 1) x * t (z - 2 - i) y) else 0) * W c)) := by
        intro c
        rw [← sumN_mr]
        exact sumN_c (fun x _ _ => (sumN_mr (W c) _ _).symm)
      rw [sumN_c (fun c _ _ => e c), sumN_sw]
      refine Eq.trans ?_ (sumN_sw (fun x i => t (i + 1) x * sumN (mN m).toNat (fun y => t (z - 2 - i) y * W (mT m s x y))) _ _)
      refine sumN_c (fun x x0 x1 => ?_)
      rw [sumN_sw]
      have e2 : ∀ i, t (i + 1) x * sumN (mN m).toNat (fun y => t (z - 2 - i) y * W (mT m s x y)) = sumN (mN m).toNat (fun y => t (i + 1) x * (t (z - 2 - i) y * W (mT m s x y))) := fun i => (sumN_ml _ _ _).symm
      refine Eq.trans ?_ (sumN_c (fun i _ _ => (e2 i).symm))
      refine Eq.trans ?_ (sumN_sw (fun y i => t (i + 1) x * (t (z - 2 - i) y * W (mT m s x y))) _ _)
      refine sumN_c (fun y y0 y1 => ?_)
      have r := hA x y s0 s1 (argx (fun w => by omega) (fun w => by omega) (fun w => by omega) (fun w => by omega))
      rw [sumN_1 r.1 (by omega), ← sumN_mr]
      exact sumN_c (fun i _ _ => Int.mul_assoc _ _ _)
theorem tC_w {n : Int} {rk : Int → Int} {m : Mch} {W : Int → Int} {z : Int} (hW : MW n rk m) (hr : ∀ s, 0 ≤ rk s ∧ rk s ≤ 2) (z1 : 1 ≤ z) (z2 : z ≤ 40) : sumN (mN m).toNat (fun c => tC n rk m z c * W c) = sumN n.toNat (fun s => shT rk m (tC n rk m) W s z) := by
  have e : ∀ c, tC n rk m z c * W c = sumN n.toNat (fun s => sgn rk m (tC n rk m) z s c * W c) := by
    intro c
    rw [tC_eq z1 z2, cf_sgn, ← sumN_mr]
  rw [sumN_c (fun c _ _ => e c), sumN_sw]
  exact sumN_c (fun s s0 s1 => sgn_w hW (hr s) s0 (by omega))
