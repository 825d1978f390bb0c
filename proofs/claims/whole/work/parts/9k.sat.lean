/-! sums that stop at a far number -/
theorem FAR_e : FAR = 1000000000000000000 := rfl
theorem sat_r {z : Int} (h : 0 ≤ z) : 0 ≤ sat z ∧ sat z ≤ FAR := by
  unfold sat
  have := FAR_e
  split <;> omega
theorem sat_i {z : Int} (h : z ≤ FAR) : sat z = z := by
  unfold sat
  split <;> omega
theorem sat_ss {z : Int} : sat (sat z) = sat z := sat_i (by unfold sat; split <;> omega)
theorem sat_add {a b : Int} (a0 : 0 ≤ a) (b0 : 0 ≤ b) : sat (sat a + sat b) = sat (a + b) := by
  unfold sat
  have := FAR_e
  by_cases p : a < FAR
  · rw [if_pos p]
    by_cases q : b < FAR
    · rw [if_pos q]
    · rw [if_neg q, if_neg (by omega), if_neg (by omega)]
  · rw [if_neg p]
    have : ¬ FAR + (if b < FAR then b else FAR) < FAR := by split <;> omega
    rw [if_neg this, if_neg (by omega)]
theorem sat_addl {a b : Int} (a0 : 0 ≤ a) (b0 : 0 ≤ b) : sat (sat a + b) = sat (a + b) := by
  rw [← sat_add (a := sat a) (sat_r a0).1 b0, sat_ss, sat_add a0 b0]
theorem sat_mul {a b : Int} (a0 : 0 ≤ a) (b0 : 0 ≤ b) : sat (sat a * sat b) = sat (a * b) := by
  have f := FAR_e
  by_cases za : a = 0
  · rw [za, show sat 0 = 0 from sat_i (by rw [f]; decide), Int.zero_mul, Int.zero_mul]
  · by_cases zb : b = 0
    · rw [zb, show sat 0 = 0 from sat_i (by rw [f]; decide), Int.mul_zero, Int.mul_zero]
    · by_cases p : a < FAR
      · by_cases q : b < FAR
        · rw [show sat a = a from by unfold sat; rw [if_pos p], show sat b = b from by unfold sat; rw [if_pos q]]
        · have m1 : FAR ≤ a * FAR := by
            have := Int.mul_le_mul_of_nonneg_right (show (1 : Int) ≤ a by omega) (show 0 ≤ FAR by omega)
            omega
          have m2 : FAR ≤ a * b := by
            have := Int.mul_le_mul_of_nonneg_left (show FAR ≤ b by omega) a0
            omega
          rw [show sat a = a from by unfold sat; rw [if_pos p], show sat b = FAR from by unfold sat; rw [if_neg q]]
          unfold sat
          rw [if_neg (by omega), if_neg (by omega)]
      · have sb : 1 ≤ sat b := by unfold sat; split <;> omega
        have m1 : FAR ≤ FAR * sat b := by
          have := Int.mul_le_mul_of_nonneg_left sb (show 0 ≤ FAR by omega)
          omega
        have m2 : FAR ≤ a * b := by
          have h1 := Int.mul_le_mul_of_nonneg_left (show (1 : Int) ≤ b by omega) a0
          omega
        rw [show sat a = FAR from by unfold sat; rw [if_neg p]]
        rw [show sat (FAR * sat b) = FAR from by unfold sat at m1 ⊢; rw [if_neg (by omega)]]
        unfold sat
        rw [if_neg (by omega)]
theorem ldv_v {a b : Int} (a0 : 0 ≤ a) (a1 : a < 9223372036854775808) (b0 : 0 ≤ b) (b1 : b < 9223372036854775808) : ldv a b = a / b := by
  unfold ldv
  rw [Int64.toInt_div, show (Int64.ofInt a).toInt = a from Int64.toInt_ofInt_of_le (by omega) (by omega), show (Int64.ofInt b).toInt = b from Int64.toInt_ofInt_of_le (by omega) (by omega), Int.tdiv_eq_ediv_of_nonneg a0]
  have h0 : 0 ≤ a / b := Int.ediv_nonneg a0 b0
  have h1 : a / b ≤ a := Int.ediv_le_self b a0
  rw [Int.bmod_eq_of_le (by omega) (by omega)]
theorem plusC_ok {M : Mem} {a b : Int} (a0 : 0 ≤ a) (a1 : a ≤ FAR) (b0 : 0 ≤ b) (b1 : b ≤ FAR) : D_Census_plus a b M = some (sat (a + b), M) := by
  have f := FAR_e
  have ew : wl (a + b) = a + b := wl_eq (by omega) (by omega)
  unfold D_Census_plus sat
  rw [ew, f]
  by_cases q : 1000000000000000000 < a + b
  · rw [if_pos q, if_neg (by omega)]
  · rw [if_neg q]
    by_cases p : a + b < 1000000000000000000
    · rw [if_pos p]
    · rw [if_neg p, show a + b = 1000000000000000000 by omega]
theorem plusR_ok {M : Mem} {a b : Int} (a0 : 0 ≤ a) (a1 : a ≤ FAR) (b0 : 0 ≤ b) (b1 : b ≤ FAR) : D_M_plus a b M = some (sat (a + b), M) := by
  have f := FAR_e
  have ew : wl (a + b) = a + b := wl_eq (by omega) (by omega)
  unfold D_M_plus sat
  rw [ew, f]
  by_cases q : a + b ≤ 1000000000000000000
  · rw [if_pos (lc_le.mpr q)]
    by_cases p : a + b < 1000000000000000000
    · rw [if_pos p]
    · rw [if_neg p, show a + b = 1000000000000000000 by omega]
  · rw [if_neg (fun w => q (lc_le.mp w)), if_neg (by omega)]
theorem far_div {a b : Int} (b0 : 0 < b) : a ≤ FAR / b ↔ a * b ≤ FAR := Int.le_ediv_iff_mul_le b0
theorem lc_eq0 {x : Int} : lc x 0 = 0 ↔ x = 0 := by
  unfold lc
  split <;> (try split) <;> omega
theorem timesC_ok {M : Mem} {a b : Int} (a0 : 0 ≤ a) (a1 : a ≤ FAR) (b0 : 0 ≤ b) (b1 : b ≤ FAR) : D_Census_times a b M = some (sat (a * b), M) := by
  have f := FAR_e
  have s0 : sat 0 = 0 := sat_i (by rw [f]; decide)
  unfold D_Census_times
  by_cases za : a = 0
  · rw [if_pos (lc_eq0.mpr za), za, Int.zero_mul, s0]
  · rw [if_neg (fun w => za (lc_eq0.mp w))]
    by_cases zb : b = 0
    · rw [if_pos (lc_eq0.mpr zb), zb, Int.mul_zero, s0]
    · rw [if_neg (fun w => zb (lc_eq0.mp w))]
      have nb : nq b = some () := by simp [nq, zb]
      have dv : ldv 1000000000000000000 b = FAR / b := by rw [← f]; exact ldv_v (by omega) (by omega) b0 (by omega)
      rw [nb, obs, dv]
      by_cases q : a * b ≤ FAR
      · rw [if_pos (lc_le.mpr ((far_div (by omega)).mpr q)), sat_i q, wl_eq (by have := Int.mul_nonneg a0 b0; omega) (by omega)]
      · rw [if_neg (fun w => q ((far_div (by omega)).mp (lc_le.mp w)))]
        unfold sat
        rw [if_neg (by omega), f]
theorem timesR_ok {M : Mem} {a b : Int} (a0 : 0 ≤ a) (a1 : a ≤ FAR) (b0 : 0 ≤ b) (b1 : b ≤ FAR) : D_M_times a b M = some (sat (a * b), M) := by
  have f := FAR_e
  have s0 : sat 0 = 0 := sat_i (by rw [f]; decide)
  unfold D_M_times
  by_cases za : a = 0
  · rw [if_pos (lc_eq0.mpr za), obs, if_pos rfl, za, Int.zero_mul, s0]
  · rw [if_neg (fun w => za (lc_eq0.mp w))]
    by_cases zb : b = 0
    · rw [if_pos (lc_eq0.mpr zb), obs, if_pos rfl, zb, Int.mul_zero, s0]
    · rw [if_neg (fun w => zb (lc_eq0.mp w)), obs, if_neg (by decide)]
      have nb : nq b = some () := by simp [nq, zb]
      have dv : ldv 1000000000000000000 b = FAR / b := by rw [← f]; exact ldv_v (by omega) (by omega) b0 (by omega)
      rw [nb, obs, dv]
      by_cases q : a * b ≤ FAR
      · rw [if_pos (lc_le.mpr ((far_div (by omega)).mpr q)), sat_i q, wl_eq (by have := Int.mul_nonneg a0 b0; omega) (by omega)]
      · rw [if_neg (fun w => q ((far_div (by omega)).mp (lc_le.mp w)))]
        unfold sat
        rw [if_neg (by omega), f]
/-! sums -/
theorem sumN_s (k : Nat) (f : Int → Int) : sumN (k + 1) f = sumN k f + f k := rfl
theorem sumN_nn {f : Int → Int} : ∀ {k : Nat}, (∀ i : Int, 0 ≤ i → i < k → 0 ≤ f i) → 0 ≤ sumN k f := by
  intro k
  induction k with
  | zero => intro _; exact Int.le_refl 0
  | succ k ih =>
    intro h
    rw [sumN_s]
    have := ih (fun i a b => h i a (by omega))
    have := h k (by omega) (by omega)
    omega
theorem sumN_z {f : Int → Int} : ∀ {k : Nat}, (∀ i : Int, 0 ≤ i → i < k → f i = 0) → sumN k f = 0 := by
  intro k
  induction k with
  | zero => intro _; rfl
  | succ k ih => intro h; rw [sumN_s, ih (fun i a b => h i a (by omega)), h k (by omega) (by omega)]; rfl
theorem sumN_add (f g : Int → Int) : ∀ (k : Nat), sumN k (fun i => f i + g i) = sumN k f + sumN k g := by
  intro k
  induction k with
  | zero => rfl
  | succ k ih => rw [sumN_s, sumN_s, sumN_s, ih]; omega
theorem sumN_sw (f : Int → Int → Int) (k : Nat) : ∀ (j : Nat), sumN k (fun x => sumN j (fun s => f x s)) = sumN j (fun s => sumN k (fun x => f x s)) := by
  intro j
  induction j with
  | zero => exact sumN_z (fun _ _ _ => rfl)
  | succ j ih =>
    rw [sumN_s, ← ih, ← sumN_add]
    rfl
theorem sumN_if (P : Prop) [Decidable P] (f : Int → Int) (k : Nat) : sumN k (fun i => if P then f i else 0) = if P then sumN k f else 0 := by
  by_cases q : P
  · rw [if_pos q]; exact sumN_c (fun i _ _ => by rw [if_pos q])
  · rw [if_neg q]; exact sumN_z (fun i _ _ => by rw [if_neg q])
