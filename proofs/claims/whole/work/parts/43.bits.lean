/-! bits of numbers that are not negative -/
theorem nI_of_int (a : Nat) : Int32.ofInt (a : Int) = nI a := Int32.ofInt_eq_ofNat
theorem nI_back {a : Nat} (h : a < 2 ^ 31) : (nI a).toInt = (a : Int) := nI_toInt h
theorem or_lt {a b k : Nat} (ha : a < 2 ^ k) (hb : b < 2 ^ k) : a ||| b < 2 ^ k := Nat.or_lt_two_pow ha hb
theorem xor_lt {a b k : Nat} (ha : a < 2 ^ k) (hb : b < 2 ^ k) : a ^^^ b < 2 ^ k := Nat.xor_lt_two_pow ha hb
theorem and_lt {a b k : Nat} (ha : a < 2 ^ k) : a &&& b < 2 ^ k := Nat.lt_of_le_of_lt Nat.and_le_left ha
theorem iand_n {a b : Nat} (ha : a < 2 ^ 31) : iand a b = ((a &&& b : Nat) : Int) := by
  unfold iand
  rw [nI_of_int, nI_of_int, fa_and, nI_back (and_lt ha)]
theorem ior_n {a b : Nat} (ha : a < 2 ^ 31) (hb : b < 2 ^ 31) : ior a b = ((a ||| b : Nat) : Int) := by
  unfold ior
  rw [nI_of_int, nI_of_int, fa_or, nI_back (or_lt ha hb)]
theorem ixor_n {a b : Nat} (ha : a < 2 ^ 31) (hb : b < 2 ^ 31) : ixor a b = ((a ^^^ b : Nat) : Int) := by
  unfold ixor
  rw [nI_of_int, nI_of_int, fb_xorI, nI_back (xor_lt ha hb)]
theorem sh_am : ∀ n, n < 32 → ((nI n &&& 31).toBitVec.smod 32).toNat = n := by decide
theorem ishl_n {a k : Nat} (hk : k < 32) (h : a * 2 ^ k < 2 ^ 31) : ishl a k = ((a * 2 ^ k : Nat) : Int) := by
  unfold ishl
  rw [nI_of_int, nI_of_int, pk_shlN _ k (sh_am k hk) (by omega), nI_back h]
theorem ishr_n {a k : Nat} (ha : a < 2 ^ 31) (hk : k < 32) : ishr a k = ((a / 2 ^ k : Nat) : Int) := by
  unfold ishr
  rw [nI_of_int, nI_of_int, pk_shrN ha _ k (sh_am k hk), nI_back (Nat.lt_of_le_of_lt (Nat.div_le_self _ _) ha)]
/-- bit i of z -/
def bt (z i : Int) : Prop := z.toNat.testBit i.toNat = true
theorem bt_dec (z i : Int) : bt z i ∨ ¬ bt z i := by unfold bt; cases z.toNat.testBit i.toNat <;> simp
theorem bt_get {z i : Int} (h0 : 0 ≤ z) (h1 : z < 2147483648) (i0 : 0 ≤ i) (i1 : i < 31) : (bt z i ∧ iand (ishr z i) 1 = 1) ∨ (¬ bt z i ∧ iand (ishr z i) 1 = 0) := by
  obtain ⟨a, rfl⟩ : ∃ a : Nat, z = a := ⟨z.toNat, by omega⟩
  obtain ⟨k, rfl⟩ : ∃ k : Nat, i = k := ⟨i.toNat, by omega⟩
  have ha : a < 2 ^ 31 := by omega
  have hk : k < 32 := by omega
  rw [ishr_n ha hk, show (1 : Int) = ((1 : Nat) : Int) from rfl, iand_n (Nat.lt_of_le_of_lt (Nat.div_le_self _ _) ha), Nat.and_one_is_mod]
  unfold bt
  rw [Int.toNat_natCast, Int.toNat_natCast, Nat.testBit_eq_decide_div_mod_eq]
  have : a / 2 ^ k % 2 = 0 ∨ a / 2 ^ k % 2 = 1 := by omega
  rcases this with q | q
  · right; rw [q]; simp
  · left; rw [q]; simp
theorem bt_1 {z i : Int} (h0 : 0 ≤ z) (h1 : z < 2147483648) (i0 : 0 ≤ i) (i1 : i < 31) : iand (ishr z i) 1 = 1 ↔ bt z i := by
  rcases bt_get h0 h1 i0 i1 with ⟨a, b⟩ | ⟨a, b⟩
  · rw [b]; simp [a]
  · rw [b]; simp [a]
theorem bt_0 {z i : Int} (h0 : 0 ≤ z) (h1 : z < 2147483648) (i0 : 0 ≤ i) (i1 : i < 31) : iand (ishr z i) 1 = 0 ↔ ¬ bt z i := by
  rcases bt_get h0 h1 i0 i1 with ⟨a, b⟩ | ⟨a, b⟩
  · rw [b]; simp [a]
  · rw [b]; simp [a]
theorem p2i (k : Nat) : ((2 ^ k : Nat) : Int) = 2 ^ k := by simp
theorem ior_r {z w : Int} {k : Nat} (hk : k ≤ 31) (z0 : 0 ≤ z) (z1 : z < 2 ^ k) (w0 : 0 ≤ w) (w1 : w < 2 ^ k) : 0 ≤ ior z w ∧ ior z w < 2 ^ k := by
  obtain ⟨a, rfl⟩ : ∃ a : Nat, z = a := ⟨z.toNat, by omega⟩
  obtain ⟨b, rfl⟩ : ∃ b : Nat, w = b := ⟨w.toNat, by omega⟩
  have hp : 2 ^ k ≤ 2 ^ 31 := Nat.pow_le_pow_right (by decide) hk
  rw [← p2i] at z1 w1 ⊢
  have ha : a < 2 ^ k := by omega
  have hb : b < 2 ^ k := by omega
  rw [ior_n (by omega) (by omega)]
  have := or_lt ha hb
  omega
theorem bt_or {z w i : Int} (z0 : 0 ≤ z) (z1 : z < 2147483648) (w0 : 0 ≤ w) (w1 : w < 2147483648) : bt (ior z w) i ↔ bt z i ∨ bt w i := by
  obtain ⟨a, rfl⟩ : ∃ a : Nat, z = a := ⟨z.toNat, by omega⟩
  obtain ⟨b, rfl⟩ : ∃ b : Nat, w = b := ⟨w.toNat, by omega⟩
  rw [ior_n (by omega) (by omega)]
  unfold bt
  rw [Int.toNat_natCast, Int.toNat_natCast, Int.toNat_natCast, Nat.testBit_or]
  simp
theorem iand_r {z w : Int} (z0 : 0 ≤ z) (z1 : z < 2147483648) (w0 : 0 ≤ w) : 0 ≤ iand z w ∧ iand z w ≤ z ∧ iand z w ≤ w := by
  obtain ⟨a, rfl⟩ : ∃ a : Nat, z = a := ⟨z.toNat, by omega⟩
  obtain ⟨b, rfl⟩ : ∃ b : Nat, w = b := ⟨w.toNat, by omega⟩
  rw [iand_n (by omega)]
  have h1 : a &&& b ≤ a := Nat.and_le_left
  have h2 : a &&& b ≤ b := Nat.and_le_right
  omega
theorem bt_and {z w i : Int} (z0 : 0 ≤ z) (z1 : z < 2147483648) (w0 : 0 ≤ w) : bt (iand z w) i ↔ bt z i ∧ bt w i := by
  obtain ⟨a, rfl⟩ : ∃ a : Nat, z = a := ⟨z.toNat, by omega⟩
  obtain ⟨b, rfl⟩ : ∃ b : Nat, w = b := ⟨w.toNat, by omega⟩
  rw [iand_n (by omega)]
  unfold bt
  rw [Int.toNat_natCast, Int.toNat_natCast, Int.toNat_natCast, Nat.testBit_and]
  simp
theorem ishl1 {k : Int} (k0 : 0 ≤ k) (k1 : k < 31) : ishl 1 k = 2 ^ k.toNat := by
  obtain ⟨a, rfl⟩ : ∃ a : Nat, k = a := ⟨k.toNat, by omega⟩
  rw [show (1 : Int) = ((1 : Nat) : Int) from rfl, ishl_n (by omega) (by rw [Nat.one_mul]; exact Nat.pow_lt_pow_right (by decide) (by omega)), Nat.one_mul, p2i, Int.toNat_natCast]
theorem pow_r {k j : Nat} (h : k < j) : (0 : Int) ≤ 2 ^ k ∧ (2 : Int) ^ k < 2 ^ j := by
  have := Nat.pow_lt_pow_right (a := 2) (by decide) h
  exact ⟨by rw [← p2i]; exact Int.natCast_nonneg _, by rw [← p2i, ← p2i]; exact Int.ofNat_lt.mpr this⟩
theorem ishl1_r {k : Int} {j : Nat} (k0 : 0 ≤ k) (k1 : k < j) (hj : j ≤ 31) : 0 ≤ ishl 1 k ∧ ishl 1 k < 2 ^ j := by
  rw [ishl1 k0 (by omega)]
  exact pow_r (by omega)
theorem bt_shl {k i : Int} (k0 : 0 ≤ k) (k1 : k < 31) (i0 : 0 ≤ i) : bt (ishl 1 k) i ↔ i = k := by
  rw [ishl1 k0 k1, ← p2i]
  unfold bt
  rw [Int.toNat_natCast, Nat.testBit_two_pow]
  simp
  omega
theorem bt_zero (i : Int) : ¬ bt 0 i := by unfold bt; simp
theorem bt_ext {z w : Int} {k : Nat} (z0 : 0 ≤ z) (z1 : z < 2 ^ k) (w0 : 0 ≤ w) (w1 : w < 2 ^ k) (h : ∀ i : Int, 0 ≤ i → i < k → (bt z i ↔ bt w i)) : z = w := by
  obtain ⟨a, rfl⟩ : ∃ a : Nat, z = a := ⟨z.toNat, by omega⟩
  obtain ⟨b, rfl⟩ : ∃ b : Nat, w = b := ⟨w.toNat, by omega⟩
  rw [← p2i] at z1 w1
  congr 1
  apply Nat.eq_of_testBit_eq
  intro i
  by_cases hi : i < k
  · have := h i (by omega) (by omega)
    unfold bt at this
    rw [Int.toNat_natCast, Int.toNat_natCast, Int.toNat_natCast] at this
    cases h1 : a.testBit i <;> cases h2 : b.testBit i <;> simp_all
  · have hp : 2 ^ k ≤ 2 ^ i := Nat.pow_le_pow_right (by decide) (by omega)
    rw [Nat.testBit_lt_two_pow (by omega), Nat.testBit_lt_two_pow (by omega)]
theorem bt_lt {z i : Int} {k : Nat} (z0 : 0 ≤ z) (z1 : z < 2 ^ k) (h : bt z i) (i0 : 0 ≤ i) : i < k := by
  rcases Int.lt_or_le i k with q | q
  · exact q
  · unfold bt at h
    have hp : 2 ^ k ≤ 2 ^ i.toNat := Nat.pow_le_pow_right (by decide) (by omega)
    rw [← p2i] at z1
    rw [Nat.testBit_lt_two_pow (by omega)] at h
    cases h
theorem bt_ne0 {z : Int} {k : Nat} (z0 : 0 ≤ z) (z1 : z < 2 ^ k) : z ≠ 0 ↔ ∃ i : Int, 0 ≤ i ∧ i < k ∧ bt z i := by
  constructor
  · intro h
    refine Classical.byContradiction fun q => h ?_
    refine bt_ext (k := k) z0 z1 (Int.le_refl 0) (by have := pow_r (k := k) (j := k + 1) (by omega); rw [← p2i]; have := Nat.pow_pos (n := k) (show 0 < 2 by decide); omega) (fun i i0 i1 => ⟨fun b => absurd ⟨i, i0, i1, b⟩ q, fun b => absurd b (bt_zero i)⟩)
  · intro ⟨i, i0, i1, b⟩ e
    rw [e] at b
    exact bt_zero i b
