/-! a new probe -/
theorem bt_xor {z w i : Int} (z0 : 0 ≤ z) (z1 : z < 2147483648) (w0 : 0 ≤ w) (w1 : w < 2147483648) : bt (ixor z w) i ↔ ¬ (bt z i ↔ bt w i) := by
  obtain ⟨a, rfl⟩ : ∃ a : Nat, z = a := ⟨z.toNat, by omega⟩
  obtain ⟨b, rfl⟩ : ∃ b : Nat, w = b := ⟨w.toNat, by omega⟩
  rw [ixor_n (by omega) (by omega)]
  unfold bt
  rw [Int.toNat_natCast, Int.toNat_natCast, Int.toNat_natCast, Nat.testBit_xor]
  cases a.testBit i.toNat <;> cases b.testBit i.toNat <;> simp
theorem ixor_r {z w : Int} {k : Nat} (hk : k ≤ 31) (z0 : 0 ≤ z) (z1 : z < 2 ^ k) (w0 : 0 ≤ w) (w1 : w < 2 ^ k) : 0 ≤ ixor z w ∧ ixor z w < 2 ^ k := by
  obtain ⟨a, rfl⟩ : ∃ a : Nat, z = a := ⟨z.toNat, by omega⟩
  obtain ⟨b, rfl⟩ : ∃ b : Nat, w = b := ⟨w.toNat, by omega⟩
  have hp : 2 ^ k ≤ 2 ^ 31 := Nat.pow_le_pow_right (by decide) hk
  rw [← p2i] at z1 w1 ⊢
  have ha : a < 2 ^ k := by omega
  have hb : b < 2 ^ k := by omega
  rw [ixor_n (by omega) (by omega)]
  have := xor_lt ha hb
  omega
theorem lowestBit_ok {w : Int} (w0 : 0 ≤ w) (w1 : w < 256) (hw : w ≠ 0) (M : Mem) : ∃ p, D_Reducer_lowestBit w M = some (p, M) ∧ 0 ≤ p ∧ p < 8 ∧ bt w p := by
  unfold D_Reducer_lowestBit
  refine lq1 (fun n v M' => L_Reducer_lowestBit_2 (fun w1_2 m2 => some (w1_2, m2)) w n v M') (fun v M' => M' = M ∧ 0 ≤ v ∧ v ≤ 7 ∧ ∀ i, 0 ≤ i → i < v → ¬ bt w i) (fun v => (7 - v).toNat) (fun o => ∃ p, o = some (p, M) ∧ 0 ≤ p ∧ p < 8 ∧ bt w p) ?_ ⟨rfl, Int.le_refl 0, by decide, fun i a b => by omega⟩ (by have := FU_eq; omega)
  intro n v M' ⟨hM, v0, v7, hv⟩ ih
  subst hM
  show ∃ p, L_Reducer_lowestBit_2 (fun w1_2 m2 => some (w1_2, m2)) w (n + 1) v M' = some (p, M') ∧ _
  rw [L_Reducer_lowestBit_2]
  dsimp only
  by_cases h7 : 7 ≤ v
  · rw [if_pos h7]
    refine ⟨v, rfl, v0, by omega, ?_⟩
    obtain ⟨i, i0, i1, hi⟩ := (bt_ne0 (k := 8) w0 (by omega)).mp hw
    by_cases q : i < v
    · exact absurd hi (hv i i0 q)
    · rw [show v = i by omega]; exact hi
  · rw [if_neg h7]
    by_cases hb : iand (ishr w v) 1 = 0
    · rw [if_pos hb, wr_eq (by omega) (by omega)]
      refine ih (v + 1) M' ⟨rfl, by omega, by omega, fun i i0 i1 => ?_⟩ (by omega)
      by_cases q : i = v
      · rw [q]; exact (bt_0 w0 (by omega) v0 (by omega)).mp hb
      · exact hv i i0 (by omega)
    · rw [if_neg hb]
      refine ⟨v, rfl, v0, by omega, Classical.byContradiction fun q => hb ((bt_0 w0 (by omega) v0 (by omega)).mpr q)⟩
/-- the probe p' = pc, made by φ and then asking as probe p -/
theorem newprobe {N M Mx : Mem} (E : Env N) (h : RI1 N M) (hF : Fr N Mx) {pc p : Int} (epc : M.1 10 14 = pc) (p7 : pc ≤ 7) (p0 : 0 ≤ p) (pp : p < pc) (ha : ∀ a, a ≠ 26 + 3 * pc + 1 → a ≠ 26 + 3 * pc + 2 → Mx.1 a = M.1 a) (z1 : Mx.1 (26 + 3 * pc + 1) 0 = 0) (z2 : Mx.1 (26 + 3 * pc + 2) 0 = 0) {φ : Int → Int} (hφ : ∀ z, vs N z → prb Mx pc z = φ z) (hc : ∃ s o, 0 ≤ s ∧ s < N.1 1 1 ∧ ((1 ≤ rkC N s ∧ (2 ≤ rkC N s → RN N o) ∧ ∀ z, vs N z → φ z = dN N s z o) ∨ (2 ≤ rkC N s ∧ RN N o ∧ ∀ z, vs N z → φ z = dN N s o z))) : RI1 N (up (up Mx 19 pc p) 10 14 (pc + 1)) ∧ (∀ a b, mkB (up (up Mx 19 pc p) 10 14 (pc + 1)) a = mkB (up (up Mx 19 pc p) 10 14 (pc + 1)) b → mkB M a = mkB M b) ∧ ∀ z, vs N z → (bt (mkB (up (up Mx 19 pc p) 10 14 (pc + 1)) z) pc ↔ bt (mkB M (φ z)) p) := by
  obtain ⟨hF0, hZ, hPI, hSP⟩ := h
  have hF' : Fr N (up (up Mx 19 pc p) 10 14 (pc + 1)) := (hF.up (by decide) (by decide) (by unfold stp; omega)).up (by decide) (by decide) (by decide)
  have pc1 := hPI.1
  have e19 : ∀ q, q ≠ pc → (up (up Mx 19 pc p) 10 14 (pc + 1)).1 19 q = M.1 19 q := fun q hq => by
    rw [up_n (by decide), up_1, if_neg (by omega), ha 19 (by omega) (by omega)]
  have e19' : (up (up Mx 19 pc p) 10 14 (pc + 1)).1 19 pc = p := by
    rw [up_n (by decide), up_1, if_pos ⟨rfl, rfl⟩]
  have e14 : (up (up Mx 19 pc p) 10 14 (pc + 1)).1 10 14 = pc + 1 := by rw [up_1, if_pos ⟨rfl, rfl⟩]
  have eo : ∀ a, 20 ≤ a → (up (up Mx 19 pc p) 10 14 (pc + 1)).1 a = Mx.1 a := fun a a0 => by rw [up_n (by omega), up_n (by omega)]
  have same : ∀ q, 0 ≤ q → q < M.1 10 14 → (up (up Mx 19 pc p) 10 14 (pc + 1)).1 19 q = M.1 19 q ∧ (up (up Mx 19 pc p) 10 14 (pc + 1)).1 (26 + 3 * q + 1) = M.1 (26 + 3 * q + 1) ∧ (up (up Mx 19 pc p) 10 14 (pc + 1)).1 (26 + 3 * q + 2) = M.1 (26 + 3 * q + 2) := fun q q0 q1 => ⟨e19 q (by omega), by rw [eo _ (by omega), ha _ (by omega) (by omega)], by rw [eo _ (by omega), ha _ (by omega) (by omega)]⟩
  have eprb : ∀ z, vs N z → prb (up (up Mx 19 pc p) 10 14 (pc + 1)) pc z = φ z := fun z v => by
    rw [← hφ z v]
    unfold prb
    rw [eo _ (by omega), eo _ (by omega)]
  have hPI' : PI N (up (up Mx 19 pc p) 10 14 (pc + 1)) := by
    unfold PI
    rw [e14]
    refine ⟨by omega, by omega, fun q q0 q1 => ?_⟩
    by_cases e : q = pc
    · subst e
      obtain ⟨s, o, s0, s1, w⟩ := hc
      refine ⟨by rw [e19']; exact p0, by rw [e19']; exact pp, s, o, s0, s1, ?_⟩
      rcases w with ⟨r1, ro, f⟩ | ⟨r2, ro, f⟩
      · exact Or.inl ⟨r1, ro, fun z v => by rw [eprb z v, f z v]⟩
      · exact Or.inr ⟨r2, ro, fun z v => by rw [eprb z v, f z v]⟩
    · exact (hPI.2.2 q q0 (by omega)).c (same q (by omega) (by omega))
  have gpo : ∀ n q z, q < pc → GP (up (up Mx 19 pc p) 10 14 (pc + 1)) n q z = GP M n q z := fun n q z hq => gp_c same hPI n q z (by omega)
  have ac : acN (up (up Mx 19 pc p) 10 14 (pc + 1)) = acN M := by rw [hF'.ac, hF0.ac]
  refine ⟨⟨hF', ?_, hPI', ?_⟩, fun a b e => ?_, fun z v => ?_⟩
  · intro a a0 a1 a2
    rw [eo _ (by omega), eo _ (by omega)]
    by_cases q : a = 26 + 3 * pc
    · rw [q]; exact ⟨z1, z2⟩
    · rw [ha _ (by omega) (by omega), ha _ (by omega) (by omega)]
      exact hZ a a0 a1 a2
  · have c6 : (up (up Mx 19 pc p) 10 14 (pc + 1)).1 10 6 = M.1 10 6 := by
      rw [up_1, if_neg (by omega), up_1, if_neg (by omega), ha 10 (by omega) (by omega)]
    rw [c6, up_n (by decide), up_n (by decide), up_n (by decide), up_n (by decide), ha 11 (by omega) (by omega), ha 14 (by omega) (by omega)]
    exact hSP
  · obtain ⟨ra, ba⟩ := mkB_b hPI a
    obtain ⟨rb, bb⟩ := mkB_b hPI b
    obtain ⟨-, ba'⟩ := mkB_b hPI' a
    obtain ⟨-, bb'⟩ := mkB_b hPI' b
    refine bt_ext (k := 8) ra.1 ra.2 rb.1 rb.2 (fun q q0 _ => ?_)
    have k1 := ba' q q0
    have k2 := bb' q q0
    rw [← e, ac, e14] at k2
    rw [ac, e14] at k1
    rw [ba q q0, bb q q0, epc]
    constructor
    · intro ⟨x, y⟩
      rw [gpo 8 q a x] at k1
      rw [gpo 8 q b x] at k2
      exact ⟨x, (k2.mp (k1.mpr ⟨by omega, y⟩)).2⟩
    · intro ⟨x, y⟩
      rw [gpo 8 q a x] at k1
      rw [gpo 8 q b x] at k2
      exact ⟨x, (k1.mp (k2.mpr ⟨by omega, y⟩)).2⟩
  · obtain ⟨-, b1⟩ := mkB_b hPI' z
    obtain ⟨-, b2⟩ := mkB_b hPI (φ z)
    rw [b1 pc (by omega), b2 p p0, ac, e14, epc, GP_s, if_neg (by omega), e19', eprb z v, gpo 7 p _ pp, GP_f hPI 7 8 p (φ z) (by omega) (by omega) (by omega)]
    constructor
    · intro ⟨_, y⟩; exact ⟨pp, y⟩
    · intro ⟨_, y⟩; exact ⟨by omega, y⟩
