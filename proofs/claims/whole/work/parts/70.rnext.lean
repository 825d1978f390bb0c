/-! the reference: what comes next -/
theorem idv_n {a b : Nat} (ha : a < 2 ^ 31) (hb : b < 2 ^ 31) : idv a b = ((a / b : Nat) : Int) := by
  unfold idv
  rw [Int32.toInt_div, Int32.toInt_ofInt_of_le (by omega) (by omega), Int32.toInt_ofInt_of_le (by omega) (by omega)]
  have h : a / b ≤ a := Nat.div_le_self a b
  have e : (a : Int).tdiv b = ((a / b : Nat) : Int) := rfl
  rw [e]
  generalize a / b = c at *
  exact fb_bmod (by omega) (by omega)
theorem irm_n {a b : Nat} (ha : a < 2 ^ 31) (hb : b < 2 ^ 31) : irm a b = ((a % b : Nat) : Int) := by
  have h : a / b ≤ a := Nat.div_le_self a b
  have h2 : a / b * b ≤ a := Nat.div_mul_le_self a b
  have h3 := Nat.mod_add_div a b
  have h4 : a / b * b = b * (a / b) := Nat.mul_comm _ _
  have e0 : (Int32.ofInt (a : Int) / Int32.ofInt (b : Int)).toInt = ((a / b : Nat) : Int) := idv_n ha hb
  have eb : (Int32.ofInt (b : Int)).toInt = b := Int32.toInt_ofInt_of_le (by omega) (by omega)
  have ea : (Int32.ofInt (a : Int)).toInt = a := Int32.toInt_ofInt_of_le (by omega) (by omega)
  have em : (Int32.ofInt (a : Int) / Int32.ofInt (b : Int) * Int32.ofInt (b : Int)).toInt = ((a / b * b : Nat) : Int) := by
    rw [Int32.toInt_mul, e0, eb, ← Int.natCast_mul]
    generalize a / b * b = c at *
    exact fb_bmod (by omega) (by omega)
  unfold irm
  rw [Int32.toInt_sub, em, ea]
  clear em e0
  generalize a / b * b = c at *
  rw [fb_bmod (by omega) (by omega)]
  generalize a % b = d at *
  omega
theorem idv_v {a b : Int} (a0 : 0 ≤ a) (a1 : a < 2147483648) (b0 : 0 ≤ b) (b1 : b < 2147483648) : idv a b = a / b := by
  obtain ⟨m, rfl⟩ : ∃ m : Nat, a = m := ⟨a.toNat, by omega⟩
  obtain ⟨n, rfl⟩ : ∃ n : Nat, b = n := ⟨b.toNat, by omega⟩
  rw [idv_n (by omega) (by omega)]
  simp
theorem irm_v {a b : Int} (a0 : 0 ≤ a) (a1 : a < 2147483648) (b0 : 0 ≤ b) (b1 : b < 2147483648) : irm a b = a % b := by
  obtain ⟨m, rfl⟩ : ∃ m : Nat, a = m := ⟨a.toNat, by omega⟩
  obtain ⟨n, rfl⟩ : ∃ n : Nat, b = n := ⟨b.toNat, by omega⟩
  rw [irm_n (by omega) (by omega)]
  simp
theorem rstep_ok {M : Mem} {m s x y : Int} (hB : SB M) (hm : 0 ≤ m ∧ m ≤ 18) (hs : 0 ≤ s ∧ s < 6) (hx : 0 ≤ x ∧ x < 6) (hy : 0 ≤ y ∧ y < 6) : D_M_step 62 m s x y M = some (mT (mchR M m) s x y, M) := by
  have ei : wr (wr (wr (wr (216 * m) + wr (36 * s)) + wr (6 * x)) + y) = 216 * m + (36 * s + 6 * x + y) := by
    rw [wr_eq (z := 216 * m) (by omega) (by omega), wr_eq (z := 36 * s) (by omega) (by omega), wr_eq (z := 6 * x) (by omega) (by omega), wr_eq (z := 216 * m + 36 * s) (by omega) (by omega), wr_eq (z := 216 * m + 36 * s + 6 * x) (by omega) (by omega), wr_eq (by omega) (by omega)]
    omega
  have i0 : 0 ≤ 216 * m + (36 * s + 6 * x + y) := by omega
  have i1 : 216 * m + (36 * s + 6 * x + y) < 4104 := by omega
  unfold D_M_step
  show _ = some (M.1 74 (216 * m + (36 * s + 6 * x + y)), M)
  simp [-Option.bind_some, -Option.bind_none, gf, pf, rd, wt, ck, ln, lt, bz, nq, up_1, up_2, obs, obn, hB.m_, ei, i0, i1]
theorem KC.mr {N M : Mem} (h : KC N M) (m : Int) : mT (mchR M m) = mT (mchR N m) := by
  funext s x y
  show M.1 74 _ = N.1 74 _
  rw [h.2.1 74 (by decide) (by decide)]
/-- the set of the numbers below k that are so -/
noncomputable def sOf (k : Nat) (B : Int → Prop) : Int := orN k (fun i => @ite Int (B i) (Classical.propDecidable _) (ishl 1 i) 0)
theorem sOf_b {k : Nat} {B : Int → Prop} (hk : k ≤ 31) : (0 ≤ sOf k B ∧ sOf k B < 2 ^ k) ∧ ∀ q, 0 ≤ q → (bt (sOf k B) q ↔ q < k ∧ B q) := by
  unfold sOf
  have w := orN_ok (b := k) hk (k := k) (g := fun i => @ite Int (B i) (Classical.propDecidable _) (ishl 1 i) 0) (by
    intro x x0 x1
    (try dsimp only)
    by_cases q : B x
    · rw [if_pos q]; exact ishl1_r x0 x1 hk
    · rw [if_neg q]
      have hp : (0 : Int) < 2 ^ k := by rw [← p2i]; have := Nat.pow_pos (n := k) (show 0 < 2 by decide); omega
      exact ⟨Int.le_refl 0, hp⟩)
  refine ⟨w.1, fun q q0 => ?_⟩
  rw [w.2 q]
  constructor
  · intro ⟨x, x0, x1, h⟩
    (try dsimp only at h)
    by_cases e : B x
    · rw [if_pos e] at h
      have : q = x := (bt_shl x0 (by omega) q0).mp h
      rw [this]; exact ⟨x1, e⟩
    · rw [if_neg e] at h
      exact absurd h (bt_zero q)
  · intro ⟨h1, h2⟩
    refine ⟨q, q0, h1, ?_⟩
    (try dsimp only)
    rw [if_pos h2]
    exact (bt_shl q0 (by omega) q0).mpr rfl
theorem sOf_u {k : Nat} {B : Int → Prop} (hk : k ≤ 31) {z : Int} (z0 : 0 ≤ z) (z1 : z < 2 ^ k) (h : ∀ q : Int, 0 ≤ q → q < k → (bt z q ↔ B q)) : z = sOf k B := by
  have w := sOf_b (k := k) (B := B) hk
  refine bt_ext z0 z1 w.1.1 w.1.2 (fun i i0 i1 => ?_)
  rw [w.2 i i0, h i i0 i1]
  exact ⟨fun q => ⟨i1, q⟩, fun q => q.2⟩
theorem RA.mk {N : Mem} {nx : Int → Int → Int → Int} {fn : Int → Int} (hB : SB N) (hg : SgE N) (Ty : Int → Prop) (h1 : ∀ s x y, 0 ≤ s → s < N.1 1 1 → (1 ≤ rkC N s → Ty x) → (2 ≤ rkC N s → Ty y) → (¬ 1 ≤ rkC N s → x = 0) → (¬ 2 ≤ rkC N s → y = 0) → (∀ M, KC N M → D_M_next 62 s x y M = some (nx s x y, M)) ∧ Ty (nx s x y)) (h2 : ∀ z, Ty z → ∀ M, KC N M → D_M_isFinal 62 z M = some (fn z, M)) (h3 : ∀ z, Ty z → 0 ≤ z ∧ z < 512) (h4 : ∀ z, fn z = 0 ∨ fn z = 1) : RA N nx fn ∧ ∀ z, RX N nx z → Ty z := by
  have ty : ∀ z, RX N nx z → Ty z := by
    intro z hz
    refine hz Ty ?_
    intro s x y s0 s1 hx hy
    exact (h1 s (if 1 ≤ rkC N s then x else 0) (if 2 ≤ rkC N s then y else 0) s0 s1 (fun q => by rw [if_pos q]; exact hx q) (fun q => by rw [if_pos q]; exact hy q) (fun q => if_neg q) (fun q => if_neg q)).2
  exact ⟨⟨hB, hg, fun M hC s x y s0 s1 hx hy hx0 hy0 => (h1 s x y s0 s1 (fun q => ty x (hx q)) (fun q => ty y (hy q)) hx0 hy0).1 M hC, fun M hC z hz => h2 z (ty z hz) M hC, fun z hz => h3 z (ty z hz), h4⟩, ty⟩
/-! sets of classes -/
def Vb (N : Mem) (s x y a b q : Int) : Prop := (rkC N s < 1 ∨ bt x a) ∧ (rkC N s < 2 ∨ bt y b) ∧ q = mT (mchR N 16) s (if rkC N s < 1 then 0 else a) (if rkC N s < 2 then 0 else b)
theorem bt_ior1 {z c q : Int} (z0 : 0 ≤ z) (z1 : z < 64) (c0 : 0 ≤ c) (c1 : c < 6) (q0 : 0 ≤ q) : bt (ior z (ishl 1 c)) q ↔ bt z q ∨ q = c := by
  have r := ishl1_r (j := 6) c0 (by omega) (by decide)
  rw [bt_or z0 (by omega) r.1 (by have := r.2; omega), bt_shl c0 (by omega) q0]
theorem bs21_lp {N M : Mem} {s x y a z c : Int} (hB : SB N) (hg : SgE N) (hC : KC N M) (hW : MW (N.1 1 1) (rkC N) (mchR N 16)) (ec : N.1 73 16 = c) (s0 : 0 ≤ s) (s1 : s < N.1 1 1) (hx : 0 ≤ x ∧ x < 64) (hy : 0 ≤ y ∧ y < 64) (ha : 0 ≤ a ∧ a < c) (hz : 0 ≤ z ∧ z < 64) (P : Option (Int × Mem) → Prop) (k : Int → Mem → Option (Int × Mem)) (h2 : ∀ z', 0 ≤ z' → z' < 64 → (∀ q, 0 ≤ q → (bt z' q ↔ bt z q ∨ ∃ b, 0 ≤ b ∧ b < c ∧ Vb N s x y a b q)) → P (k z' M)) : P (L_M_bySets_21 k 62 s x y a FU z 0 M) := by
  have hBM := hC.sb hB
  have hS := hBM.m_
  have n6 := hg.1.2.1
  have rg := hg.1.rk s
  have s6 : s < 6 := by omega
  have c6 : 0 ≤ c ∧ c ≤ 6 := by rw [← ec]; exact hW.1
  have rk : M.1 63 s = rkC N s := by rw [hC.2.1 63 (by decide) (by decide)]; exact hg.2.2 s s0 s1
  have e73 : M.1 73 16 = c := by rw [hC.2.1 73 (by decide) (by decide)]; exact ec
  refine lq2 (fun n u v M' => L_M_bySets_21 k 62 s x y a n u v M') (fun z' b M' => M' = M ∧ (0 ≤ b ∧ b ≤ c) ∧ (0 ≤ z' ∧ z' < 64) ∧ ∀ q, 0 ≤ q → (bt z' q ↔ bt z q ∨ ∃ b', 0 ≤ b' ∧ b' < b ∧ Vb N s x y a b' q)) (fun z' b => (c - b).toNat) P ?_ ⟨rfl, ⟨Int.le_refl 0, c6.1⟩, hz, fun q _ => ⟨fun w => Or.inl w, fun w => by
    rcases w with w | ⟨b', b0, b1, -⟩
    · exact w
    · omega⟩⟩ (by have := FU_eq; omega)
  intro n z' b M' ⟨hM, ⟨b0, b1⟩, hz', hb⟩ ih
  subst hM
  show P (L_M_bySets_21 k 62 s x y a (n + 1) z' b M')
  rw [L_M_bySets_21]
  by_cases hbc : c ≤ b
  · simp [-Option.bind_some, -Option.bind_none, gf, pf, rd, wt, ck, ln, lt, bz, nq, up_1, up_2, obs, obn, hS, e73, hbc]
    have : b = c := by omega
    subst this
    exact h2 z' hz'.1 hz'.2 hb
  · have e1 : wr (b + 1) = b + 1 := wr_eq (by omega) (by omega)
    have no : (¬ ∃ q, 0 ≤ q ∧ Vb N s x y a b q) → P (L_M_bySets_21 k 62 s x y a n z' (b + 1) M') := fun w => ih z' (b + 1) M' ⟨rfl, by omega, hz', fun q q0 => by
      rw [hb q q0]
      constructor
      · intro u
        rcases u with u | ⟨b', u0, u1, u2⟩
        · exact Or.inl u
        · exact Or.inr ⟨b', u0, by omega, u2⟩
      · intro u
        rcases u with u | ⟨b', u0, u1, u2⟩
        · exact Or.inl u
        · by_cases e : b' = b
          · rw [e] at u2; exact absurd ⟨q, q0, u2⟩ w
          · exact Or.inr ⟨b', u0, by omega, u2⟩⟩ (by omega)
    have yes : ∀ t, 0 ≤ t → t < 6 → (∀ q, Vb N s x y a b q ↔ q = t) → P (L_M_bySets_21 k 62 s x y a n (ior z' (ishl 1 t)) (b + 1) M') := fun t t0 t6 w => by
      have r := ishl1_r (j := 6) t0 (by omega) (by decide)
      refine ih _ (b + 1) M' ⟨rfl, by omega, ior_r (k := 6) (by decide) hz'.1 hz'.2 r.1 r.2, fun q q0 => ?_⟩ (by omega)
      rw [bt_ior1 hz'.1 hz'.2 t0 t6 q0, hb q q0]
      constructor
      · intro u
        rcases u with (u | ⟨b', u0, u1, u2⟩) | u
        · exact Or.inl u
        · exact Or.inr ⟨b', u0, by omega, u2⟩
        · exact Or.inr ⟨b, b0, by omega, (w q).mpr u⟩
      · intro u
        rcases u with u | ⟨b', u0, u1, u2⟩
        · exact Or.inl (Or.inl u)
        · by_cases e : b' = b
          · rw [e] at u2; exact Or.inr ((w q).mp u2)
          · exact Or.inl (Or.inr ⟨b', u0, by omega, u2⟩)
    have tr : ∀ x' y', Arg (rkC N) c s x' y' → 0 ≤ mT (mchR N 16) s x' y' ∧ mT (mchR N 16) s x' y' < 6 := fun x' y' hA => by
      have := hW.2 s x' y' s0 s1 (by show Arg (rkC N) (N.1 73 16) s x' y'; rw [ec]; exact hA)
      have e : mN (mchR N 16) = c := ec
      omega
    by_cases r1 : rkC N s < 1
    · have r1' : ¬ 1 ≤ rkC N s := by omega
      have r2 : rkC N s < 2 := by omega
      have r2' : ¬ 2 ≤ rkC N s := by omega
      have so := rstep_ok (M := M') (m := 16) (s := s) (x := 0) (y := 0) hBM (by decide) ⟨s0, s6⟩ (by decide) (by decide)
      rw [hC.mr] at so
      have t := tr 0 0 ⟨fun q => by omega, fun _ => rfl, fun q => by omega, fun _ => rfl⟩
      have g := yes _ t.1 t.2 (fun q => by unfold Vb; rw [if_pos r1, if_pos r2]; exact ⟨fun u => u.2.2, fun u => ⟨Or.inl r1, Or.inl r2, u⟩⟩)
      simp [-Option.bind_some, -Option.bind_none, gf, pf, rd, wt, ck, ln, lt, bz, nq, up_1, up_2, obs, obn, hS, e73, hbc, s0, s6, rk, r1, r1', r2, r2', so, e1]
      exact g
    · have r1' : 1 ≤ rkC N s := by omega
      by_cases q1 : iand (ishr x a) 1 = 1
      · have q1' := (bt_1 hx.1 (by omega) ha.1 (by omega)).mp q1
        by_cases r2 : rkC N s < 2
        · have r2' : ¬ 2 ≤ rkC N s := by omega
          have so := rstep_ok (M := M') (m := 16) (s := s) (x := a) (y := 0) hBM (by decide) ⟨s0, s6⟩ (by omega) (by decide)
          rw [hC.mr] at so
          have t := tr a 0 ⟨fun _ => ha, fun q => by omega, fun q => by omega, fun _ => rfl⟩
          have g := yes _ t.1 t.2 (fun q => by unfold Vb; rw [if_neg r1, if_pos r2]; exact ⟨fun u => u.2.2, fun u => ⟨Or.inr q1', Or.inl r2, u⟩⟩)
          simp [-Option.bind_some, -Option.bind_none, gf, pf, rd, wt, ck, ln, lt, bz, nq, up_1, up_2, obs, obn, hS, e73, hbc, s0, s6, rk, r1, r1', q1, r2, r2', so, e1]
          exact g
        · have r2' : 2 ≤ rkC N s := by omega
          by_cases q2 : iand (ishr y b) 1 = 1
          · have q2' := (bt_1 hy.1 (by omega) b0 (by omega)).mp q2
            have so := rstep_ok (M := M') (m := 16) (s := s) (x := a) (y := b) hBM (by decide) ⟨s0, s6⟩ (by omega) (by omega)
            rw [hC.mr] at so
            have t := tr a b ⟨fun _ => ha, fun q => by omega, fun _ => ⟨b0, by omega⟩, fun q => by omega⟩
            have g := yes _ t.1 t.2 (fun q => by unfold Vb; rw [if_neg r1, if_neg r2]; exact ⟨fun u => u.2.2, fun u => ⟨Or.inr q1', Or.inr q2', u⟩⟩)
            simp [-Option.bind_some, -Option.bind_none, gf, pf, rd, wt, ck, ln, lt, bz, nq, up_1, up_2, obs, obn, hS, e73, hbc, s0, s6, rk, r1, r1', q1, r2, r2', q2, so, e1]
            exact g
          · have q2' : ¬ bt y b := fun w => q2 ((bt_1 hy.1 (by omega) b0 (by omega)).mpr w)
            have g := no (fun ⟨q, _, u⟩ => by
              rcases u.2.1 with w | w
              · exact r2 w
              · exact q2' w)
            have zi := ior_0 hz'.1 (show z' < 2147483648 by omega)
            simp [-Option.bind_some, -Option.bind_none, gf, pf, rd, wt, ck, ln, lt, bz, nq, up_1, up_2, obs, obn, hS, e73, hbc, s0, s6, rk, r1, r1', q1, r2, r2', q2, e1, zi]
            exact g
      · have q1' : ¬ bt x a := fun w => q1 ((bt_1 hx.1 (by omega) ha.1 (by omega)).mpr w)
        have g := no (fun ⟨q, _, u⟩ => by
          rcases u.1 with w | w
          · exact r1 w
          · exact q1' w)
        have zi := ior_0 hz'.1 (show z' < 2147483648 by omega)
        simp [-Option.bind_some, -Option.bind_none, gf, pf, rd, wt, ck, ln, lt, bz, nq, up_1, up_2, obs, obn, hS, e73, hbc, s0, s6, rk, r1, r1', q1, e1, zi]
        exact g
/-- what a sign makes of sets of classes -/
noncomputable def bySt (N : Mem) (s x y : Int) : Int := sOf 6 (fun q => ∃ a b, Arg (rkC N) (N.1 73 16) s a b ∧ (1 ≤ rkC N s → bt x a) ∧ (2 ≤ rkC N s → bt y b) ∧ q = mT (mchR N 16) s a b)
theorem bySets_ok {N M : Mem} {s x y : Int} (hB : SB N) (hg : SgE N) (hC : KC N M) (hW : MW (N.1 1 1) (rkC N) (mchR N 16)) (s0 : 0 ≤ s) (s1 : s < N.1 1 1) (hx : 0 ≤ x ∧ x < 64) (hy : 0 ≤ y ∧ y < 64) : D_M_bySets 62 s x y M = some (bySt N s x y, M) := by
  have hBM := hC.sb hB
  have hS := hBM.m_
  have c6 : 0 ≤ N.1 73 16 ∧ N.1 73 16 ≤ 6 := hW.1
  have e73 : M.1 73 16 = N.1 73 16 := by rw [hC.2.1 73 (by decide) (by decide)]
  unfold D_M_bySets
  refine lq2 (fun n u v M' => L_M_bySets_6 (fun w4_6 m6 => some (w4_6, m6)) 62 s x y n u v M') (fun z a M' => M' = M ∧ (0 ≤ a ∧ a ≤ N.1 73 16) ∧ (0 ≤ z ∧ z < 64) ∧ ∀ q, 0 ≤ q → (bt z q ↔ ∃ a' b', (0 ≤ a' ∧ a' < a) ∧ (0 ≤ b' ∧ b' < N.1 73 16) ∧ Vb N s x y a' b' q)) (fun z a => (N.1 73 16 - a).toNat) (fun o => o = some (bySt N s x y, M)) ?_ ⟨rfl, ⟨Int.le_refl 0, c6.1⟩, by decide, fun q _ => ⟨fun w => absurd w (bt_zero q), fun ⟨a', b', w, _⟩ => by omega⟩⟩ (by have := FU_eq; omega)
  intro n z a M' ⟨hM, ⟨a0, a1⟩, hz, hb⟩ ih
  subst hM
  show L_M_bySets_6 _ 62 s x y (n + 1) z a M' = _
  rw [L_M_bySets_6]
  by_cases hac : N.1 73 16 ≤ a
  · simp [-Option.bind_some, -Option.bind_none, gf, pf, rd, wt, ck, ln, lt, bz, nq, up_1, up_2, obs, obn, hS, e73, hac]
    have : a = N.1 73 16 := by omega
    subst this
    refine sOf_u (by decide) hz.1 hz.2 (fun q q0 q1 => ?_)
    rw [hb q q0]
    constructor
    · intro ⟨a', b', ha', hb', v1, v2, v3⟩
      refine ⟨if rkC N s < 1 then 0 else a', if rkC N s < 2 then 0 else b', ⟨fun w => ?_, fun w => ?_, fun w => ?_, fun w => ?_⟩, fun w => ?_, fun w => ?_, v3⟩
      · rw [if_neg (by omega)]; exact ha'
      · rw [if_pos (by omega)]
      · rw [if_neg (by omega)]; exact hb'
      · rw [if_pos (by omega)]
      · rw [if_neg (by omega)]
        rcases v1 with v | v
        · omega
        · exact v
      · rw [if_neg (by omega)]
        rcases v2 with v | v
        · omega
        · exact v
    · intro ⟨a', b', hA, v1, v2, v3⟩
      have cp : 0 < N.1 73 16 := by
        have := hW.2 s a' b' s0 s1 hA
        have e : mN (mchR N 16) = N.1 73 16 := rfl
        omega
      refine ⟨a', b', ?_, ?_, ?_, ?_, ?_⟩
      · by_cases w : 1 ≤ rkC N s
        · exact hA.1 w
        · have := hA.2.1 w; omega
      · by_cases w : 2 ≤ rkC N s
        · exact hA.2.2.1 w
        · have := hA.2.2.2 w; omega
      · by_cases w : 1 ≤ rkC N s
        · exact Or.inr (v1 w)
        · exact Or.inl (by omega)
      · by_cases w : 2 ≤ rkC N s
        · exact Or.inr (v2 w)
        · exact Or.inl (by omega)
      · rw [v3]
        have p1 : (if rkC N s < 1 then 0 else a') = a' := by
          by_cases w : 1 ≤ rkC N s
          · rw [if_neg (by omega)]
          · rw [if_pos (by omega), hA.2.1 w]
        have p2 : (if rkC N s < 2 then 0 else b') = b' := by
          by_cases w : 2 ≤ rkC N s
          · rw [if_neg (by omega)]
          · rw [if_pos (by omega), hA.2.2.2 w]
        rw [p1, p2]
  · have e1 : wr (a + 1) = a + 1 := wr_eq (by omega) (by omega)
    simp [-Option.bind_some, -Option.bind_none, gf, pf, rd, wt, ck, ln, lt, bz, nq, up_1, up_2, obs, obn, hS, e73, hac, e1]
    refine bs21_lp hB hg hC hW rfl s0 s1 hx hy ⟨a0, by omega⟩ hz (fun o => o = some (bySt N s x y, M')) _ (fun z' z0 z1 hz' => ?_)
    refine ih z' (a + 1) M' ⟨rfl, by omega, ⟨z0, z1⟩, fun q q0 => ?_⟩ (by omega)
    rw [hz' q q0, hb q q0]
    constructor
    · intro u
      rcases u with ⟨a', b', u1, u2, u3⟩ | ⟨b', u1, u2, u3⟩
      · exact ⟨a', b', by omega, u2, u3⟩
      · exact ⟨a, b', by omega, ⟨u1, u2⟩, u3⟩
    · intro ⟨a', b', u1, u2, u3⟩
      by_cases e : a' = a
      · rw [e] at u3; exact Or.inr ⟨b', u2.1, u2.2, u3⟩
      · exact Or.inl ⟨a', b', by omega, u2, u3⟩
