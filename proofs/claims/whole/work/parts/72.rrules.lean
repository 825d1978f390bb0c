/-! the reference: by rules -/
def RV (N : Mem) (t : Int) : Prop := (0 ≤ t ∧ t < 16) ∧ (0 ≤ N.1 68 t ∧ N.1 68 t ≤ 40) ∧ (1 ≤ N.1 66 t ∧ N.1 66 t ≤ 5) ∧ (0 ≤ N.1 67 t ∧ N.1 67 t < 32) ∧ ∀ i, 0 ≤ i → i < N.1 68 t → (0 ≤ N.1 69 (40 * t + i) ∧ N.1 69 (40 * t + i) < N.1 1 1) ∧ (1 ≤ rkC N (N.1 69 (40 * t + i)) → 0 ≤ N.1 70 (40 * t + i) ∧ N.1 70 (40 * t + i) < N.1 66 t) ∧ (2 ≤ rkC N (N.1 69 (40 * t + i)) → 0 ≤ N.1 71 (40 * t + i) ∧ N.1 71 (40 * t + i) < N.1 66 t) ∧ 0 ≤ N.1 72 (40 * t + i) ∧ N.1 72 (40 * t + i) < N.1 66 t
def Vr (N : Mem) (t s x y i q : Int) : Prop := N.1 69 (40 * t + i) = s ∧ (rkC N s < 1 ∨ bt x (N.1 70 (40 * t + i))) ∧ (rkC N s < 2 ∨ bt y (N.1 71 (40 * t + i))) ∧ q = N.1 72 (40 * t + i)
noncomputable def nx0 (N : Mem) (t : Int) (s x y : Int) : Int := sOf 5 (fun q => ∃ i, (0 ≤ i ∧ i < N.1 68 t) ∧ Vr N t s x y i q)
def fn0 (N : Mem) (t z : Int) : Int := if iand z (N.1 67 t) = 0 then 0 else 1
theorem byRules_ok {N M : Mem} {t s x y : Int} (hB : SB N) (hg : SgE N) (hC : KC N M) (hR : RV N t) (e22 : N.1 62 22 = t) (s0 : 0 ≤ s) (s1 : s < N.1 1 1) (hx : 0 ≤ x ∧ x < 32) (hy : 0 ≤ y ∧ y < 32) : D_M_byRules 62 s x y M = some (nx0 N t s x y, M) := by
  obtain ⟨ht, hr, hst, hf, hv⟩ := hR
  have hBM := hC.sb hB
  have hS := hBM.m_
  have n6 := hg.1.2.1
  have s6 : s < 6 := by omega
  have rk : M.1 63 s = rkC N s := by rw [hC.2.1 63 (by decide) (by decide)]; exact hg.2.2 s s0 s1
  have m22 : M.1 62 22 = t := by rw [hC.2.2 22 (by decide) (by decide)]; exact e22
  have m68 : M.1 68 t = N.1 68 t := by rw [hC.2.1 68 (by decide) (by decide)]
  have m69 : M.1 69 = N.1 69 := hC.2.1 69 (by decide) (by decide)
  have m70 : M.1 70 = N.1 70 := hC.2.1 70 (by decide) (by decide)
  have m71 : M.1 71 = N.1 71 := hC.2.1 71 (by decide) (by decide)
  have m72 : M.1 72 = N.1 72 := hC.2.1 72 (by decide) (by decide)
  have w40 : wr (40 * t) = 40 * t := wr_eq (by omega) (by omega)
  have wr40 : wr (40 * t + N.1 68 t) = 40 * t + N.1 68 t := wr_eq (by omega) (by omega)
  have t16 : t < 16 := ht.2
  unfold D_M_byRules
  simp [-Option.bind_some, -Option.bind_none, gf, pf, rd, wt, ck, ln, lt, bz, nq, up_1, up_2, obs, obn, hS, m22, w40]
  refine lq2 (fun n u v M' => L_M_byRules_12 (fun w4_12 m12 => some (w4_12, m12)) 62 s x y n u v M') (fun z j M' => M' = M ∧ (40 * t ≤ j ∧ j ≤ 40 * t + N.1 68 t) ∧ (0 ≤ z ∧ z < 32) ∧ ∀ q, 0 ≤ q → (bt z q ↔ ∃ i, (0 ≤ i ∧ i < j - 40 * t) ∧ Vr N t s x y i q)) (fun z j => (40 * t + N.1 68 t - j).toNat) (fun o => o = some (nx0 N t s x y, M)) ?_ ⟨rfl, by omega, by decide, fun q _ => ⟨fun w => absurd w (bt_zero q), fun ⟨i, w, _⟩ => by omega⟩⟩ (by have := FU_eq; omega)
  intro n z j M' ⟨hM, ⟨j0, j1⟩, hz, hb⟩ ih
  subst hM
  show L_M_byRules_12 _ 62 s x y (n + 1) z j M' = _
  rw [L_M_byRules_12]
  by_cases hj : 40 * t + N.1 68 t ≤ j
  · simp [-Option.bind_some, -Option.bind_none, gf, pf, rd, wt, ck, ln, lt, bz, nq, up_1, up_2, obs, obn, hS, m22, ht, t16, m68, w40, wr40, hj]
    have : j = 40 * t + N.1 68 t := by omega
    subst this
    refine sOf_u (by decide) hz.1 hz.2 (fun q q0 q1 => ?_)
    rw [hb q q0]
    constructor
    · intro ⟨i, w, v⟩
      exact ⟨i, by omega, v⟩
    · intro ⟨i, w, v⟩
      exact ⟨i, by omega, v⟩
  · have e1 : wr (j + 1) = j + 1 := wr_eq (by omega) (by omega)
    obtain ⟨i, ei⟩ : ∃ i, j = 40 * t + i := ⟨j - 40 * t, by omega⟩
    subst ei
    have ir : 0 ≤ i ∧ i < N.1 68 t := by omega
    have v := hv i ir.1 ir.2
    have x0 : 0 ≤ 40 * t + i := by omega
    have x1 : 40 * t + i < 640 := by omega
    have no : (¬ ∃ q, Vr N t s x y i q) → L_M_byRules_12 (fun w4_12 m12 => some (w4_12, m12)) 62 s x y n z (40 * t + i + 1) M' = some (nx0 N t s x y, M') := fun w => ih z _ M' ⟨rfl, by omega, hz, fun q q0 => by
      rw [hb q q0]
      constructor
      · intro ⟨i', u1, u2⟩
        exact ⟨i', by omega, u2⟩
      · intro ⟨i', u1, u2⟩
        by_cases e : i' = i
        · rw [e] at u2; exact absurd ⟨q, u2⟩ w
        · exact ⟨i', by omega, u2⟩⟩ (by omega)
    have yes : (∀ q, Vr N t s x y i q ↔ q = N.1 72 (40 * t + i)) → L_M_byRules_12 (fun w4_12 m12 => some (w4_12, m12)) 62 s x y n (ior z (ishl 1 (N.1 72 (40 * t + i)))) (40 * t + i + 1) M' = some (nx0 N t s x y, M') := fun w => by
      have r := ishl1_r (j := 5) (k := N.1 72 (40 * t + i)) v.2.2.2.1 (by omega) (by decide)
      refine ih _ _ M' ⟨rfl, by omega, ior_r (k := 5) (by decide) hz.1 hz.2 r.1 r.2, fun q q0 => ?_⟩ (by omega)
      rw [bt_or hz.1 (by omega) r.1 (by have := r.2; omega), bt_shl v.2.2.2.1 (by omega) q0, hb q q0]
      constructor
      · intro u
        rcases u with ⟨i', u1, u2⟩ | u
        · exact ⟨i', by omega, u2⟩
        · exact ⟨i, by omega, (w q).mpr u⟩
      · intro ⟨i', u1, u2⟩
        by_cases e : i' = i
        · rw [e] at u2; exact Or.inr ((w q).mp u2)
        · exact Or.inl ⟨i', by omega, u2⟩
    have zi := ior_0 hz.1 (show z < 2147483648 by omega)
    by_cases q0 : N.1 69 (40 * t + i) = s
    · rw [q0] at v
      by_cases r1 : rkC N s < 1
      · have r2 : rkC N s < 2 := by omega
        have g := yes (fun q => by unfold Vr; exact ⟨fun u => u.2.2.2, fun u => ⟨q0, Or.inl r1, Or.inl r2, u⟩⟩)
        simp [-Option.bind_some, -Option.bind_none, gf, pf, rd, wt, ck, ln, lt, bz, nq, up_1, up_2, obs, obn, hS, m22, ht, t16, m68, w40, wr40, hj, x0, x1, m69, q0, s0, s6, rk, r1, r2, m72, e1]
        exact g
      · have v1 := v.2.1 (by omega)
        by_cases q1 : iand (ishr x (N.1 70 (40 * t + i))) 1 = 1
        · have q1' := (bt_1 hx.1 (by omega) v1.1 (by omega)).mp q1
          by_cases r2 : rkC N s < 2
          · have g := yes (fun q => by unfold Vr; exact ⟨fun u => u.2.2.2, fun u => ⟨q0, Or.inr q1', Or.inl r2, u⟩⟩)
            simp [-Option.bind_some, -Option.bind_none, gf, pf, rd, wt, ck, ln, lt, bz, nq, up_1, up_2, obs, obn, hS, m22, ht, t16, m68, w40, wr40, hj, x0, x1, m69, q0, s0, s6, rk, r1, m70, q1, r2, m72, e1]
            exact g
          · have v2 := v.2.2.1 (by omega)
            by_cases q2 : iand (ishr y (N.1 71 (40 * t + i))) 1 = 1
            · have q2' := (bt_1 hy.1 (by omega) v2.1 (by omega)).mp q2
              have g := yes (fun q => by unfold Vr; exact ⟨fun u => u.2.2.2, fun u => ⟨q0, Or.inr q1', Or.inr q2', u⟩⟩)
              simp [-Option.bind_some, -Option.bind_none, gf, pf, rd, wt, ck, ln, lt, bz, nq, up_1, up_2, obs, obn, hS, m22, ht, t16, m68, w40, wr40, hj, x0, x1, m69, q0, s0, s6, rk, r1, m70, q1, r2, m71, q2, m72, e1]
              exact g
            · have q2' : ¬ bt y (N.1 71 (40 * t + i)) := fun w => q2 ((bt_1 hy.1 (by omega) v2.1 (by omega)).mpr w)
              have g := no (fun ⟨q, u⟩ => by
                rcases u.2.2.1 with w | w
                · exact r2 w
                · exact q2' w)
              simp [-Option.bind_some, -Option.bind_none, gf, pf, rd, wt, ck, ln, lt, bz, nq, up_1, up_2, obs, obn, hS, m22, ht, t16, m68, w40, wr40, hj, x0, x1, m69, q0, s0, s6, rk, r1, m70, q1, r2, m71, q2, zi, e1]
              exact g
        · have q1' : ¬ bt x (N.1 70 (40 * t + i)) := fun w => q1 ((bt_1 hx.1 (by omega) v1.1 (by omega)).mpr w)
          have g := no (fun ⟨q, u⟩ => by
            rcases u.2.1 with w | w
            · exact r1 w
            · exact q1' w)
          simp [-Option.bind_some, -Option.bind_none, gf, pf, rd, wt, ck, ln, lt, bz, nq, up_1, up_2, obs, obn, hS, m22, ht, t16, m68, w40, wr40, hj, x0, x1, m69, q0, s0, s6, rk, r1, m70, q1, zi, e1]
          exact g
    · have g := no (fun ⟨q, u⟩ => q0 u.1)
      simp [-Option.bind_some, -Option.bind_none, gf, pf, rd, wt, ck, ln, lt, bz, nq, up_1, up_2, obs, obn, hS, m22, ht, t16, m68, w40, wr40, hj, x0, x1, m69, q0, zi, e1]
      exact g
theorem ra0 {N : Mem} {t : Int} (h : RC N) (hR : RV N t) (e22 : N.1 62 22 = t) (e20 : N.1 62 20 = 0) : RA N (nx0 N t) (fn0 N t) ∧ ∀ z, RX N (nx0 N t) z → 0 ≤ z ∧ z < 32 := by
  obtain ⟨hB, hg, hBA⟩ := h
  refine RA.mk hB hg (fun z => 0 ≤ z ∧ z < 32) ?_ ?_ ?_ (fun z => by unfold fn0; split <;> simp)
  · intro s x y s0 s1 hx hy hx0 hy0
    have xr : 0 ≤ x ∧ x < 32 := by
      by_cases q : 1 ≤ rkC N s
      · exact hx q
      · have := hx0 q; omega
    have yr : 0 ≤ y ∧ y < 32 := by
      by_cases q : 2 ≤ rkC N s
      · exact hy q
      · have := hy0 q; omega
    refine ⟨fun M hC => ?_, (sOf_b (k := 5) (by decide)).1⟩
    have hBM := hC.sb hB
    have m20 : M.1 62 20 = 0 := by rw [hC.2.2 20 (by decide) (by decide)]; exact e20
    have rs := byRules_ok hB hg hC hR e22 s0 s1 xr yr
    unfold D_M_next
    simp [-Option.bind_some, -Option.bind_none, gf, pf, rd, wt, ck, ln, lt, bz, nq, up_1, up_2, obs, obn, hBM.m_, m20, rs]
  · intro z hz M hC
    have hBM := hC.sb hB
    have m20 : M.1 62 20 = 0 := by rw [hC.2.2 20 (by decide) (by decide)]; exact e20
    have m22 : M.1 62 22 = t := by rw [hC.2.2 22 (by decide) (by decide)]; exact e22
    have m67 : M.1 67 = N.1 67 := hC.2.1 67 (by decide) (by decide)
    have t0 := hR.1.1
    have t16 := hR.1.2
    unfold D_M_isFinal fn0
    by_cases q : iand z (N.1 67 t) = 0
    · simp [-Option.bind_some, -Option.bind_none, gf, pf, rd, wt, ck, ln, lt, bz, nq, up_1, up_2, obs, obn, hBM.m_, m20, m22, t0, t16, m67, q]
    · simp [-Option.bind_some, -Option.bind_none, gf, pf, rd, wt, ck, ln, lt, bz, nq, up_1, up_2, obs, obn, hBM.m_, m20, m22, t0, t16, m67, q]
  · intro z hz
    have hz : 0 ≤ z ∧ z < 32 := hz
    omega
