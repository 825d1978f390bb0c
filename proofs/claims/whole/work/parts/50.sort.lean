/-! sorting the sets by their marks; the leaves -/
def Fl (N M : Mem) : Prop := RI1 N M ∧ M.1 10 11 = 1 ∧ LgN N
theorem RI1.c {N M M' : Mem} (h : RI1 N M) (hF : Fr N M') (ha : ∀ a, 18 ≤ a → a < 50 → M'.1 a = M.1 a) (e6 : M'.1 10 6 = M.1 10 6) (e14 : M'.1 10 14 = M.1 10 14) (c11 : M'.1 11 = M.1 11) (c14 : M'.1 14 = M.1 14) : RI1 N M' ∧ mkB M' = mkB M := by
  obtain ⟨hF0, hZ, hPI, hSP⟩ := h
  have pq : Pq M M' := Pq.of hPI (by rw [hF.c8, hF0.c8]) e14 (ha 19 (by decide) (by decide)) (fun a a0 a1 => ha a (by omega) a1)
  refine ⟨⟨hF, ?_, pq.pi hPI, ?_⟩, funext fun w => pq.mk hPI w⟩
  · intro p p0 p1 p2
    rw [ha (p + 1) (by omega) (by omega), ha (p + 2) (by omega) (by omega)]
    exact hZ p p0 p1 p2
  · rw [e6, c11, c14]
    exact hSP
def SI (N M : Mem) (c : Int) (M' : Mem) : Prop := 0 ≤ c ∧ c ≤ M.1 10 6 ∧ RI1 N M' ∧ KPm N M' c ∧ M'.1 10 11 = 0 ∧ M'.1 10 14 = M.1 10 14 ∧ M'.1 10 6 = M.1 10 6 ∧ M'.1 11 = M.1 11 ∧ M'.1 17 = M.1 17 ∧ mkB M' = mkB M
theorem sort_lp {N M : Mem} (E : Env N) (P : Option (Int × Mem) → Prop) (k : Mem → Option (Int × Mem)) (h1 : ∀ M', Fl N M' → P (some (0, M'))) (h2 : ∀ M', SI N M (M.1 10 6) M' → P (k M')) {M1 : Mem} (hI : SI N M 0 M1) : P (L_Reducer_sortKinds_7 k 10 FU 0 M1) := by
  have r384 := hI.2.2.1.2.2.2.1
  rw [hI.2.2.2.2.2.2.1] at r384
  refine lq1 (fun n v M' => L_Reducer_sortKinds_7 k 10 n v M') (fun v M' => SI N M v M') (fun v => (M.1 10 6 - v).toNat) P ?_ hI (by have := FU_eq; omega)
  intro n c M' hI ih
  show P (L_Reducer_sortKinds_7 k 10 (n + 1) c M')
  have hI0 := hI
  obtain ⟨c0, c1, hR, hK, e11, e14, e6, s11, s17, hmk⟩ := hI
  have hS := hR.1.1.d_
  rw [L_Reducer_sortKinds_7]
  by_cases hc : M.1 10 6 ≤ c
  · simp [-Option.bind_some, -Option.bind_none, gf, pf, rd, wt, ck, ln, lt, bz, nq, up_1, up_2, obs, obn, hS, e6, hc]
    have : c = M.1 10 6 := by omega
    subst this
    exact h2 M' hI0
  · have c384 : c < 384 := by omega
    have hc' : ¬ M'.1 10 6 ≤ c := by omega
    have hz : RN N (M'.1 11 c) := (hR.2.2.2.2.1 c c0 (by omega)).1
    have hm := marksOf_ok hR.1 E.1 E.2.1 hR.2.2.1 (E.ty hz)
    have e1 : wr (c + 1) = c + 1 := wr_eq (by omega) (by omega)
    have hF1 : Fr N (up M' 12 c (mkB M' (M'.1 11 c))) := hR.1.up (by decide) (by decide) (by unfold stp; omega)
    have hk0 := hK.1
    obtain ⟨r, M2, ek, hk⟩ := kindWith_ok hF1.1.d_ (kc := M'.1 10 10) (bits := mkB M' (M'.1 11 c)) (z := M'.1 11 c) (by simp [-Option.bind_some, -Option.bind_none, gf, pf, rd, wt, ck, ln, lt, bz, nq, up_1, up_2, obs, obn]) hk0.1 hk0.2
    rcases hk with ⟨k0, k1, hM, kb⟩ | ⟨hkn, ⟨k6, kr, hM⟩ | ⟨k6, kr, hM⟩⟩
    · subst hM
      have nr : ¬ r = -1 := by omega
      simp [-Option.bind_some, -Option.bind_none, gf, pf, rd, wt, ck, ln, lt, bz, nq, up_1, up_2, obs, obn, hS, hc', c0, c384, hm, ek, nr, e1]
      have w := hR.c (M' := up (up M' 12 c (mkB M' (M'.1 11 c))) 13 c r) (hF1.up (by decide) (by decide) (by unfold stp; omega)) (fun a a0 a1 => by rw [up_n (by omega), up_n (by omega)]) (by simp [-Option.bind_some, -Option.bind_none, gf, pf, rd, wt, ck, ln, lt, bz, nq, up_1, up_2, obs, obn]) (by simp [-Option.bind_some, -Option.bind_none, gf, pf, rd, wt, ck, ln, lt, bz, nq, up_1, up_2, obs, obn]) (by simp [up_f]) (by simp [up_f])
      refine ih (c + 1) _ ⟨by omega, by omega, w.1, ?_, by simp [-Option.bind_some, -Option.bind_none, gf, pf, rd, wt, ck, ln, lt, bz, nq, up_1, up_2, obs, obn, e11], by simp [-Option.bind_some, -Option.bind_none, gf, pf, rd, wt, ck, ln, lt, bz, nq, up_1, up_2, obs, obn, e14], by simp [-Option.bind_some, -Option.bind_none, gf, pf, rd, wt, ck, ln, lt, bz, nq, up_1, up_2, obs, obn, e6], by simp [up_f, s11], by simp [up_f, s17], w.2.trans hmk⟩ (by omega)
      have q := hK.old (S' := M'.1 11) (z := M'.1 11 c) k0 k1 (by simpa [up_1] using kb) (fun i i0 i1 => rfl) rfl
      unfold KPm
      rw [w.2]
      simpa [up_f, up_1, ud_a] using q
    · subst hM
      subst kr
      have nr : ¬ M'.1 10 10 = -1 := by omega
      simp [-Option.bind_some, -Option.bind_none, gf, pf, rd, wt, ck, ln, lt, bz, nq, up_1, up_2, obs, obn, hS, hc', c0, c384, hm, ek, nr, e1]
      have w := hR.c (M' := up (up (up (up (up M' 12 c (mkB M' (M'.1 11 c))) 16 (M'.1 10 10) (mkB M' (M'.1 11 c))) 15 (M'.1 10 10) (M'.1 11 c)) 10 10 (M'.1 10 10 + 1)) 13 c (M'.1 10 10)) ((((hF1.up (by decide) (by decide) (by unfold stp; omega)).up (by decide) (by decide) (by unfold stp; omega)).up (by decide) (by decide) (by decide)).up (by decide) (by decide) (by unfold stp; omega)) (fun a a0 a1 => by rw [up_n (by omega), up_n (by omega), up_n (by omega), up_n (by omega), up_n (by omega)]) (by simp [-Option.bind_some, -Option.bind_none, gf, pf, rd, wt, ck, ln, lt, bz, nq, up_1, up_2, obs, obn]) (by simp [-Option.bind_some, -Option.bind_none, gf, pf, rd, wt, ck, ln, lt, bz, nq, up_1, up_2, obs, obn]) (by simp [up_f]) (by simp [up_f])
      refine ih (c + 1) _ ⟨by omega, by omega, w.1, ?_, by simp [-Option.bind_some, -Option.bind_none, gf, pf, rd, wt, ck, ln, lt, bz, nq, up_1, up_2, obs, obn, e11], by simp [-Option.bind_some, -Option.bind_none, gf, pf, rd, wt, ck, ln, lt, bz, nq, up_1, up_2, obs, obn, e14], by simp [-Option.bind_some, -Option.bind_none, gf, pf, rd, wt, ck, ln, lt, bz, nq, up_1, up_2, obs, obn, e6], by simp [up_f, s11], by simp [up_f, s17], w.2.trans hmk⟩ (by omega)
      have q := hK.new (S' := M'.1 11) (z := M'.1 11 c) hz k6 (by simpa [up_1] using hkn) (fun i i0 i1 => rfl) rfl
      unfold KPm
      rw [w.2]
      simpa [up_f, up_1, ud_a] using q
    · subst hM
      subst kr
      simp [-Option.bind_some, -Option.bind_none, gf, pf, rd, wt, ck, ln, lt, bz, nq, up_1, up_2, obs, obn, hS, hc', c0, c384, hm, ek]
      refine h1 _ ?_
      have w := hR.c (M' := up (up (up M' 12 c (mkB M' (M'.1 11 c))) 10 11 1) 13 c (-1)) ((hF1.up (by decide) (by decide) (by decide)).up (by decide) (by decide) (by unfold stp; omega)) (fun a a0 a1 => by rw [up_n (by omega), up_n (by omega), up_n (by omega)]) (by simp [-Option.bind_some, -Option.bind_none, gf, pf, rd, wt, ck, ln, lt, bz, nq, up_1, up_2, obs, obn]) (by simp [-Option.bind_some, -Option.bind_none, gf, pf, rd, wt, ck, ln, lt, bz, nq, up_1, up_2, obs, obn]) (by simp [up_f]) (by simp [up_f])
      refine ⟨w.1, by simp [-Option.bind_some, -Option.bind_none, gf, pf, rd, wt, ck, ln, lt, bz, nq, up_1, up_2, obs, obn], ?_⟩
      exact hK.lg (fun z h => h) (fun a b ra rb i => ind_mk hR.1 hR.2.2.1 E.1 E.2.1 (E.ty ra) (E.ty rb) i) k6 hz (by simpa [up_1] using hkn)
theorem sort_ok {N M : Mem} {m : Nat} (E : Env N) (hR : RI1 N M) (h11 : M.1 10 11 = 0) (h14 : M.1 10 14 = m + 1) (hW : Wd (mkB M) (M.1 10 6) (M.1 11) m) (hT : ∀ i, 0 ≤ i → i < 216 → M.1 17 i = -1) : OkV (D_Reducer_sortKinds 10 M) (fun t M' => (t = 0 ∧ Fl N M') ∨ (t = 1 ∧ RR N m (fun _ _ _ => False) M')) := by
  unfold D_Reducer_sortKinds
  simp [-Option.bind_some, -Option.bind_none, gf, pf, rd, wt, ck, ln, lt, bz, nq, up_1, up_2, obs, obn, hR.1.1.d_]
  have w := hR.c (M' := up M 10 10 0) (hR.1.up (by decide) (by decide) (by decide)) (fun a a0 a1 => up_n (by omega)) (by simp [-Option.bind_some, -Option.bind_none, gf, pf, rd, wt, ck, ln, lt, bz, nq, up_1, up_2, obs, obn]) (by simp [-Option.bind_some, -Option.bind_none, gf, pf, rd, wt, ck, ln, lt, bz, nq, up_1, up_2, obs, obn]) (by simp [up_f]) (by simp [up_f])
  refine sort_lp (M := M) E (fun o => OkV o (fun t M' => (t = 0 ∧ Fl N M') ∨ (t = 1 ∧ RR N m (fun _ _ _ => False) M'))) _ (fun M' h => OkV.i (Or.inl ⟨rfl, h⟩)) (fun M' h => OkV.i (Or.inr ⟨rfl, ?_⟩)) ⟨Int.le_refl 0, hR.2.2.2.1.1, w.1, ?_, by simp [-Option.bind_some, -Option.bind_none, gf, pf, rd, wt, ck, ln, lt, bz, nq, up_1, up_2, obs, obn, h11], by simp [-Option.bind_some, -Option.bind_none, gf, pf, rd, wt, ck, ln, lt, bz, nq, up_1, up_2, obs, obn], by simp [-Option.bind_some, -Option.bind_none, gf, pf, rd, wt, ck, ln, lt, bz, nq, up_1, up_2, obs, obn], by simp [up_f], by simp [up_f], w.2⟩
  · obtain ⟨c0, c1, hR', hK, e11, e14, e6, s11, s17, hmk⟩ := h
    refine ⟨hR', by rw [e6]; exact hK, ⟨fun s k1 k2 s0 s1 a0 a1 b0 b1 => Or.inl ?_, fun s x y _ _ f => f.elim⟩, e11, by rw [e14]; exact h14, ?_⟩
    · rw [s17]
      have hs : s < 6 := by have := E.2.1.2.1; omega
      have c := cel_r (r := rkC N s) (k1 := k1) (k2 := k2) ⟨s0, hs⟩ (fun _ => ⟨a0, a1⟩) (fun _ => ⟨b0, b1⟩)
      exact hT _ c.1 c.2
    · rw [← hmk, ← s11] at hW
      exact hW.le hK
  · have : (up M 10 10 0).1 10 10 = 0 := by simp [-Option.bind_some, -Option.bind_none, gf, pf, rd, wt, ck, ln, lt, bz, nq, up_1, up_2, obs, obn]
    unfold KPm
    rw [this]
    exact KP.z _ _ _ _ _ _ _
/-! what the leaves are -/
def PdL (N : Mem) (v : Int) : Int → Int → Int → Prop := fun s _ _ => rkC N s = 0 ∧ s < v
theorem leaf_rn {N : Mem} {s : Int} (s0 : 0 ≤ s) (s1 : s < N.1 1 1) (r0 : rkC N s = 0) : RN N (N.1 9 (s * 144)) := by
  have := Rch.mk (n := N.1 1 1) (rk := rkC N) (δ := dN N) (x := 0) (y := 0) s0 s1 (fun q => by omega) (fun q => by omega)
  have e : dN N s 0 0 = N.1 9 (s * 144) := by
    unfold dN
    rw [if_pos (by omega)]
  rwa [e] at this
theorem leaf_dn {N : Mem} {s x y : Int} (r0 : rkC N s = 0) : dN N s x y = N.1 9 (s * 144) := by
  unfold dN
  rw [if_pos (by omega)]
theorem leaves_lp {N M : Mem} {m : Nat} (E : Env N) (P : Option (Int × Mem) → Prop) (k : Mem → Option (Int × Mem)) (h1 : ∀ M', Fl N M' → P (some (0, M'))) (h2 : ∀ M', RR N m (PdL N (N.1 1 1)) M' → P (k M')) (hI : RR N m (PdL N 0) M) : P (L_Reducer_reachLeaves_2 k 10 FU 0 M) := by
  have n0 := E.2.1.1
  have n6 := E.2.1.2.1
  refine lq1 (fun n v M' => L_Reducer_reachLeaves_2 k 10 n v M') (fun v M' => 0 ≤ v ∧ v ≤ N.1 1 1 ∧ RR N m (PdL N v) M') (fun v => (N.1 1 1 - v).toNat) P ?_ ⟨Int.le_refl 0, n0, hI⟩ (by have := FU_eq; omega)
  intro n v M' ⟨v0, v1, hI⟩ ih
  show P (L_Reducer_reachLeaves_2 k 10 (n + 1) v M')
  have hF := hI.1.1
  have hS := hF.1.d_
  have k1 : M'.1 1 1 = N.1 1 1 := by rw [hF.c1]
  have rko := rankOf_ok hF.1.s_ (by omega) v
  rw [hF.rk] at rko
  rw [L_Reducer_reachLeaves_2]
  by_cases hv : N.1 1 1 ≤ v
  · simp [-Option.bind_some, -Option.bind_none, gf, pf, rd, wt, ck, ln, lt, bz, nq, up_1, up_2, obs, obn, hS, hF.1.s_, k1, hv]
    have : v = N.1 1 1 := by omega
    subst this
    exact h2 M' hI
  · have e1 : wr (v + 1) = v + 1 := wr_eq (by omega) (by omega)
    by_cases hr : rkC N v = 0
    · have lf := leafImage_ok hF.1.n_ (s := v) ⟨v0, by omega⟩
      rw [hF.c9] at lf
      obtain ⟨t, M2, er, hres⟩ := reach_ok E hI (leaf_rn v0 (by omega) hr)
      rcases hres with ⟨ht, f1, f2, f3⟩ | ⟨t0, t1, tz, tn, hI2, hg, e17⟩
      · simp [-Option.bind_some, -Option.bind_none, gf, pf, rd, wt, ck, ln, lt, bz, nq, up_1, up_2, obs, obn, hS, hF.1.s_, hF.1.n_, k1, hv, rko, hr, lf, er, ht]
        exact h1 M2 ⟨f1, f2, f3⟩
      · have nt : ¬ t = -1 := by omega
        have hF2 := hI2.1.1
        have hS2 := hF2.1.d_
        have r384 := hI2.1.2.2.2.1
        have k2 : M2.1 1 1 = N.1 1 1 := by rw [hF2.c1]
        have t384 : t < 384 := by omega
        have rk2 : rkC M2 v = 0 := by rw [hF2.rk]; exact hr
        have ce := cell_ok hF2.1.s_ (by omega) (s := v) (x := 0) (y := 0) (w := 6) ⟨v0, by omega⟩ (by decide) (fun q => by omega) (fun q => by omega)
        have cr := cel_r (r := rkC M2 v) (s := v) (k1 := 0) (k2 := 0) ⟨v0, by omega⟩ (fun _ => by decide) (fun _ => by decide)
        simp [-Option.bind_some, -Option.bind_none, gf, pf, rd, wt, ck, ln, lt, bz, nq, up_1, up_2, obs, obn, hS, hF.1.s_, hF.1.n_, k1, hv, rko, hr, lf, er, nt, hS2, hF2.1.s_, ce, t0, t384, cr, e1]
        rw [rk2] at cr ⊢
        have w := hI2.1.c (M' := up M2 17 (cel 0 v 0 0 6) (M2.1 13 t)) (hF2.up (by decide) (by decide) (by unfold stp; omega)) (fun a a0 a1 => up_n (by omega)) (by simp [-Option.bind_some, -Option.bind_none, gf, pf, rd, wt, ck, ln, lt, bz, nq, up_1, up_2, obs, obn]) (by simp [-Option.bind_some, -Option.bind_none, gf, pf, rd, wt, ck, ln, lt, bz, nq, up_1, up_2, obs, obn]) (by simp [up_f]) (by simp [up_f])
        refine ih (v + 1) _ ⟨by omega, by omega, w.1, ?_, ?_, by simp [-Option.bind_some, -Option.bind_none, gf, pf, rd, wt, ck, ln, lt, bz, nq, up_1, up_2, obs, obn, hI2.2.2.2.1], by simp [-Option.bind_some, -Option.bind_none, gf, pf, rd, wt, ck, ln, lt, bz, nq, up_1, up_2, obs, obn, hI2.2.2.2.2.1], by simp [-Option.bind_some, -Option.bind_none, gf, pf, rd, wt, ck, ln, lt, bz, nq, up_1, up_2, obs, obn, hI2.2.2.2.2.2]⟩ (by omega)
        · unfold KPm
          rw [w.2]
          simpa [up_f, up_1, ud_a] using hI2.2.1
        · unfold TPm
          rw [w.2]
          have ez : dN N v (M2.1 11 0) (M2.1 11 0) = N.1 9 (v * 144) := leaf_dn hr
          have hce : cel (rkC N v) v (M2.1 13 0) (M2.1 13 0) 6 = cel 0 v 0 0 6 := by
            rw [hr]
            exact cel_c (fun q => by omega) (fun q => by omega) 6
          have cv := E.v12 (leaf_rn v0 (by omega) hr)
          have hPd : ∀ s' x' y', PdL N (v + 1) s' x' y' → PdL N v s' x' y' ∨ (s' = v ∧ (1 ≤ rkC N v → x' = 0) ∧ (2 ≤ rkC N v → y' = 0)) := fun s' x' y' p => by
            by_cases q : s' = v
            · exact Or.inr ⟨q, fun w => by omega, fun w => by omega⟩
            · exact Or.inl ⟨p.1, by have := p.2; omega⟩
          by_cases ho : M2.1 17 (cel 0 v 0 0 6) = -1
          · have q := hI2.2.2.1.put (dg N) hI2.2.1 (s := v) (x := 0) (y := 0) v0 (by omega) (fun q => by omega) (fun q => by omega) (z := N.1 9 (v * 144)) ez.symm (by omega) (by omega) (by rw [tn, show t + 1 - 1 = t by omega]; exact tz) (fun q => by omega) (fun q => by omega) (by rw [hce]; exact ho) hPd
            rw [hce, tn, show t + 1 - 1 = t by omega] at q
            simpa [up_f, up_1] using q
          · have t1' := hI2.2.2.1.1 v 0 0 v0 (by omega) (by decide) (by decide) (by decide) (by decide)
            rw [hr] at t1'
            have kt := hI2.2.1.2.2.2.2.1 t t0 t1
            have eq : M2.1 17 (cel 0 v 0 0 6) = M2.1 13 t := by
              rcases t1' with w | ⟨w1, w2, -, -, w5⟩
              · exact absurd w ho
              · refine hI2.2.1.2.2.2.1 _ _ w1 w2 kt.2.1 kt.2.2.1 ?_
                rw [w5, kt.2.2.2, tz, leaf_dn hr]
            have q := hI2.2.2.1.has (dg N) (s := v) (x := 0) (y := 0) (fun q => by omega) (fun q => by omega) (z := N.1 9 (v * 144)) ez.symm (by omega) (by omega) (by rw [hce, tn, show t + 1 - 1 = t by omega]; exact eq) hPd
            rw [← ud_id eq] at q
            simpa [up_f, up_1] using q
    · simp [-Option.bind_some, -Option.bind_none, gf, pf, rd, wt, ck, ln, lt, bz, nq, up_1, up_2, obs, obn, hS, hF.1.s_, k1, hv, rko, hr, e1]
      refine ih (v + 1) M' ⟨by omega, by omega, hI.1, hI.2.1, ⟨hI.2.2.1.1, fun s x y s0 s1 p => hI.2.2.1.2 s x y s0 s1 ⟨p.1, ?_⟩⟩, hI.2.2.2⟩ (by omega)
      have p1 := p.1
      have p2 := p.2
      by_cases q : s = v
      · rw [q] at p1; exact absurd p1 hr
      · omega
theorem leaves_ok {N M : Mem} {m : Nat} (E : Env N) (h : RR N m (fun _ _ _ => False) M) : OkV (D_Reducer_reachLeaves 10 M) (fun t M' => (t = 0 ∧ Fl N M') ∨ (t = 1 ∧ RR N m (PdL N (N.1 1 1)) M')) := by
  unfold D_Reducer_reachLeaves
  refine leaves_lp E (fun o => OkV o (fun t M' => (t = 0 ∧ Fl N M') ∨ (t = 1 ∧ RR N m (PdL N (N.1 1 1)) M'))) _ (fun M' h => OkV.i (Or.inl ⟨rfl, h⟩)) (fun M' h => OkV.i (Or.inr ⟨rfl, h⟩)) ?_
  refine ⟨h.1, h.2.1, ⟨h.2.2.1.1, fun s x y s0 s1 p => ?_⟩, h.2.2.2⟩
  have := p.2
  omega
