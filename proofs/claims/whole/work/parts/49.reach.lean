/-! reaching sets -/
abbrev RN (N : Mem) (z : Int) : Prop := Rch (N.1 1 1) (rkC N) (dN N) z
abbrev LgN (N : Mem) : Prop := Lg (N.1 1 1) (rkC N) (dN N) (fun z => acN N z = 1)
def Env (N : Mem) : Prop := NtOk N ∧ SgOk N ∧ Cd (RN N) ∧ SB N
def Z0 (M : Mem) : Prop := ∀ p, 20 ≤ p → p ≤ 47 → (p - 20) % 3 = 0 → M.1 (p + 1) 0 = 0 ∧ M.1 (p + 2) 0 = 0
def RI1 (N M : Mem) : Prop := Fr N M ∧ Z0 M ∧ PI N M ∧ SP (RN N) (M.1 10 6) (M.1 11) (M.1 14)
abbrev KPm (N M : Mem) (c : Int) : Prop := KP (RN N) (mkB M) c (M.1 10 10) (M.1 11) (M.1 12) (M.1 13) (M.1 15) (M.1 16)
abbrev TPm (N M : Mem) (Pd : Int → Int → Int → Prop) : Prop := TP (N.1 1 1) (rkC N) (dN N) (mkB M) (M.1 10 6) (M.1 10 10) (M.1 11) (M.1 13) (M.1 15) (M.1 16) (M.1 14) (M.1 17) Pd
def RR (N : Mem) (m : Nat) (Pd : Int → Int → Int → Prop) (M : Mem) : Prop := RI1 N M ∧ KPm N M (M.1 10 6) ∧ TPm N M Pd ∧ M.1 10 11 = 0 ∧ M.1 10 14 = m + 1 ∧ (m : Int) ≤ M.1 10 10
def Gr (M M' : Mem) : Prop := M.1 10 6 ≤ M'.1 10 6 ∧ (∀ i, 0 ≤ i → i < M.1 10 6 → M'.1 11 i = M.1 11 i ∧ M'.1 13 i = M.1 13 i) ∧ ∀ a, 20 ≤ a → a < 50 → M'.1 a = M.1 a
theorem Gr.rf (M : Mem) : Gr M M := ⟨Int.le_refl _, fun _ _ _ => ⟨rfl, rfl⟩, fun _ _ _ => rfl⟩
theorem Gr.tr {M M' M'' : Mem} (h : Gr M M') (h' : Gr M' M'') : Gr M M'' := by
  refine ⟨Int.le_trans h.1 h'.1, fun i i0 i1 => ?_, fun a a0 a1 => ?_⟩
  · have := h.1
    have q := h.2.1 i i0 i1
    have q' := h'.2.1 i i0 (by omega)
    exact ⟨q'.1.trans q.1, q'.2.trans q.2⟩
  · exact (h'.2.2 a a0 a1).trans (h.2.2 a a0 a1)
theorem dg (N : Mem) : Dg (rkC N) (dN N) := by
  intro s x y x' y' h1 h2
  unfold dN
  by_cases r0 : rkC N s ≤ 0
  · rw [if_pos r0, if_pos r0]
  · rw [if_neg r0, if_neg r0, h1 (by omega)]
    by_cases r1 : rkC N s ≤ 1
    · rw [if_pos r1, if_pos r1]
    · rw [if_neg r1, if_neg r1, h2 (by omega)]
theorem Env.ty {N : Mem} (E : Env N) {z : Int} (h : RN N z) : vs N z := rch_vs E.1 E.2.1 h
theorem Env.v12 {N : Mem} (E : Env N) {z : Int} (h : RN N z) : 0 ≤ z ∧ z < 4096 := ⟨(E.ty h).1, val12 E.1 (E.ty h).2⟩
theorem kindWith_lp {M : Mem} (hS : SBD M) {kc bits z : Int} (e : M.1 10 10 = kc) (k0 : 0 ≤ kc) (k6 : kc ≤ 6) (P : Option (Int × Mem) → Prop) (k : Mem → Option (Int × Mem)) (h1 : ∀ r, 0 ≤ r → r < kc → M.1 16 r = bits → P (some (r, M))) (h2 : (∀ k, 0 ≤ k → k < kc → M.1 16 k ≠ bits) → P (k M)) : P (L_Reducer_kindWith_2 k 10 bits z FU 0 M) := by
  refine lq1 (fun n v M' => L_Reducer_kindWith_2 k 10 bits z n v M') (fun v M' => M' = M ∧ 0 ≤ v ∧ v ≤ kc ∧ ∀ k, 0 ≤ k → k < v → M.1 16 k ≠ bits) (fun v => (kc - v).toNat) P ?_ ⟨rfl, Int.le_refl 0, k0, fun k a b => by omega⟩ (by have := FU_eq; omega)
  intro n v M' ⟨hM, v0, v1, hk⟩ ih
  subst hM
  show P (L_Reducer_kindWith_2 _ 10 bits z (n + 1) v M')
  rw [L_Reducer_kindWith_2]
  by_cases hv : kc ≤ v
  · have : v = kc := by omega
    subst this
    simp [-Option.bind_some, -Option.bind_none, gf, pf, rd, wt, ck, ln, lt, bz, nq, up_1, up_2, obs, obn, hS, e]
    exact h2 hk
  · have v6 : v < 6 := by omega
    have e1 : wr (v + 1) = v + 1 := wr_eq (by omega) (by omega)
    by_cases hb : M'.1 16 v = bits
    · simp [-Option.bind_some, -Option.bind_none, gf, pf, rd, wt, ck, ln, lt, bz, nq, up_1, up_2, obs, obn, hS, e, hv, v0, v6, hb]
      exact h1 v v0 (by omega) hb
    · simp [-Option.bind_some, -Option.bind_none, gf, pf, rd, wt, ck, ln, lt, bz, nq, up_1, up_2, obs, obn, hS, e, hv, v0, v6, hb, e1]
      refine ih (v + 1) M' ⟨rfl, by omega, by omega, fun k a b => ?_⟩ (by omega)
      by_cases q : k = v
      · rw [q]; exact hb
      · exact hk k a (by omega)
theorem kindWith_ok {M : Mem} (hS : SBD M) {kc bits z : Int} (e : M.1 10 10 = kc) (k0 : 0 ≤ kc) (k6 : kc ≤ 6) : ∃ r M', D_Reducer_kindWith 10 bits z M = some (r, M') ∧ ((0 ≤ r ∧ r < kc ∧ M' = M ∧ M.1 16 r = bits) ∨ ((∀ k, 0 ≤ k → k < kc → M.1 16 k ≠ bits) ∧ ((kc < 6 ∧ r = kc ∧ M' = up (up (up M 16 kc bits) 15 kc z) 10 10 (kc + 1)) ∨ (kc = 6 ∧ r = -1 ∧ M' = up M 10 11 1)))) := by
  unfold D_Reducer_kindWith
  refine kindWith_lp hS e k0 k6 (fun o => ∃ r M', o = some (r, M') ∧ ((0 ≤ r ∧ r < kc ∧ M' = M ∧ M.1 16 r = bits) ∨ ((∀ k, 0 ≤ k → k < kc → M.1 16 k ≠ bits) ∧ ((kc < 6 ∧ r = kc ∧ M' = up (up (up M 16 kc bits) 15 kc z) 10 10 (kc + 1)) ∨ (kc = 6 ∧ r = -1 ∧ M' = up M 10 11 1))))) _ (fun r r0 r1 hb => ⟨r, M, rfl, Or.inl ⟨r0, r1, rfl, hb⟩⟩) (fun hk => ?_)
  by_cases hk6 : kc < 6
  · have e1 : wr (kc + 1) = kc + 1 := wr_eq (by omega) (by omega)
    refine ⟨kc, up (up (up M 16 kc bits) 15 kc z) 10 10 (kc + 1), ?_, Or.inr ⟨hk, Or.inl ⟨hk6, rfl, rfl⟩⟩⟩
    simp [-Option.bind_some, -Option.bind_none, gf, pf, rd, wt, ck, ln, lt, bz, nq, up_1, up_2, obs, obn, hS, e, hk6, k0, e1]
  · refine ⟨-1, up M 10 11 1, ?_, Or.inr ⟨hk, Or.inr ⟨by omega, rfl, rfl⟩⟩⟩
    simp [-Option.bind_some, -Option.bind_none, gf, pf, rd, wt, ck, ln, lt, bz, nq, up_1, up_2, obs, obn, hS, e, hk6]
theorem RR.grow {N M M' : Mem} {m : Nat} {Pd : Int → Int → Int → Prop} (E : Env N) (h : RR N m Pd M) (hF : Fr N M') {z : Int} (hz : RN N z) (hn : M.1 14 z ≤ 0) (ha : ∀ a, 17 ≤ a → a < 50 → M'.1 a = M.1 a) (e6 : M'.1 10 6 = M.1 10 6 + 1) (e11 : M'.1 10 11 = 0) (e14 : M'.1 10 14 = M.1 10 14) (c11 : M'.1 11 = ud (M.1 11) (M.1 10 6) z) (c14 : M'.1 14 = ud (M.1 14) z (M.1 10 6 + 1)) (hk : M.1 10 10 ≤ M'.1 10 10) (c13 : ∀ i, 0 ≤ i → i < M.1 10 6 → M'.1 13 i = M.1 13 i) (c15 : ∀ i, 0 ≤ i → i < M.1 10 10 → M'.1 15 i = M.1 15 i) (c16 : ∀ i, 0 ≤ i → i < M.1 10 10 → M'.1 16 i = M.1 16 i) (hK : KP (RN N) (mkB M) (M.1 10 6 + 1) (M'.1 10 10) (M'.1 11) (M'.1 12) (M'.1 13) (M'.1 15) (M'.1 16)) : RR N m Pd M' ∧ Gr M M' := by
  obtain ⟨⟨hF0, hZ, hPI, hSP⟩, hKP, hTP, h11, h14, hm⟩ := h
  have pq : Pq M M' := Pq.of hPI (by rw [hF.c8, hF0.c8]) e14 (ha 19 (by decide) (by decide)) (fun a a0 a1 => ha a (by omega) a1)
  have mk : mkB M' = mkB M := funext fun w => pq.mk hPI w
  have z12 := E.v12 hz
  have rm := hSP.room E.2.2.1 hz hn
  refine ⟨⟨⟨hF, ?_, pq.pi hPI, ?_⟩, ?_, ?_, e11, by rw [e14]; exact h14, by omega⟩, by omega, fun i i0 i1 => ⟨?_, c13 i i0 i1⟩, fun a a0 a1 => ha a (by omega) a1⟩
  · intro p p0 p1 p2
    rw [ha (p + 1) (by omega) (by omega), ha (p + 2) (by omega) (by omega)]
    exact hZ p p0 p1 p2
  · rw [e6, c11, c14]
    exact hSP.new hz z12.1 z12.2 hn rm
  · unfold KPm
    rw [mk, e6]
    exact hK
  · unfold TPm
    rw [mk, e6, ha 17 (by decide) (by decide)]
    refine hTP.grow (dg N) (by omega) hk (fun i i0 i1 => ?_) c13 c15 c16 (fun w hw => ?_)
    · rw [c11, ud_n (by omega)]
    · rw [c14, ud_n]
      intro q
      rw [q] at hw
      omega
  · rw [c11, ud_n (by omega)]
theorem Z0.up {M : Mem} (h : Z0 M) {a k v : Int} (ha : a < 20) : Z0 (up M a k v) := by
  intro p p0 p1 p2
  rw [up_n (by omega), up_n (by omega)]
  exact h p p0 p1 p2
theorem reach_ok {N M : Mem} {m : Nat} {Pd : Int → Int → Int → Prop} (E : Env N) (h : RR N m Pd M) {z : Int} (hz : RN N z) : ∃ t M', D_Reducer_reach 10 z M = some (t, M') ∧ ((t = -1 ∧ RI1 N M' ∧ M'.1 10 11 = 1 ∧ LgN N) ∨ (0 ≤ t ∧ t < M'.1 10 6 ∧ M'.1 11 t = z ∧ M'.1 14 z = t + 1 ∧ RR N m Pd M' ∧ Gr M M' ∧ M'.1 17 = M.1 17)) := by
  have h0 := h
  obtain ⟨⟨hF, hZ, hPI, hSP⟩, hKP, hTP, h11, h14, hm⟩ := h
  have hS := hF.1.d_
  have z12 := E.v12 hz
  unfold D_Reducer_reach
  by_cases hn : M.1 14 z ≤ 0
  · have rm := hSP.room E.2.2.1 hz hn
    have r0 := hSP.1.1
    have hm' := marksOf_ok hF E.1 E.2.1 hPI (E.ty hz)
    obtain ⟨r, M2, ek, hk⟩ := kindWith_ok hS (bits := mkB M z) (z := z) rfl hKP.1.1 hKP.1.2
    have e1 : wr (M.1 10 6 + 1) = M.1 10 6 + 1 := wr_eq (by omega) (by omega)
    have e2 : wr (M.1 10 6) = M.1 10 6 := wr_eq (by omega) (by omega)
    rcases hk with ⟨k0, k1, hM, kb⟩ | ⟨hkn, ⟨k6, kr, hM⟩ | ⟨k6, kr, hM⟩⟩
    · subst hM
      have nr : ¬ r = -1 := by omega
      refine ⟨M2.1 10 6, up (up (up (up (up M2 11 (M2.1 10 6) z) 12 (M2.1 10 6) (mkB M2 z)) 13 (M2.1 10 6) r) 10 6 (M2.1 10 6 + 1)) 14 z (M2.1 10 6 + 1), ?_, Or.inr ⟨r0, ?_, ?_, ?_, ?_⟩⟩
      · simp [-Option.bind_some, -Option.bind_none, gf, pf, rd, wt, ck, ln, lt, bz, nq, up_1, up_2, obs, obn, hS, z12, hn, hm', ek, nr, rm, r0, e1, e2]
      · simp [-Option.bind_some, -Option.bind_none, gf, pf, rd, wt, ck, ln, lt, bz, nq, up_1, up_2, obs, obn]
        (try omega)
      · simp [-Option.bind_some, -Option.bind_none, gf, pf, rd, wt, ck, ln, lt, bz, nq, up_1, up_2, obs, obn]
      · simp [-Option.bind_some, -Option.bind_none, gf, pf, rd, wt, ck, ln, lt, bz, nq, up_1, up_2, obs, obn]
      · have g := RR.grow E h0 (M' := up (up (up (up (up M2 11 (M2.1 10 6) z) 12 (M2.1 10 6) (mkB M2 z)) 13 (M2.1 10 6) r) 10 6 (M2.1 10 6 + 1)) 14 z (M2.1 10 6 + 1)) (((((hF.up (by decide) (by decide) (by unfold stp; omega)).up (by decide) (by decide) (by unfold stp; omega)).up (by decide) (by decide) (by unfold stp; omega)).up (by decide) (by decide) (by decide)).up (by decide) (by decide) (by unfold stp; omega)) hz hn (fun a a0 a1 => by
          rw [up_n (by omega), up_n (by omega), up_n (by omega), up_n (by omega), up_n (by omega)]) (by simp [-Option.bind_some, -Option.bind_none, gf, pf, rd, wt, ck, ln, lt, bz, nq, up_1, up_2, obs, obn]) (by simp [-Option.bind_some, -Option.bind_none, gf, pf, rd, wt, ck, ln, lt, bz, nq, up_1, up_2, obs, obn, h11]) (by simp [-Option.bind_some, -Option.bind_none, gf, pf, rd, wt, ck, ln, lt, bz, nq, up_1, up_2, obs, obn]) (by simp [up_f]) (by simp [up_f]) (by simp [-Option.bind_some, -Option.bind_none, gf, pf, rd, wt, ck, ln, lt, bz, nq, up_1, up_2, obs, obn]) (fun i i0 i1 => by
          have : ¬ i = M2.1 10 6 := by omega
          simp [-Option.bind_some, -Option.bind_none, gf, pf, rd, wt, ck, ln, lt, bz, nq, up_1, up_2, obs, obn, this]) (fun i i0 i1 => by simp [-Option.bind_some, -Option.bind_none, gf, pf, rd, wt, ck, ln, lt, bz, nq, up_1, up_2, obs, obn]) (fun i i0 i1 => by simp [-Option.bind_some, -Option.bind_none, gf, pf, rd, wt, ck, ln, lt, bz, nq, up_1, up_2, obs, obn]) (by
          have w := hKP.old (S' := ud (M2.1 11) (M2.1 10 6) z) k0 k1 kb (fun i i0 i1 => ud_n (by omega)) (ud_s _ _ _)
          simpa [up_f, up_1, ud_a] using w)
        exact ⟨g.1, g.2, by simp [up_f]⟩
    · subst hM
      subst kr
      have nr : ¬ M.1 10 10 = -1 := by have := hKP.1.1; omega
      refine ⟨M.1 10 6, up (up (up (up (up (up (up (up M 16 (M.1 10 10) (mkB M z)) 15 (M.1 10 10) z) 10 10 (M.1 10 10 + 1)) 11 (M.1 10 6) z) 12 (M.1 10 6) (mkB M z)) 13 (M.1 10 6) (M.1 10 10)) 10 6 (M.1 10 6 + 1)) 14 z (M.1 10 6 + 1), ?_, Or.inr ⟨r0, ?_, ?_, ?_, ?_⟩⟩
      · simp [-Option.bind_some, -Option.bind_none, gf, pf, rd, wt, ck, ln, lt, bz, nq, up_1, up_2, obs, obn, hS, z12, hn, hm', ek, nr, rm, r0, e1, e2]
      · simp [-Option.bind_some, -Option.bind_none, gf, pf, rd, wt, ck, ln, lt, bz, nq, up_1, up_2, obs, obn]
        (try omega)
      · simp [-Option.bind_some, -Option.bind_none, gf, pf, rd, wt, ck, ln, lt, bz, nq, up_1, up_2, obs, obn]
      · simp [-Option.bind_some, -Option.bind_none, gf, pf, rd, wt, ck, ln, lt, bz, nq, up_1, up_2, obs, obn]
      · have g := RR.grow E h0 (M' := up (up (up (up (up (up (up (up M 16 (M.1 10 10) (mkB M z)) 15 (M.1 10 10) z) 10 10 (M.1 10 10 + 1)) 11 (M.1 10 6) z) 12 (M.1 10 6) (mkB M z)) 13 (M.1 10 6) (M.1 10 10)) 10 6 (M.1 10 6 + 1)) 14 z (M.1 10 6 + 1)) ((((((((hF.up (by decide) (by decide) (by unfold stp; omega)).up (by decide) (by decide) (by unfold stp; omega)).up (by decide) (by decide) (by decide)).up (by decide) (by decide) (by unfold stp; omega)).up (by decide) (by decide) (by unfold stp; omega)).up (by decide) (by decide) (by unfold stp; omega)).up (by decide) (by decide) (by decide)).up (by decide) (by decide) (by unfold stp; omega)) hz hn (fun a a0 a1 => by
          rw [up_n (by omega), up_n (by omega), up_n (by omega), up_n (by omega), up_n (by omega), up_n (by omega), up_n (by omega), up_n (by omega)]) (by simp [-Option.bind_some, -Option.bind_none, gf, pf, rd, wt, ck, ln, lt, bz, nq, up_1, up_2, obs, obn]) (by simp [-Option.bind_some, -Option.bind_none, gf, pf, rd, wt, ck, ln, lt, bz, nq, up_1, up_2, obs, obn, h11]) (by simp [-Option.bind_some, -Option.bind_none, gf, pf, rd, wt, ck, ln, lt, bz, nq, up_1, up_2, obs, obn]) (by simp [up_f]) (by simp [up_f]) (by simp [-Option.bind_some, -Option.bind_none, gf, pf, rd, wt, ck, ln, lt, bz, nq, up_1, up_2, obs, obn]; omega) (fun i i0 i1 => by
          have : ¬ i = M.1 10 6 := by omega
          simp [-Option.bind_some, -Option.bind_none, gf, pf, rd, wt, ck, ln, lt, bz, nq, up_1, up_2, obs, obn, this]) (fun i i0 i1 => by
          have : ¬ i = M.1 10 10 := by omega
          simp [-Option.bind_some, -Option.bind_none, gf, pf, rd, wt, ck, ln, lt, bz, nq, up_1, up_2, obs, obn, this]) (fun i i0 i1 => by
          have : ¬ i = M.1 10 10 := by omega
          simp [-Option.bind_some, -Option.bind_none, gf, pf, rd, wt, ck, ln, lt, bz, nq, up_1, up_2, obs, obn, this]) (by
          have w := hKP.new (S' := ud (M.1 11) (M.1 10 6) z) hz k6 hkn (fun i i0 i1 => ud_n (by omega)) (ud_s _ _ _)
          simpa [up_f, up_1, ud_a] using w)
        exact ⟨g.1, g.2, by simp [up_f]⟩
    · subst hM
      subst kr
      refine ⟨-1, up M 10 11 1, ?_, Or.inl ⟨rfl, ⟨hF.up (by decide) (by decide) (by decide), hZ.up (by decide), ?_, ?_⟩, ?_, ?_⟩⟩
      · simp [-Option.bind_some, -Option.bind_none, gf, pf, rd, wt, ck, ln, lt, bz, nq, up_1, up_2, obs, obn, hS, z12, hn, hm', ek]
      · have pq : Pq M (up M 10 11 1) := Pq.of hPI (by simp [up_f]) (by simp [-Option.bind_some, -Option.bind_none, gf, pf, rd, wt, ck, ln, lt, bz, nq, up_1, up_2, obs, obn]) (by simp [up_f]) (fun a a0 a1 => up_n (by omega))
        exact pq.pi hPI
      · simpa [up_f, up_1, ud_a] using hSP
      · simp [-Option.bind_some, -Option.bind_none, gf, pf, rd, wt, ck, ln, lt, bz, nq, up_1, up_2, obs, obn]
      · exact hKP.lg (fun z h => h) (fun a b ra rb i => ind_mk hF hPI E.1 E.2.1 (E.ty ra) (E.ty rb) i) k6 hz hkn
  · have s3 := hSP.2.2 z z12.1 z12.2
    have : 1 ≤ M.1 14 z ∧ M.1 14 z ≤ M.1 10 6 ∧ M.1 11 (M.1 14 z - 1) = z := by
      rcases s3 with q | q
      · omega
      · exact q
    have := hSP.1
    have e1 : wr (M.1 14 z - 1) = M.1 14 z - 1 := wr_eq (by omega) (by omega)
    refine ⟨M.1 14 z - 1, M, ?_, Or.inr ⟨by omega, by omega, by omega, by omega, h0, Gr.rf M, rfl⟩⟩
    simp [-Option.bind_some, -Option.bind_none, gf, pf, rd, wt, ck, ln, lt, bz, nq, up_1, up_2, obs, obn, hS, z12, hn, e1]
