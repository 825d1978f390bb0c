/-! the rounds of the reducer -/
def RB (M : Mem) : Prop := (0 ≤ M.1 10 6 ∧ M.1 10 6 ≤ 384) ∧ (∀ i, 0 ≤ i → i < M.1 10 6 → 0 ≤ M.1 11 i ∧ M.1 11 i < 4096) ∧ ∀ z, 0 ≤ z → z < 4096 → M.1 14 z = 0 ∨ (1 ≤ M.1 14 z ∧ M.1 14 z ≤ M.1 10 6 ∧ M.1 11 (M.1 14 z - 1) = z)
theorem begin_lp {N : Mem} (hB : SB N) (hR : RB N) (P : Option Mem → Prop) (k : Mem → Option Mem) (h2 : ∀ M', Fr N M' → (∀ a, a ≠ 14 → M'.1 a = N.1 a) → (∀ z, 0 ≤ z → z < 4096 → M'.1 14 z = 0) → P (k M')) : P (L_Reducer_begin_2 k 10 FU 0 N) := by
  obtain ⟨⟨r0, r1⟩, hS, hN⟩ := hR
  refine lq1 (fun n v M' => L_Reducer_begin_2 k 10 n v M') (fun v M' => 0 ≤ v ∧ v ≤ N.1 10 6 ∧ Fr N M' ∧ (∀ a, a ≠ 14 → M'.1 a = N.1 a) ∧ ∀ z, 0 ≤ z → z < 4096 → M'.1 14 z = 0 ∨ (v < N.1 14 z ∧ N.1 14 z ≤ N.1 10 6 ∧ N.1 11 (N.1 14 z - 1) = z)) (fun v => (N.1 10 6 - v).toNat) P ?_ ⟨Int.le_refl 0, r0, Fr.rf hB, fun _ _ => rfl, fun z z0 z1 => by
    rcases hN z z0 z1 with q | q
    · exact Or.inl q
    · exact Or.inr ⟨by omega, q.2.1, q.2.2⟩⟩ (by have := FU_eq; omega)
  intro n v M ⟨v0, v1, hF, hA, hZ⟩ ih
  show P (L_Reducer_begin_2 k 10 (n + 1) v M)
  have c10 : M.1 10 = N.1 10 := hA 10 (by decide)
  have c11 : M.1 11 = N.1 11 := hA 11 (by decide)
  have hD := hF.1.d_
  rw [L_Reducer_begin_2]
  by_cases hv : N.1 10 6 ≤ v
  · have hv' : M.1 10 6 ≤ v := by rw [c10]; exact hv
    simp [-Option.bind_some, -Option.bind_none, gf, pf, rd, wt, ck, ln, lt, bz, nq, up_1, up_2, obs, obn, hD, hv']
    refine h2 M hF hA (fun z z0 z1 => ?_)
    rcases hZ z z0 z1 with q | q
    · exact q
    · omega
  · have hv' : ¬ M.1 10 6 ≤ v := by rw [c10]; exact hv
    have e1 : wr (v + 1) = v + 1 := wr_eq (by omega) (by omega)
    have v384 : v < 384 := by omega
    have sv := hS v v0 (by omega)
    rw [← c11] at sv
    simp [-Option.bind_some, -Option.bind_none, gf, pf, rd, wt, ck, ln, lt, bz, nq, up_1, up_2, obs, obn, hD, hv', v0, v384, sv, e1]
    refine ih (v + 1) _ ⟨by omega, by omega, hF.up (by decide) (by decide) (by unfold stp; omega), fun a ha => by rw [up_n ha]; exact hA a ha, fun z z0 z1 => ?_⟩ (by omega)
    rw [up_1]
    by_cases e : z = M.1 11 v
    · left; rw [if_pos ⟨rfl, e⟩]
    · rw [if_neg (fun q => e q.2)]
      rcases hZ z z0 z1 with q | q
      · exact Or.inl q
      · right
        refine ⟨?_, q.2.1, q.2.2⟩
        refine Classical.byContradiction fun w => e ?_
        have : N.1 14 z - 1 = v := by omega
        rw [← q.2.2, this, c11]
def Ro (N : Mem) (v : Int) (M : Mem) : Prop := v ≤ 7 ∧ RI1 N M ∧ M.1 10 11 = 0 ∧ M.1 10 14 = v + 1 ∧ Wd (mkB M) (M.1 10 6) (M.1 11) v.toNat
theorem begin_ok {N : Mem} (hB : SB N) (hR : RB N) (hZ : Z0 N) : OkM (D_Reducer_begin 10 N) (fun M => Ro N 0 M) := by
  unfold D_Reducer_begin
  refine begin_lp hB hR (fun o => OkM o (fun M => Ro N 0 M)) _ (fun M hF hA hz => ?_)
  have hD := hF.1.d_
  simp [-Option.bind_some, -Option.bind_none, gf, pf, rd, wt, ck, ln, lt, bz, nq, up_1, up_2, obs, obn, hD]
  refine OkM.i ⟨by decide, ⟨((hF.up (by decide) (by decide) (by decide)).up (by decide) (by decide) (by decide)).up (by decide) (by decide) (by decide), ?_, ?_, ?_⟩, by simp [-Option.bind_some, -Option.bind_none, gf, pf, rd, wt, ck, ln, lt, bz, nq, up_1, up_2, obs, obn], by simp [-Option.bind_some, -Option.bind_none, gf, pf, rd, wt, ck, ln, lt, bz, nq, up_1, up_2, obs, obn], ?_⟩
  · intro p p0 p1 p2
    rw [up_n (by omega), up_n (by omega), up_n (by omega), up_n (by omega), up_n (by omega), up_n (by omega), hA _ (by omega), hA _ (by omega)]
    exact hZ p p0 p1 p2
  · refine ⟨by simp [-Option.bind_some, -Option.bind_none, gf, pf, rd, wt, ck, ln, lt, bz, nq, up_1, up_2, obs, obn], by simp [-Option.bind_some, -Option.bind_none, gf, pf, rd, wt, ck, ln, lt, bz, nq, up_1, up_2, obs, obn], fun q q0 q1 => ?_⟩
    have : (up (up (up M 10 6 0) 10 14 1) 10 11 0).1 10 14 = 1 := by simp [-Option.bind_some, -Option.bind_none, gf, pf, rd, wt, ck, ln, lt, bz, nq, up_1, up_2, obs, obn]
    omega
  · have e6 : (up (up (up M 10 6 0) 10 14 1) 10 11 0).1 10 6 = 0 := by simp [-Option.bind_some, -Option.bind_none, gf, pf, rd, wt, ck, ln, lt, bz, nq, up_1, up_2, obs, obn]
    rw [e6]
    refine ⟨by omega, fun i i0 i1 => by omega, fun z z0 z1 => Or.inl ?_⟩
    rw [up_n (by decide), up_n (by decide), up_n (by decide)]
    exact hz z z0 z1
  · exact ⟨fun _ => 0, fun i hi => by omega, fun i j ij hj => by omega⟩
abbrev Stdy (N M : Mem) : Prop := ∃ m, RR N m (PA N (M.1 10 6) 0 0 0) M
theorem rounds_lp {N M : Mem} {p : Int} (E : Env N) (P : Option Mem → Prop) (k : Int → Mem → Option Mem) (h1 : ∀ M, Fl N M → P (k 0 M)) (h2 : ∀ M, Stdy N M → P (k 1 M)) (hI : Ro N 0 M) : P (L_Reducer_reduceTo_8 k 10 p FU 0 0 M) := by
  refine lq2 (fun n a b M' => L_Reducer_reduceTo_8 k 10 p n a b M') (fun a b M' => 0 ≤ b ∧ ((a = 0 ∧ Ro N b M') ∨ (a = 0 ∧ Fl N M') ∨ (a = 1 ∧ Stdy N M'))) (fun a b => (8 - b).toNat) P ?_ ⟨Int.le_refl 0, Or.inl ⟨rfl, hI⟩⟩ (by have := FU_eq; omega)
  clear hI M
  intro n a b M ⟨b0, hI⟩ ih
  show P (L_Reducer_reduceTo_8 k 10 p (n + 1) a b M)
  rw [L_Reducer_reduceTo_8]
  rcases hI with ⟨ea, hI⟩ | ⟨ea, hI⟩ | ⟨ea, hI⟩
  · subst ea
    obtain ⟨b7, hR, h11, h14, hW⟩ := hI
    have hD := hR.1.1.d_
    have b8 : ¬ 8 ≤ b := by omega
    have e1 : wr (b + 1) = b + 1 := wr_eq (by omega) (by omega)
    have ef := fill_ok (M := M) (a := 17) (n := 216) hD.2.2.2.2.2.2.2.1 (by decide) (-1)
    have hF1 : Fr N (sc M 17 (fun i => if 0 ≤ i ∧ i < (216 : Nat) then -1 else M.1 17 i)) := hR.1.sc (by decide) (by decide) (fun k => by unfold stp; omega)
    have w := hR.c (M' := sc M 17 (fun i => if 0 ≤ i ∧ i < (216 : Nat) then -1 else M.1 17 i)) hF1 (fun a a0 a1 => sc_n (by omega)) (by rw [sc_n (by decide)]) (by rw [sc_n (by decide)]) (sc_n (by decide)) (sc_n (by decide))
    have hT : ∀ i, 0 ≤ i → i < 216 → (sc M 17 (fun i => if 0 ≤ i ∧ i < (216 : Nat) then -1 else M.1 17 i)).1 17 i = -1 := fun i i0 i1 => by
      rw [sc_1, if_pos rfl, if_pos ⟨i0, by omega⟩]
    have q11 : (sc M 17 (fun i => if 0 ≤ i ∧ i < (216 : Nat) then -1 else M.1 17 i)).1 10 11 = 0 := by rw [sc_n (by decide)]; exact h11
    have q14 : (sc M 17 (fun i => if 0 ≤ i ∧ i < (216 : Nat) then -1 else M.1 17 i)).1 10 14 = (b.toNat : Int) + 1 := by rw [sc_n (by decide)]; omega
    have qW : Wd (mkB (sc M 17 (fun i => if 0 ≤ i ∧ i < (216 : Nat) then -1 else M.1 17 i))) ((sc M 17 (fun i => if 0 ≤ i ∧ i < (216 : Nat) then -1 else M.1 17 i)).1 10 6) ((sc M 17 (fun i => if 0 ≤ i ∧ i < (216 : Nat) then -1 else M.1 17 i)).1 11) b.toNat := by
      rw [w.2, sc_n (by decide), sc_n (by decide)]; exact hW
    generalize sc M 17 (fun i => if 0 ≤ i ∧ i < (216 : Nat) then -1 else M.1 17 i) = M1 at *
    have hD1 := hF1.1.d_
    obtain ⟨t, M2, es, hs⟩ := sort_ok E w.1 q11 q14 qW hT
    rcases hs with ⟨ht, hfl⟩ | ⟨ht, hRR⟩
    · subst ht
      simp [-Option.bind_some, -Option.bind_none, gf, pf, rd, wt, ck, ln, lt, bz, nq, up_1, up_2, obs, obn, b8, hD, h11, ef, hD1, es, e1]
      exact ih 0 (b + 1) M2 ⟨by omega, Or.inr (Or.inl ⟨rfl, hfl⟩)⟩ (by omega)
    · subst ht
      have b6 : b ≤ 6 := by have := hRR.2.2.2.2.2; have := hRR.2.1.1; omega
      have hD2 := hRR.1.1.1.d_
      obtain ⟨t, M3, el, hl⟩ := leaves_ok E hRR
      rcases hl with ⟨ht, hfl⟩ | ⟨ht, hRR3⟩
      · subst ht
        simp [-Option.bind_some, -Option.bind_none, gf, pf, rd, wt, ck, ln, lt, bz, nq, up_1, up_2, obs, obn, b8, hD, h11, ef, hD1, es, hD2, el, e1]
        exact ih 0 (b + 1) M3 ⟨by omega, Or.inr (Or.inl ⟨rfl, hfl⟩)⟩ (by omega)
      · subst ht
        have hD3 := hRR3.1.1.1.d_
        obtain ⟨t, M4, er, hr⟩ := reachAll_ok E hRR3
        rcases hr with ⟨ht, hb⟩ | ⟨ht, hRR4⟩
        · subst ht
          simp [-Option.bind_some, -Option.bind_none, gf, pf, rd, wt, ck, ln, lt, bz, nq, up_1, up_2, obs, obn, b8, hD, h11, ef, hD1, es, hD2, el, hD3, er, e1]
          refine ih 0 (b + 1) M4 ⟨by omega, ?_⟩ (by omega)
          rcases hb with hfl | ⟨f1, f2, f3, f4, f5⟩
          · exact Or.inr (Or.inl ⟨rfl, hfl⟩)
          · exact Or.inl ⟨rfl, by omega, f1, f2, by omega, by rw [show (b + 1).toNat = b.toNat + 1 by omega]; exact f5⟩
        · subst ht
          simp [-Option.bind_some, -Option.bind_none, gf, pf, rd, wt, ck, ln, lt, bz, nq, up_1, up_2, obs, obn, b8, hD, h11, ef, hD1, es, hD2, el, hD3, er, e1]
          exact ih 1 (b + 1) M4 ⟨by omega, Or.inr (Or.inr ⟨rfl, _, hRR4⟩)⟩ (by omega)
  · subst ea
    have hD := hI.1.1.1.d_
    have h11 := hI.2.1
    by_cases b8 : 8 ≤ b
    · simp [-Option.bind_some, -Option.bind_none, gf, pf, rd, wt, ck, ln, lt, bz, nq, up_1, up_2, obs, obn, b8]
      exact h1 M hI
    · simp [-Option.bind_some, -Option.bind_none, gf, pf, rd, wt, ck, ln, lt, bz, nq, up_1, up_2, obs, obn, b8, hD, h11]
      exact h1 M hI
  · subst ea
    by_cases b8 : 8 ≤ b
    · simp [-Option.bind_some, -Option.bind_none, gf, pf, rd, wt, ck, ln, lt, bz, nq, up_1, up_2, obs, obn, b8]
      exact h2 M hI
    · simp [-Option.bind_some, -Option.bind_none, gf, pf, rd, wt, ck, ln, lt, bz, nq, up_1, up_2, obs, obn, b8]
      exact h2 M hI
/-- a steady table is a machine of kinds -/
theorem RR.qm {N M : Mem} {m : Nat} (E : Env N) (h : RR N m (PA N (M.1 10 6) 0 0 0) M) : QM (N.1 1 1) (rkC N) (dN N) (fun z => acN N z = 1) (M.1 10 10) (fun s a b => M.1 17 (cel (rkC N s) s a b 6)) (fun k => bt (M.1 16 k) 0) (fun z => M.1 13 (M.1 14 z - 1)) := by
  obtain ⟨⟨hF, hZ, hPI, hSP⟩, hKP, hTP, h11, h14, hm⟩ := h
  have step : ∀ s x y, 0 ≤ s → s < N.1 1 1 → (1 ≤ rkC N s → RN N x ∧ 1 ≤ M.1 14 x ∧ M.1 14 x ≤ M.1 10 6) → (2 ≤ rkC N s → RN N y ∧ 1 ≤ M.1 14 y ∧ M.1 14 y ≤ M.1 10 6) → 1 ≤ M.1 14 (dN N s x y) ∧ M.1 14 (dN N s x y) ≤ M.1 10 6 ∧ M.1 13 (M.1 14 (dN N s x y) - 1) = M.1 17 (cel (rkC N s) s (M.1 13 (M.1 14 x - 1)) (M.1 13 (M.1 14 y - 1)) 6) := by
    intro s x y s0 s1 hx hy
    have sx : 1 ≤ rkC N s → M.1 11 (M.1 14 x - 1) = x := fun q => by
      have v := E.v12 (hx q).1
      rcases hSP.2.2 x v.1 v.2 with w | w
      · have := hx q; omega
      · exact w.2.2
    have sy : 2 ≤ rkC N s → M.1 11 (M.1 14 y - 1) = y := fun q => by
      have v := E.v12 (hy q).1
      rcases hSP.2.2 y v.1 v.2 with w | w
      · have := hy q; omega
      · exact w.2.2
    have rg := E.2.1.rk s
    have w := hTP.2 s (M.1 14 x - 1) (M.1 14 y - 1) s0 s1 (by
      unfold PA
      by_cases r0 : rkC N s = 0
      · exact Or.inl r0
      · by_cases r1 : rkC N s = 1
        · have := hx (by omega); right; left; omega
        · have := hx (by omega); have := hy (by omega); right; right; omega)
    have e : dN N s (M.1 11 (M.1 14 x - 1)) (M.1 11 (M.1 14 y - 1)) = dN N s x y := dg N _ _ _ _ _ sx sy
    rw [e] at w
    exact ⟨w.2.2.1, w.2.2.2.1, w.2.2.2.2.symm⟩
  have all : ∀ z, RN N z → 1 ≤ M.1 14 z ∧ M.1 14 z ≤ M.1 10 6 := by
    intro z hz
    have : RN N z ∧ 1 ≤ M.1 14 z ∧ M.1 14 z ≤ M.1 10 6 := by
      refine hz (fun z => RN N z ∧ 1 ≤ M.1 14 z ∧ M.1 14 z ≤ M.1 10 6) ?_
      intro s x y s0 s1 hx hy
      have w := step s x y s0 s1 hx hy
      exact ⟨Rch.mk s0 s1 (fun q => (hx q).1) (fun q => (hy q).1), w.1, w.2.1⟩
    exact this.2
  have sz : ∀ z, RN N z → M.1 11 (M.1 14 z - 1) = z := by
    intro z hz
    have v := E.v12 hz
    have a := all z hz
    rcases hSP.2.2 z v.1 v.2 with w | w
    · omega
    · exact w.2.2
  have kp : ∀ z, RN N z → 0 ≤ M.1 13 (M.1 14 z - 1) ∧ M.1 13 (M.1 14 z - 1) < M.1 10 10 ∧ M.1 16 (M.1 13 (M.1 14 z - 1)) = mkB M z := by
    intro z hz
    have a := all z hz
    have w := hKP.2.2.2.2.1 (M.1 14 z - 1) (by omega) (by omega)
    rw [sz z hz] at w
    exact w.2
  refine ⟨hKP.1, ?_, ?_, fun a ra => ⟨(kp a ra).1, (kp a ra).2.1⟩, fun a ra => ?_, fun a a' ra ra' i => ?_, fun k k0 k1 => ?_⟩
  · intro s x y x' y' e1 e2
    show M.1 17 _ = M.1 17 _
    rw [cel_c e1 e2]
  · intro s x y s0 s1 hx hy
    exact (step s x y s0 s1 (fun q => ⟨hx q, all x (hx q)⟩) (fun q => ⟨hy q, all y (hy q)⟩)).2.2
  · show acN N a = 1 ↔ bt (M.1 16 (M.1 13 (M.1 14 a - 1))) 0
    rw [(kp a ra).2.2, (mkB_b hPI a).2 0 (Int.le_refl 0), GP_s, if_pos (Int.le_refl 0), hF.ac]
    have := hPI.1
    constructor
    · intro q; exact ⟨by omega, q⟩
    · intro q; exact q.2
  · refine hKP.2.2.2.1 _ _ (kp a ra).1 (kp a ra).2.1 (kp a' ra').1 (kp a' ra').2.1 ?_
    rw [(kp a ra).2.2, (kp a' ra').2.2]
    exact ind_mk hF hPI E.1 E.2.1 (E.ty ra) (E.ty ra') i
  · have w := hKP.2.2.1 k k0 k1
    refine ⟨M.1 15 k, w.1, ?_⟩
    refine hKP.2.2.2.1 _ _ (kp _ w.1).1 (kp _ w.1).2.1 k0 k1 ?_
    rw [(kp _ w.1).2.2, w.2]
theorem RI1.rb {N M : Mem} (E : Env N) (h : RI1 N M) : RB M := ⟨h.2.2.2.1, fun i i0 i1 => E.v12 (h.2.2.2.2.1 i i0 i1).1, h.2.2.2.2.2⟩
theorem odd_b {z : Int} (h0 : 0 ≤ z) (h1 : z < 2147483648) : (bt z 0 ∧ iand z 1 = 1) ∨ (¬ bt z 0 ∧ iand z 1 = 0) := by
  obtain ⟨a, rfl⟩ : ∃ a : Nat, z = a := ⟨z.toNat, by omega⟩
  rw [show (1 : Int) = ((1 : Nat) : Int) from rfl, iand_n (by omega), Nat.and_one_is_mod]
  unfold bt
  rw [show (a : Int).toNat = a from rfl, show (0 : Int).toNat = 0 from rfl, Nat.testBit_zero]
  by_cases q : a % 2 = 1
  · left; rw [q]; simp
  · right
    have : a % 2 = 0 := by omega
    rw [this]; simp
theorem ishl_0 {k : Int} (k0 : 0 ≤ k) (k1 : k < 31) : ishl 0 k = 0 := by
  obtain ⟨a, rfl⟩ : ∃ a : Nat, k = a := ⟨k.toNat, by omega⟩
  have := ishl_n (a := 0) (k := a) (by omega) (by simp)
  simpa using this
theorem finalKinds_ok {N M : Mem} {m : Nat} {Pd : Int → Int → Int → Prop} (h : RR N m Pd M) : ∃ f, D_Reducer_finalKinds 10 M = some (f, M) ∧ (0 ≤ f ∧ f < 64) ∧ ∀ k, 0 ≤ k → k < M.1 10 10 → (bt f k ↔ bt (M.1 16 k) 0) := by
  obtain ⟨⟨hF, hZ, hPI, hSP⟩, hKP, hTP, h11, h14, hm⟩ := h
  have k6 := hKP.1
  have hD := hF.1.d_
  have km : ∀ k, 0 ≤ k → k < M.1 10 10 → 0 ≤ M.1 16 k ∧ M.1 16 k < 2 ^ 8 := fun k a b => by
    rw [(hKP.2.2.1 k a b).2]; exact (mkB_b hPI _).1
  have hg : ∀ x : Int, 0 ≤ x → x < ((M.1 10 10).toNat : Int) → 0 ≤ ishl (iand (M.1 16 x) 1) x ∧ ishl (iand (M.1 16 x) 1) x < 2 ^ 6 := by
    intro x x0 x1
    have w := km x x0 (by omega)
    rcases odd_b w.1 (by have := w.2; omega) with ⟨_, q⟩ | ⟨_, q⟩
    · rw [q]; exact ishl1_r x0 (by omega) (by decide)
    · rw [q, ishl_0 x0 (by omega)]; decide
  refine ⟨orN (M.1 10 10).toNat (fun x => ishl (iand (M.1 16 x) 1) x), ?_, ?_, fun k k0 k1 => ?_⟩
  · unfold D_Reducer_finalKinds
    refine lq2 (fun n a b M' => L_Reducer_finalKinds_4 (fun w1_4 m4 => some (w1_4, m4)) 10 n a b M') (fun a b M' => M' = M ∧ 0 ≤ b ∧ b ≤ M.1 10 10 ∧ a = orN b.toNat (fun x => ishl (iand (M.1 16 x) 1) x)) (fun a b => (M.1 10 10 - b).toNat) (fun o => o = some (orN (M.1 10 10).toNat (fun x => ishl (iand (M.1 16 x) 1) x), M)) ?_ ⟨rfl, Int.le_refl 0, k6.1, rfl⟩ (by have := FU_eq; omega)
    intro n a b M' ⟨hM, b0, b1, ea⟩ ih
    subst hM
    show L_Reducer_finalKinds_4 _ 10 (n + 1) a b M' = _
    rw [L_Reducer_finalKinds_4]
    by_cases hb : M'.1 10 10 ≤ b
    · have : b = M'.1 10 10 := by omega
      simp [-Option.bind_some, -Option.bind_none, gf, pf, rd, wt, ck, ln, lt, bz, nq, up_1, up_2, obs, obn, hD, hb]
      rw [ea, this]
    · have e1 : wr (b + 1) = b + 1 := wr_eq (by omega) (by omega)
      have b6 : b < 6 := by omega
      simp [-Option.bind_some, -Option.bind_none, gf, pf, rd, wt, ck, ln, lt, bz, nq, up_1, up_2, obs, obn, hD, hb, b0, b6, e1]
      refine ih _ (b + 1) M' ⟨rfl, by omega, by omega, ?_⟩ (by omega)
      rw [show (b + 1).toNat = b.toNat + 1 by omega, ea]
      show ior _ _ = ior _ (ishl (iand (M'.1 16 ((b.toNat : Nat) : Int)) 1) ((b.toNat : Nat) : Int))
      rw [show ((b.toNat : Nat) : Int) = b by omega]
  · exact (orN_ok (b := 6) (by decide) hg).1
  · rw [(orN_ok (b := 6) (by decide) hg).2 k]
    constructor
    · intro ⟨x, x0, x1, q⟩
      have w := km x x0 (by omega)
      rcases odd_b w.1 (by have := w.2; omega) with ⟨u, v⟩ | ⟨u, v⟩
      · rw [v] at q
        have : k = x := (bt_shl x0 (by omega) k0).mp q
        rw [this]; exact u
      · rw [v, ishl_0 x0 (by omega)] at q
        exact absurd q (bt_zero k)
    · intro q
      refine ⟨k, k0, by omega, ?_⟩
      have w := km k k0 k1
      rcases odd_b w.1 (by have := w.2; omega) with ⟨u, v⟩ | ⟨u, v⟩
      · rw [v]; exact (bt_shl k0 (by omega) k0).mpr rfl
      · exact absurd q u
