/-! whether sets of one kind lead to one kind -/
def Ad (N : Mem) (Pd : Int → Int → Int → Prop) (s x y : Int) : Int → Int → Int → Prop := fun s' x' y' => Pd s' x' y' ∨ (s' = s ∧ (1 ≤ rkC N s → x' = x) ∧ (2 ≤ rkC N s → y' = y))
theorem RR.mono {N M : Mem} {m : Nat} {Pd Pd' : Int → Int → Int → Prop} (h : RR N m Pd M) (hp : ∀ s x y, 0 ≤ s → s < N.1 1 1 → Pd' s x y → Pd s x y) : RR N m Pd' M :=
  ⟨h.1, h.2.1, ⟨h.2.2.1.1, fun s x y s0 s1 p => h.2.2.1.2 s x y s0 s1 (hp s x y s0 s1 p)⟩, h.2.2.2⟩
theorem agrees_ok {N M : Mem} {m : Nat} {Pd : Int → Int → Int → Prop} (E : Env N) (h : RR N m Pd M) {s x y z : Int} (s0 : 0 ≤ s) (s1 : s < N.1 1 1) (r1 : 1 ≤ rkC N s) (hx : 0 ≤ x ∧ x < M.1 10 6) (hy : 0 ≤ y ∧ y < M.1 10 6) (hz : z = dN N s (M.1 11 x) (M.1 11 y)) (hP : ∀ x' y', 0 ≤ x' → x' ≤ x → 0 ≤ y' → y' ≤ y → (x' < x ∨ (2 ≤ rkC N s ∧ y' < y)) → Pd s x' y') : OkV (D_Reducer_agrees 10 s x y z M) (fun t M' => (t = 0 ∧ (Fl N M' ∨ FO N m M')) ∨ (t = 1 ∧ RR N m (Ad N Pd s x y) M' ∧ Gr M M')) := by
  have hS := h.1.1.1.d_
  have rS : ∀ i, 0 ≤ i → i < M.1 10 6 → RN N (M.1 11 i) := fun i a b => (h.1.2.2.2.2.1 i a b).1
  have hz' : RN N z := by rw [hz]; exact Rch.mk s0 s1 (fun _ => rS x hx.1 hx.2) (fun _ => rS y hy.1 hy.2)
  obtain ⟨t, M2, er, hres⟩ := reach_ok E h hz'
  unfold D_Reducer_agrees
  rcases hres with ⟨ht, f1, f2, f3⟩ | ⟨t0, t1, tz, tn, h2, hg, -⟩
  · simp [-Option.bind_some, -Option.bind_none, gf, pf, rd, wt, ck, ln, lt, bz, nq, up_1, up_2, obs, obn, hS, er, ht]
    exact OkV.i (Or.inl ⟨rfl, Or.inl ⟨f1, f2, f3⟩⟩)
  · have nt : ¬ t = -1 := by omega
    have hF2 := h2.1.1
    have hS2 := hF2.1.d_
    have r384 := h2.1.2.2.2.1
    have n6 := E.2.1.2.1
    have g1 := hg.1
    have hx2 : 0 ≤ x ∧ x < M2.1 10 6 := ⟨hx.1, by omega⟩
    have hy2 : 0 ≤ y ∧ y < M2.1 10 6 := ⟨hy.1, by omega⟩
    have kx := h2.2.1.2.2.2.2.1 x hx2.1 hx2.2
    have ky := h2.2.1.2.2.2.2.1 y hy2.1 hy2.2
    have kt := h2.2.1.2.2.2.2.1 t t0 t1
    have k6 := h2.2.1.1
    have hz2 : z = dN N s (M2.1 11 x) (M2.1 11 y) := by
      rw [hz, (hg.2.1 x hx.1 hx.2).1, (hg.2.1 y hy.1 hy.2).1]
    have x3 : x < 384 := by omega
    have y3 : y < 384 := by omega
    have t3 : t < 384 := by omega
    have ce := cell_ok hF2.1.s_ (by rw [hF2.c1]; omega) (s := s) (x := M2.1 13 x) (y := M2.1 13 y) (w := 6) ⟨s0, by omega⟩ (by decide) (fun q => by omega) (fun q => by omega)
    rw [hF2.rk] at ce
    have cr := cel_r (r := rkC N s) (s := s) (k1 := M2.1 13 x) (k2 := M2.1 13 y) ⟨s0, by omega⟩ (fun _ => by omega) (fun _ => by omega)
    have en : M2.1 14 z - 1 = t := by omega
    by_cases ho : M2.1 17 (cel (rkC N s) s (M2.1 13 x) (M2.1 13 y) 6) = -1
    · generalize hc : cel (rkC N s) s (M2.1 13 x) (M2.1 13 y) 6 = c at *
      simp [-Option.bind_some, -Option.bind_none, gf, pf, rd, wt, ck, ln, lt, bz, nq, up_1, up_2, obs, obn, hS, er, nt, hS2, hF2.1.s_, hx2, hy2, x3, y3, ce, cr, ho, t0, t3]
      refine OkV.i (Or.inr ⟨rfl, ⟨?_, ?_, ?_, by simp [-Option.bind_some, -Option.bind_none, gf, pf, rd, wt, ck, ln, lt, bz, nq, up_1, up_2, obs, obn, h2.2.2.2.1], by simp [-Option.bind_some, -Option.bind_none, gf, pf, rd, wt, ck, ln, lt, bz, nq, up_1, up_2, obs, obn, h2.2.2.2.2.1], by simp [-Option.bind_some, -Option.bind_none, gf, pf, rd, wt, ck, ln, lt, bz, nq, up_1, up_2, obs, obn, h2.2.2.2.2.2]⟩, ?_⟩)
      · exact (h2.1.c (M' := up M2 17 c (M2.1 13 t)) (hF2.up (by decide) (by decide) (by unfold stp; omega)) (fun a a0 a1 => up_n (by omega)) (by simp [-Option.bind_some, -Option.bind_none, gf, pf, rd, wt, ck, ln, lt, bz, nq, up_1, up_2, obs, obn]) (by simp [-Option.bind_some, -Option.bind_none, gf, pf, rd, wt, ck, ln, lt, bz, nq, up_1, up_2, obs, obn]) (by simp [up_f]) (by simp [up_f])).1
      · have w := h2.1.c (M' := up M2 17 c (M2.1 13 t)) (hF2.up (by decide) (by decide) (by unfold stp; omega)) (fun a a0 a1 => up_n (by omega)) (by simp [-Option.bind_some, -Option.bind_none, gf, pf, rd, wt, ck, ln, lt, bz, nq, up_1, up_2, obs, obn]) (by simp [-Option.bind_some, -Option.bind_none, gf, pf, rd, wt, ck, ln, lt, bz, nq, up_1, up_2, obs, obn]) (by simp [up_f]) (by simp [up_f])
        unfold KPm
        rw [w.2]
        simpa [up_f, up_1, ud_a] using h2.2.1
      · have w := h2.1.c (M' := up M2 17 c (M2.1 13 t)) (hF2.up (by decide) (by decide) (by unfold stp; omega)) (fun a a0 a1 => up_n (by omega)) (by simp [-Option.bind_some, -Option.bind_none, gf, pf, rd, wt, ck, ln, lt, bz, nq, up_1, up_2, obs, obn]) (by simp [-Option.bind_some, -Option.bind_none, gf, pf, rd, wt, ck, ln, lt, bz, nq, up_1, up_2, obs, obn]) (by simp [up_f]) (by simp [up_f])
        unfold TPm
        rw [w.2]
        have fst := h2.2.2.1.first h2.2.1 s0 s1 hx2 hy2 hP (by rw [hc]; exact ho) r1
        have q := h2.2.2.1.put (dg N) h2.2.1 s0 s1 (fun _ => hx2) (fun _ => hy2) hz2 (by omega) (by omega) (by rw [en]; exact tz) (fun _ => fst.1) fst.2 (by rw [hc]; exact ho) (Pd' := Ad N Pd s x y) (fun _ _ _ p => p)
        rw [hc, en] at q
        simpa [up_f, up_1] using q
      · refine hg.tr ⟨by simp [-Option.bind_some, -Option.bind_none, gf, pf, rd, wt, ck, ln, lt, bz, nq, up_1, up_2, obs, obn], fun i i0 i1 => by simp [up_f], fun a a0 a1 => up_n (by omega)⟩
    · by_cases he : M2.1 17 (cel (rkC N s) s (M2.1 13 x) (M2.1 13 y) 6) = M2.1 13 t
      · have he' : ¬ M2.1 13 t = -1 := by omega
        simp [-Option.bind_some, -Option.bind_none, gf, pf, rd, wt, ck, ln, lt, bz, nq, up_1, up_2, obs, obn, hS, er, nt, hS2, hF2.1.s_, hx2, hy2, x3, y3, ce, cr, he, he', t0, t3]
        refine OkV.i (Or.inr ⟨rfl, ⟨h2.1, h2.2.1, ?_, h2.2.2.2⟩, hg⟩)
        exact h2.2.2.1.has (dg N) (fun _ => hx2) (fun _ => hy2) hz2 (by omega) (by omega) (by rw [en]; exact he) (fun _ _ _ p => p)
      · have tc := h2.2.2.1.1 s (M2.1 13 x) (M2.1 13 y) s0 s1 (by omega) (by omega) (by omega) (by omega)
        obtain ⟨w1, w2, -, -, w5⟩ : 0 ≤ M2.1 17 (cel (rkC N s) s (M2.1 13 x) (M2.1 13 y) 6) ∧ M2.1 17 (cel (rkC N s) s (M2.1 13 x) (M2.1 13 y) 6) < M2.1 10 10 ∧ _ := by
          rcases tc with q | q
          · exact absurd q ho
          · exact q
        generalize hc : cel (rkC N s) s (M2.1 13 x) (M2.1 13 y) 6 = c at *
        have c6 : M2.1 17 c < 6 := by omega
        have e12 : M2.1 12 t = mkB M2 z := by rw [kt.1, tz]
        obtain ⟨M3, ea, ho3⟩ := addProbe_ok E h2 s0 s1 r1 hx2 hy2 hz2 (t := M2.1 17 c) w5 (by
          intro q
          refine he (h2.2.1.2.2.2.1 _ _ w1 w2 kt.2.1 kt.2.2.1 ?_)
          rw [kt.2.2.2, tz, q])
        simp [-Option.bind_some, -Option.bind_none, gf, pf, rd, wt, ck, ln, lt, bz, nq, up_1, up_2, obs, obn, hS, er, nt, hS2, hF2.1.s_, hx2, hy2, x3, y3, ce, cr, ho, he, t0, t3, w1, c6, e12, ea]
        exact OkV.i (Or.inl ⟨rfl, Or.inr ho3⟩)
