/-! a place for a tongue -/
theorem MS.c {M M' : Mem} {p : Int} (h : MS M p) (e : ∀ k, k < 10 → M'.1 p k = M.1 p k) (s : ∀ a, p ≤ a → a ≤ p + 9 → M'.2.1 a = M.2.1 a) : MS M' p := by
  unfold MS
  rw [s p (by omega) (by omega), s (p + 1) (by omega) (by omega), s (p + 2) (by omega) (by omega), s (p + 3) (by omega) (by omega), s (p + 4) (by omega) (by omega), s (p + 5) (by omega) (by omega), s (p + 6) (by omega) (by omega), s (p + 7) (by omega) (by omega), s (p + 8) (by omega) (by omega), s (p + 9) (by omega) (by omega), e 0 (by decide), e 1 (by decide), e 2 (by decide), e 3 (by decide), e 4 (by decide), e 5 (by decide), e 6 (by decide), e 7 (by decide), e 8 (by decide), e 9 (by decide)]
  exact h
theorem TS.c {M M' : Mem} {t : Int} (h : TS M t) (e : ∀ k, k < 3 → M'.1 t k = M.1 t k) (s : ∀ a, t ≤ a → a ≤ t + 1 → M'.2.1 a = M.2.1 a) : TS M' t := by
  unfold TS
  rw [s t (by omega) (by omega), s (t + 1) (by omega) (by omega), e 0 (by decide), e 1 (by decide), e 2 (by decide)]
  exact h
theorem al_o {M : Mem} {kd n : Nat} {a : Int} (h : a ≠ (M.2.2 : Int)) : (al M kd n).1 a = M.1 a ∧ (al M kd n).2.1 a = M.2.1 a := by
  refine ⟨?_, by rw [al_s, if_neg h]⟩
  funext i
  rw [al_1, if_neg h]
theorem tongueInit_ok {M : Mem} {t : Int} (hS : M.2.1 t = (7, 8)) (hn : (M.2.2 : Int) = t + 1) (hl : M.2.2 < 700000) : ∃ M', D_Tongue_init t 1 M = some M' ∧ (M'.2.2 : Int) = t + 12 ∧ (∀ a, a < t ∨ t + 12 ≤ a → M'.1 a = M.1 a ∧ M'.2.1 a = M.2.1 a) ∧ TS M' t ∧ MS M' (t + 2) := by
  have w0 : Nw M M t 0 := ⟨by omega, fun _ _ => ⟨rfl, rfl⟩, rfl⟩
  unfold D_Tongue_init
  have st : ∀ {M' : Mem} {j : Nat}, Nw M M' t j → j ≤ 9 → M'.2.2 < 900000 ∧ M'.2.1 t = (7, 8) ∧ t ≠ (M'.2.2 : Int) := fun h hj => ⟨by have := h.1; omega, by rw [h.2.2]; exact hS, by have := h.1; omega⟩
  have ck0 : ck M t 7 8 = some () := by unfold ck; rw [if_pos hS]
  rw [ck0, obs]
  rw [na_pf (f := 2) (fi := 2) (len := 150) (n := 150) rfl rfl (by decide) (st w0 (by decide)).1 (st w0 (by decide)).2.1 (st w0 (by decide)).2.2]
  have w1 := w0.nf (kd := 10) (n := 150) (f := 2)
  have wa := w1.up (k := 3) (v := 0)
  have wb := wa.up (k := 4) (v := 0)
  have wc := wb.up (k := 5) (v := 0)
  have wd := wc.up (k := 6) (v := 0)
  have we := wd.up (k := 7) (v := 0)
  have wf := we.up (k := 0) (v := 1)
  rw [pf_v (f := 3) (fi := 3) rfl (st w1 (by decide)).2.1, pf_v (f := 4) (fi := 4) rfl (st wa (by decide)).2.1, pf_v (f := 5) (fi := 5) rfl (st wb (by decide)).2.1, pf_v (f := 6) (fi := 6) rfl (st wc (by decide)).2.1, pf_v (f := 7) (fi := 7) rfl (st wd (by decide)).2.1, pf_v (f := 0) (fi := 0) rfl (st we (by decide)).2.1]
  have sf := st wf (by decide)
  have n0 : t ≠ (M.2.2 : Int) := (st w0 (by decide)).2.2
  have f0 : (up (up (up (up (up (up (nf M t 10 150 2) t 3 0) t 4 0) t 5 0) t 6 0) t 7 0) t 0 1).1 t 0 = 1 := by simp [up_1]
  have f2 : (up (up (up (up (up (up (nf M t 10 150 2) t 3 0) t 4 0) t 5 0) t 6 0) t 7 0) t 0 1).1 t 2 = t + 1 := by
    simp only [up_1]
    rw [if_neg (by decide), if_neg (by decide), if_neg (by decide), if_neg (by decide), if_neg (by decide), if_neg (by decide), nf_1 n0, if_pos rfl]
    omega
  have s1 : (up (up (up (up (up (up (nf M t 10 150 2) t 3 0) t 4 0) t 5 0) t 6 0) t 7 0) t 0 1).2.1 (t + 1) = (10, 150) := by
    simp only [up_2]
    rw [nf_s, if_pos (by omega)]
  generalize up (up (up (up (up (up (nf M t 10 150 2) t 3 0) t 4 0) t 5 0) t 6 0) t 7 0) t 0 1 = M1 at *
  have k1 : (M1.2.2 : Int) = t + 2 := by have := wf.1; omega
  rw [nw_al sf.1, obs]
  have ck1 : ck (al M1 1 14) (M1.2.2 : Int) 1 14 = some () := by
    unfold ck
    rw [al_s, if_pos rfl, if_pos rfl]
  dsimp only
  rw [ck1, obs, k1]
  obtain ⟨M3, e3, w3, ms3⟩ := machineInit_ok (M := al M1 1 14) (a0 := t + 2) (by rw [al_s, if_pos k1.symm]) (by rw [al_n]; omega) (by rw [al_n]; omega)
  rw [e3, obs]
  have o3 : ∀ a, a < t + 2 ∨ t + 12 ≤ a → M3.1 a = M1.1 a ∧ M3.2.1 a = M1.2.1 a := fun a ha => by
    have u := w3.2.1 a (by omega)
    have v := al_o (M := M1) (kd := 1) (n := 14) (a := a) (by omega)
    exact ⟨u.1.trans v.1, u.2.trans v.2⟩
  have s3 : M3.2.1 t = (7, 8) := by rw [(o3 t (by omega)).2]; exact sf.2.1
  rw [pf_v (f := 1) (fi := 1) rfl s3]
  refine ⟨_, rfl, by rw [up_2]; have := w3.1; omega, fun a ha => ?_, ?_, ?_⟩
  · rw [up_n (by omega), up_2]
    have u := o3 a (by omega)
    have v := wf.2.1 a (by omega)
    exact ⟨u.1.trans v.1, u.2.trans v.2⟩
  · unfold TS
    rw [up_2]
    refine ⟨s3, ?_, ?_, ?_, ?_⟩
    · rw [(o3 (t + 1) (by omega)).2]; exact s1
    · rw [up_1, if_neg (by omega), (o3 t (by omega)).1]; exact f0
    · rw [up_1, if_pos ⟨rfl, rfl⟩]
    · rw [up_1, if_neg (by omega), (o3 t (by omega)).1]; exact f2
  · refine MS.c ms3 (fun k _ => by rw [up_n (by omega)]) (fun a _ _ => by rw [up_2])
theorem slot_ok {M : Mem} {k : Int} (hB : SB M) (hS : SL M k) (k0 : 0 ≤ k) (k1 : k < 16) : ∃ M', D_T_slot 0 k M = some (100 + 12 * k, M') ∧ SL M' (k + 1) ∧ SB M' ∧ (∀ a, a ≠ 7 → a < 100 + 12 * k ∨ 112 + 12 * k ≤ a → M'.1 a = M.1 a ∧ M'.2.1 a = M.2.1 a) := by
  have hS0 := hS
  obtain ⟨sc, s0, s1, s2, s3, s4⟩ := hS
  by_cases q : k < sc
  · have w := (s3 k k0 q).1
    have w' : ¬ 100 + 12 * k < 0 := by omega
    refine ⟨M, ?_, ⟨sc, by omega, s1, s2, s3, s4⟩, hB, fun _ _ _ => ⟨rfl, rfl⟩⟩
    unfold D_T_slot
    simp [-Option.bind_some, -Option.bind_none, gf, pf, rd, wt, ck, ln, lt, bz, nq, up_1, up_2, obs, obn, hB.t_, k0, k1, w, w']
  · have e : sc = k := by omega
    subst e
    have w := s4 sc (Int.le_refl _) k1
    have hl : M.2.2 < 900000 := by omega
    obtain ⟨M2, e2, n2, o2, ts2, ms2⟩ := tongueInit_ok (M := al M 7 8) (t := 100 + 12 * sc) (by rw [al_s, if_pos s2.symm]) (by rw [al_n]; omega) (by rw [al_n]; omega)
    have oo : ∀ a, a < 100 + 12 * sc ∨ 100 + 12 * sc + 12 ≤ a → M2.1 a = M.1 a ∧ M2.2.1 a = M.2.1 a := fun a ha => by
      have u := o2 a (by omega)
      have v := al_o (M := M) (kd := 7) (n := 8) (a := a) (by omega)
      exact ⟨u.1.trans v.1, u.2.trans v.2⟩
    have hB2 : SB M2 := SB_al hB (fun a ha => (oo a (by omega)).2) (fun a ha => (oo a (by omega)).1)
    have hB1 : SB (al M 7 8) := SB_al hB (fun a ha => (al_o (by omega)).2) (fun a ha => (al_o (by omega)).1)
    have nw' := nw_al hl 7 8
    rw [s2] at nw'
    have c7 : (al M 7 8).2.1 (100 + 12 * sc) = (7, 8) := by rw [al_s, if_pos s2.symm]
    have d7 : M2.2.1 (100 + 12 * sc) = (7, 8) := ts2.1
    refine ⟨up M2 7 sc (100 + 12 * sc), ?_, ⟨sc + 1, Int.le_refl _, by omega, ?_, fun k' a b => ?_, fun k' a b => ?_⟩, SB_up hB2 (by unfold stp; omega), fun a h7 ha => ?_⟩
    · unfold D_T_slot
      simp [-Option.bind_some, -Option.bind_none, gf, pf, rd, wt, ck, ln, lt, bz, nq, up_1, up_2, obs, obn, hB.t_, k0, k1, w, nw', hB1.t_, c7, e2, d7, hB2.t_]
    · rw [up_2]; omega
    · by_cases z : k' = sc
      · subst z
        refine ⟨by rw [up_1, if_pos ⟨rfl, rfl⟩], ?_, ?_⟩
        · exact TS.c ts2 (fun j _ => by rw [up_n (by omega)]) (fun a _ _ => by rw [up_2])
        · have := MS.c (M' := up M2 7 k' (100 + 12 * k')) ms2 (fun j _ => by rw [up_n (by omega)]) (fun a _ _ => by rw [up_2])
          rw [show 100 + 12 * k' + 2 = 102 + 12 * k' by omega] at this
          exact this
      · obtain ⟨u1, u2, u3⟩ := s3 k' a (by omega)
        refine ⟨by rw [up_1, if_neg (fun y => z y.2), (oo 7 (by omega)).1]; exact u1, ?_, ?_⟩
        · refine TS.c u2 (fun j _ => ?_) (fun a' a0 a1 => ?_)
          · rw [up_n (by clear u2 u3; omega), (oo _ (by clear u2 u3; omega)).1]
          · rw [up_2, (oo _ (by clear u2 u3; omega)).2]
        · refine MS.c u3 (fun j _ => ?_) (fun a' a0 a1 => ?_)
          · rw [up_n (by clear u2 u3; omega), (oo _ (by clear u2 u3; omega)).1]
          · rw [up_2, (oo _ (by clear u2 u3; omega)).2]
    · rw [up_1, if_neg (by omega), (oo 7 (by omega)).1]
      exact s4 k' (by omega) b
    · rw [up_n h7, up_2]
      exact oo a (by omega)
