/-! the reference: whether the row is a tree -/
def ITR (M : Mem) (S : Int → Int) (r : Int) (M' : Mem) : Prop := M'.2 = M.2 ∧ (∀ a, a ≠ 90 → a ≠ 92 → M'.1 a = M.1 a) ∧ SB M' ∧ ((r = 1 ∧ (0 < M.1 62 3 ∧ S 0 = M.1 62 3) ∧ ∀ i, 0 ≤ i → i < M.1 62 3 → M'.1 92 i = S i) ∨ (r = 0 ∧ ¬ (0 < M.1 62 3 ∧ S 0 = M.1 62 3)))
theorem it9_lp {M : Mem} {S : Int → Int} (hB : SB M) (hg : SgE M) (hL : 0 ≤ M.1 62 3 ∧ M.1 62 3 ≤ 120) (hR : ∀ i, 0 ≤ i → i < M.1 62 3 → 0 ≤ M.1 64 i ∧ M.1 64 i < M.1 1 1) (hS : SPN (rkC M) (M.1 62 3) 0 (M.1 64) S) (P : Option (Int × Mem) → Prop) (k : Int → Mem → Option (Int × Mem)) (h0 : ∀ M', M'.2 = M.2 → (∀ a, a ≠ 90 → a ≠ 92 → M'.1 a = M.1 a) → SB M' → ¬ (0 < M.1 62 3 ∧ S 0 = M.1 62 3) → P (some (0, M'))) (h2 : ∀ (t : Nat) M', M'.2 = M.2 → (∀ a, a ≠ 90 → a ≠ 92 → M'.1 a = M.1 a) → SB M' → Ch S (M'.1 90) (M.1 62 3) t 0 → (∀ i, 0 ≤ i → i < M.1 62 3 → M'.1 92 i = S i) → P (k t M')) : P (L_M_isTree_9 k 62 FU 0 (M.1 62 3 - 1) M) := by
  refine lq2 (n := FU) (a := 0) (b := M.1 62 3 - 1) (M := M) (fun n u v M' => L_M_isTree_9 k 62 n u v M') (fun u v M' => -1 ≤ v ∧ v < M.1 62 3 ∧ M'.2 = M.2 ∧ (∀ a, a ≠ 90 → a ≠ 92 → M'.1 a = M.1 a) ∧ (∃ t : Nat, u = t ∧ Ch S (M'.1 90) (M.1 62 3) t (v + 1)) ∧ ∀ i, v < i → i < M.1 62 3 → M'.1 92 i = S i) (fun u v => (v + 1).toNat) P ?_ ⟨by omega, by omega, rfl, fun _ _ _ => rfl, ⟨0, rfl, by show M.1 62 3 - 1 + 1 = M.1 62 3; omega⟩, fun i a b => by omega⟩ (by have := FU_eq; omega)
  intro n u v M' ⟨v0, v1, s2, o2, ⟨t, eu, hCh⟩, h92⟩ ih
  subst eu
  show P (L_M_isTree_9 k 62 (n + 1) t v M')
  have hB' : SB M' := SB_c hB s2 (fun a k s => by rw [o2 a (by unfold stp at s; omega) (by unfold stp at s; omega)])
  have c64 : M'.1 64 = M.1 64 := o2 64 (by decide) (by decide)
  have c63 : M'.1 63 = M.1 63 := o2 63 (by decide) (by decide)
  rw [L_M_isTree_9]
  by_cases q : v < 0
  · have e : v + 1 = 0 := by omega
    rw [e] at hCh
    simp [-Option.bind_some, -Option.bind_none, gf, pf, rd, wt, ck, ln, lt, bz, nq, up_1, up_2, obs, obn, q]
    exact h2 t M' s2 o2 hB' hCh (fun i a b => h92 i (by omega) b)
  · have v00 : 0 ≤ v := by omega
    have v12 : v < 120 := by omega
    have n6 := hg.1.2.1
    have rr := hR v v00 v1
    have rg := hg.1.rk (M.1 64 v)
    have r63 := hg.2.2 (M.1 64 v) rr.1 rr.2
    have r6 : M.1 64 v < 6 := by omega
    have e1 : wr (v + (-1)) = v - 1 := wr_eq (by omega) (by omega)
    have hle := hCh.le
    have hsv := hS v v00 v1
    unfold sv at hsv
    obtain ⟨fu, efu⟩ : ∃ fu, FU = fu + 1 + 1 + 1 := ⟨99997, FU_eq⟩
    have g1 : gf M' 62 9 54 1 = some 63 := by simp [gf, hB'.m_]
    have g2 : gf M' 62 9 54 2 = some 64 := by simp [gf, hB'.m_]
    have d1 : rd M' 10 64 v = some (M.1 64 v) := by rw [rd_v (n := 120) (by simp [hB'.m_]) v00 (by omega), c64]
    have d2 : rd M' 10 63 (M.1 64 v) = some (rkC M (M.1 64 v)) := by rw [rd_v (n := 6) (by simp [hB'.m_]) rr.1 (by omega), c63, r63]
    simp only [q, if_false, g1, g2, obs, d1, d2]
    -- a failure
    have bad : S v = 0 → P (some (0, M')) := fun z => h0 M' s2 o2 hB' (fun w => hS.nz (Int.le_refl 0) (M.1 62 3).toNat 0 (by omega) (Int.le_refl 0) w.1 (by omega) v v00 (by omega) z)
    -- the end of a step
    have go : ∀ (t' : Nat) (m : Int), m = S v → 1 ≤ m → t' ≤ 119 → (∀ pile' : Int → Int, (∀ j : Nat, j < t' → pile' j = M'.1 90 j) → pile' t' = m → Ch S pile' (M.1 62 3) (t' + 1) v) → P ((gf M' 62 9 54 42).bind fun g65 => (wt M' 10 g65 t' m).bind fun m71 => (gf m71 62 9 54 44).bind fun g73 => (wt m71 10 g73 v m).bind fun m79 => L_M_isTree_9 k 62 n (wr ((t' : Int) + 1)) (wr (v + (-1))) m79) := by
      intro t' m em m1 t9 hc
      have w1 : wr ((t' : Int) + 1) = (t' : Int) + 1 := wr_eq (by omega) (by omega)
      have t0 : (0 : Int) ≤ t' := by omega
      have t12 : (t' : Int) < 120 := by omega
      have t12n : t' < 120 := by omega
      simp [-Option.bind_some, -Option.bind_none, gf, pf, rd, wt, ck, ln, lt, bz, nq, up_1, up_2, obs, obn, hB'.m_, t0, t12, t12n, v00, v12]
      rw [w1, e1]
      refine ih ((t' : Int) + 1) (v - 1) (up (up M' 90 t' m) 92 v m) ⟨by omega, by omega, by rw [up_2, up_2]; exact s2, fun a z0 z1 => by rw [up_n z1, up_n z0]; exact o2 a z0 z1, ⟨t' + 1, by omega, ?_⟩, fun i a b => ?_⟩ (by omega)
      · rw [show v - 1 + 1 = v by omega]
        refine hc _ (fun j hj => ?_) ?_
        · rw [up_n (by decide), up_1, if_neg (by omega)]
        · rw [up_n (by decide), up_1, if_pos ⟨rfl, rfl⟩]
      · by_cases z : i = v
        · rw [z, up_1, if_pos ⟨rfl, rfl⟩]; exact em
        · rw [up_1, if_neg (by omega), up_n (by decide)]; exact h92 i (by omega) b
    by_cases c0 : rkC M (M.1 64 v) = 0
    · rw [if_pos (by omega)] at hsv
      rw [c0, if_pos (by omega), efu, L_M_isTree_38]
      dsimp only
      rw [if_pos (Int.le_refl 0)]
      refine go t 1 hsv.symm (by decide) (by omega) (fun pile' h1 h2 => ?_)
      rw [Ch_s]
      refine ⟨v1, by omega, by rw [h2]; exact hsv.symm, ?_⟩
      rw [hsv]
      exact hCh.c h1
    · rw [if_neg (by omega)] at hsv
      cases t with
      | zero =>
        have e : v + 1 = M.1 62 3 := hCh
        rw [if_pos (Or.inl (by omega))] at hsv
        rw [if_neg (by omega)]
        exact bad hsv
      | succ t =>
        rw [Ch_s] at hCh
        obtain ⟨p1, p2, p3, p4⟩ := hCh
        rw [if_neg (by omega)] at hsv
        have hle2 := p4.le
        have w1 : wr (((t + 1 : Nat) : Int) + (-1)) = (t : Int) := by rw [wr_eq (by omega) (by omega)]; omega
        have x0 : (0 : Int) ≤ t := by omega
        have x12 : (t : Int) < 120 := by omega
        have w2 : wr (1 + S (v + 1)) = 1 + S (v + 1) := wr_eq (by omega) (by omega)
        have g42 : gf M' 62 9 54 42 = some 90 := by simp [gf, hB'.m_]
        have d3 : rd M' 10 90 (t : Int) = some (S (v + 1)) := by rw [rd_v (n := 120) (by simp [hB'.m_]) x0 (by omega), p3]
        by_cases c1 : rkC M (M.1 64 v) = 1
        · rw [if_pos (by omega)] at hsv
          rw [c1, if_pos (by omega), efu, L_M_isTree_38]
          dsimp only
          rw [if_neg (by decide), g42, obs, w1, d3, obs]
          unfold lt
          rw [w2, show wr (0 + 1) = 1 from wr_eq (by decide) (by decide), L_M_isTree_38]
          dsimp only
          rw [if_pos (Int.le_refl 1)]
          refine go t (1 + S (v + 1)) hsv.symm (by omega) (by omega) (fun pile' h1 h2 => ?_)
          rw [Ch_s]
          refine ⟨v1, by omega, by rw [h2]; exact hsv.symm, ?_⟩
          rw [hsv, show v + (1 + S (v + 1)) = v + 1 + S (v + 1) by omega]
          exact p4.c h1
        · have c2 : rkC M (M.1 64 v) = 2 := by omega
          rw [if_neg (by omega)] at hsv
          cases t with
          | zero =>
            have e : v + 1 + S (v + 1) = M.1 62 3 := p4
            rw [if_pos (Or.inl (by omega))] at hsv
            rw [c2, if_neg (by omega)]
            exact bad hsv
          | succ t =>
            rw [Ch_s] at p4
            obtain ⟨p5, p6, p7, p8⟩ := p4
            rw [if_neg (by omega)] at hsv
            have hle3 := p8.le
            have w3 : wr (((t + 1 : Nat) : Int) + (-1)) = (t : Int) := by rw [wr_eq (by omega) (by omega)]; omega
            have w4 : wr (1 + S (v + 1) + S (v + 1 + S (v + 1))) = 1 + S (v + 1) + S (v + 1 + S (v + 1)) := wr_eq (by omega) (by omega)
            have d4 : rd M' 10 90 (t : Int) = some (S (v + 1 + S (v + 1))) := by rw [rd_v (n := 120) (by simp [hB'.m_]) (by omega) (by omega), p7]
            rw [c2, if_pos (by omega), efu, L_M_isTree_38]
            dsimp only
            rw [if_neg (by decide), g42, obs, w1, d3, obs]
            unfold lt
            rw [w2, show wr (0 + 1) = 1 from wr_eq (by decide) (by decide), L_M_isTree_38]
            dsimp only
            rw [if_neg (by decide), g42, obs, w3, d4, obs]
            unfold lt
            rw [w4, show wr (1 + 1) = 2 from wr_eq (by decide) (by decide), L_M_isTree_38]
            dsimp only
            rw [if_pos (Int.le_refl 2)]
            refine go t (1 + S (v + 1) + S (v + 1 + S (v + 1))) hsv.symm (by omega) (by omega) (fun pile' h1 h2 => ?_)
            rw [Ch_s]
            refine ⟨v1, by omega, by rw [h2]; exact hsv.symm, ?_⟩
            rw [hsv, show v + (1 + S (v + 1) + S (v + 1 + S (v + 1))) = v + 1 + S (v + 1) + S (v + 1 + S (v + 1)) by omega]
            exact p8.c h1
theorem isTree_r {M : Mem} {S : Int → Int} (hB : SB M) (hg : SgE M) (hL : 0 ≤ M.1 62 3 ∧ M.1 62 3 ≤ 120) (hR : ∀ i, 0 ≤ i → i < M.1 62 3 → 0 ≤ M.1 64 i ∧ M.1 64 i < M.1 1 1) (hS : SPN (rkC M) (M.1 62 3) 0 (M.1 64) S) : OkV (D_M_isTree 62 M) (fun r M' => ITR M S r M') := by
  have e0 : wr (M.1 62 3 - 1) = M.1 62 3 - 1 := wr_eq (by omega) (by omega)
  have g3 : gf M 62 9 54 3 = some (M.1 62 3) := by simp [gf, hB.m_]
  unfold D_M_isTree
  rw [g3, obs]
  unfold lt
  rw [e0]
  refine it9_lp hB hg hL hR hS (fun o => OkV o (fun r M' => ITR M S r M')) _ (fun M' s2 o2 hB' hn => OkV.i ⟨s2, o2, hB', Or.inr ⟨rfl, hn⟩⟩) (fun t M' s2 o2 hB' hCh h92 => ?_)
  cases t with
  | zero =>
    have e : (0 : Int) = M.1 62 3 := hCh
    rw [if_neg (by decide)]
    exact OkV.i ⟨s2, o2, hB', Or.inr ⟨rfl, by omega⟩⟩
  | succ t =>
    rw [Ch_s] at hCh
    cases t with
    | zero =>
      have e : 0 + S 0 = M.1 62 3 := hCh.2.2.2
      rw [if_pos (by decide)]
      exact OkV.i ⟨s2, o2, hB', Or.inl ⟨rfl, ⟨hCh.1, by omega⟩, h92⟩⟩
    | succ t =>
      have w := hCh.2.2.2
      rw [Ch_s] at w
      rw [if_neg (by omega)]
      exact OkV.i ⟨s2, o2, hB', Or.inr ⟨rfl, by omega⟩⟩
theorem told_both {L : Nat} {xs : Int → Int} {M : Mem} (h : Inv L xs M) (w : Int) : Both L xs (D_T_told 0 w) (D_M_told 62 w) M := by
  have h0 := h
  obtain ⟨tc, hI, e7, e4, hC⟩ := h
  have hB := hI.sb
  have hg := hI.sg
  have hr := hI.rw_
  have same : ∀ v, D_T_told 0 w M = some (v, M) → D_M_told 62 w M = some (v, M) → Both L xs (D_T_told 0 w) (D_M_told 62 w) M := fun v p q => ⟨v, M, M, p, q, hC, h0, hB⟩
  by_cases b : w < 0 ∨ 3 < w
  · refine same (-2) ?_ ?_
    · unfold D_T_told
      rw [if_pos b]
    · unfold D_M_told
      rw [if_pos b]
  · have c : w = 0 ∨ w = 1 ∨ w = 2 ∨ w = 3 := by omega
    rcases c with c | c | c | c <;> subst c
    · refine same (M.1 1 1) ?_ ?_
      · unfold D_T_told
        simp [-Option.bind_some, -Option.bind_none, gf, pf, rd, wt, ck, ln, lt, bz, nq, up_1, up_2, obs, obn, hB.t_, hB.s_]
      · unfold D_M_told
        simp [-Option.bind_some, -Option.bind_none, gf, pf, rd, wt, ck, ln, lt, bz, nq, up_1, up_2, obs, obn, hB.m_, hg.2.1]
    · refine same (M.1 3 4) ?_ ?_
      · unfold D_T_told
        simp [-Option.bind_some, -Option.bind_none, gf, pf, rd, wt, ck, ln, lt, bz, nq, up_1, up_2, obs, obn, hB.t_, hB.r_]
      · unfold D_M_told
        simp [-Option.bind_some, -Option.bind_none, gf, pf, rd, wt, ck, ln, lt, bz, nq, up_1, up_2, obs, obn, hB.m_, hr.2.1]
    · refine same tc ?_ ?_
      · unfold D_T_told
        simp [-Option.bind_some, -Option.bind_none, gf, pf, rd, wt, ck, ln, lt, bz, nq, up_1, up_2, obs, obn, hB.t_, e7]
      · unfold D_M_told
        simp [-Option.bind_some, -Option.bind_none, gf, pf, rd, wt, ck, ln, lt, bz, nq, up_1, up_2, obs, obn, hB.m_, e4]
    · obtain ⟨r, M1, d1, s1, o1, hB1, hS, hr1⟩ := isTree_c hB hg.1 hr.1
      have hg1 : SgE M1 := hg.c (o1 1 (by decide)) (o1 2 (by decide)) (by rw [o1 62 (by decide)]) (o1 63 (by decide))
      have n1 : M1.1 1 = M.1 1 := o1 1 (by decide)
      have ek : rkC M1 = rkC M := rk_c n1 (o1 2 (by decide))
      have c62 : M1.1 62 3 = M.1 3 4 := by rw [o1 62 (by decide)]; exact hr.2.1
      have c64 : M1.1 64 = M.1 64 := o1 64 (by decide)
      have hS' : SPN (rkC M1) (M1.1 62 3) 0 (M1.1 64) (M1.1 5) := by
        intro i a b
        rw [c62] at b
        rw [hS i a b, ek, c62, c64]
        unfold sv
        rw [(hr.2.2 i a b).1]
      obtain ⟨r', M2, d2, s2, o2, hB2, hr2⟩ := isTree_r (S := M1.1 5) hB1 hg1 (by rw [c62]; exact hr.1) (fun i a b => by rw [c62] at b; rw [c64, n1, (hr.2.2 i a b).1]; exact (hr.2.2 i a b).2) hS'
      rw [c62] at hr2
      have er : r = r' ∧ (r = 0 ∨ r = 1) := by
        rcases hr1 with ⟨u, v⟩ | ⟨u, v⟩ <;> rcases hr2 with ⟨u', v', _⟩ | ⟨u', v'⟩
        · omega
        · exact absurd v v'
        · exact absurd v' v
        · omega
      obtain ⟨er, r01⟩ := er
      subst er
      have all : ∀ a, a ≠ 5 → a ≠ 90 → a ≠ 92 → M2.1 a = M.1 a := fun a q1 q2 q3 => by rw [o2 a q2 q3, o1 a q1]
      have sc1 : SC L xs M1 := ⟨by rw [s1]; exact hC.1, by rw [o1 _ (by decide)]; exact hC.2⟩
      refine ⟨r, M1, M2, ?_, ?_, sc1, ⟨tc, ?_, ?_, ?_, ?_⟩, hB1⟩
      · unfold D_T_told
        rcases r01 with z | z <;> subst z
        · simp [-Option.bind_some, -Option.bind_none, gf, pf, rd, wt, ck, ln, lt, bz, nq, up_1, up_2, obs, obn, hB.t_, hB.r_, d1]
        · simp [-Option.bind_some, -Option.bind_none, gf, pf, rd, wt, ck, ln, lt, bz, nq, up_1, up_2, obs, obn, hB.t_, hB.r_, d1]
      · unfold D_M_told
        rcases r01 with z | z <;> subst z
        · simp [-Option.bind_some, -Option.bind_none, gf, pf, rd, wt, ck, ln, lt, bz, nq, up_1, up_2, obs, obn, hB1.m_, d2]
        · simp [-Option.bind_some, -Option.bind_none, gf, pf, rd, wt, ck, ln, lt, bz, nq, up_1, up_2, obs, obn, hB1.m_, d2]
      · refine hI.c ⟨hI.tc_.1, Int.le_refl _⟩ (s2.trans s1) hB2 (hg.c (all 1 (by decide) (by decide) (by decide)) (all 2 (by decide) (by decide) (by decide)) (by rw [all 62 (by decide) (by decide) (by decide)]) (all 63 (by decide) (by decide) (by decide))) (hI.2.2.1.c (all 1 (by decide) (by decide) (by decide)) (all 2 (by decide) (by decide) (by decide))) ?_ (all 7 (by decide) (by decide) (by decide)) (fun a a0 a1 => all a (by omega) (by omega) (by omega)) (fun a a0 a1 => all a (by omega) (by omega) (by omega)) (fun a a0 a1 => all a (by omega) (by omega) (by omega)) (Or.inr ⟨by rw [all 1 (by decide) (by decide) (by decide)], rk_c (all 1 (by decide) (by decide) (by decide)) (all 2 (by decide) (by decide) (by decide))⟩)
        unfold RW
        rw [all 1 (by decide) (by decide) (by decide), all 3 (by decide) (by decide) (by decide), all 4 (by decide) (by decide) (by decide), all 62 (by decide) (by decide) (by decide), all 64 (by decide) (by decide) (by decide)]
        exact hr
      · rw [all 0 (by decide) (by decide) (by decide)]; exact e7
      · rw [all 62 (by decide) (by decide) (by decide)]; exact e4
      · exact ⟨by rw [s2]; exact sc1.1, by rw [o2 _ (by decide) (by decide)]; exact sc1.2⟩
