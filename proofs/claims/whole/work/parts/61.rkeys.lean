/-! the reference: all keys -/
theorem RA.m {N M : Mem} {nx : Int → Int → Int → Int} {fn : Int → Int} (R : RA N nx fn) (h : KC N M) : SB M ∧ M.1 62 0 = N.1 1 1 ∧ ∀ s, 0 ≤ s → s < N.1 1 1 → M.1 63 s = rkC N s := by
  refine ⟨h.sb R.1, ?_, fun s s0 s1 => ?_⟩
  · rw [h.2.2 0 (by decide) (by decide)]; exact R.2.1.2.1
  · rw [h.2.1 63 (by decide) (by decide)]; exact R.2.1.2.2 s s0 s1
theorem fk7_lp {N M : Mem} {nx : Int → Int → Int → Int} {fn : Int → Int} (R : RA N nx fn) (P : Option Mem → Prop) (k : Mem → Option Mem) (h2 : ∀ M', KI N nx (PdL N 0) M' → P (k M')) (hC : KC N M) (h76 : F76 N M) (h0 : M.1 62 26 = 0) : P (L_M_findKeys_7 k 62 FU 0 M) := by
  refine lq1 (fun n v M' => L_M_findKeys_7 k 62 n v M') (fun v M' => 0 ≤ v ∧ v ≤ 512 ∧ KC N M' ∧ F76 N M' ∧ M'.1 62 26 = 0 ∧ ∀ z, 0 ≤ z → z < v → M'.1 81 z = -1) (fun v => (512 - v).toNat) P ?_ ⟨Int.le_refl 0, by decide, hC, h76, h0, fun z a b => by omega⟩ (by have := FU_eq; omega)
  clear hC h76 h0 M
  intro n v M ⟨v0, v1, hC, h76, h0, hz⟩ ih
  show P (L_M_findKeys_7 k 62 (n + 1) v M)
  have hS := (hC.sb R.1).m_
  rw [L_M_findKeys_7]
  by_cases hv : 512 ≤ v
  · simp [-Option.bind_some, -Option.bind_none, gf, pf, rd, wt, ck, ln, lt, bz, nq, up_1, up_2, obs, obn, hv]
    refine h2 M ⟨hC, ⟨by omega, fun i a b => by omega, fun z a b => Or.inl (hz z a (by omega))⟩, fun s x y s0 s1 p => ?_, h76⟩
    have := p.2
    omega
  · have e1 : wr (v + 1) = v + 1 := wr_eq (by omega) (by omega)
    have hv' : v < 512 := by omega
    simp [-Option.bind_some, -Option.bind_none, gf, pf, rd, wt, ck, ln, lt, bz, nq, up_1, up_2, obs, obn, hv, hS, v0, hv', e1]
    refine ih (v + 1) _ ⟨by omega, by omega, hC.up (by omega), h76.up (by omega), by simp [-Option.bind_some, -Option.bind_none, gf, pf, rd, wt, ck, ln, lt, bz, nq, up_1, up_2, obs, obn, h0], fun z a b => ?_⟩ (by omega)
    rw [up_1]
    by_cases q : z = v
    · rw [if_pos ⟨rfl, q⟩]
    · rw [if_neg (fun w => q w.2)]; exact hz z a (by omega)
theorem fk29_lp {N M : Mem} {nx : Int → Int → Int → Int} {fn : Int → Int} (R : RA N nx fn) (P : Option Mem → Prop) (k : Mem → Option Mem) (h2 : ∀ M', KI N nx (PdL N (N.1 1 1)) M' → P (k M')) (hI : KI N nx (PdL N 0) M) : P (L_M_findKeys_29 k 62 FU 0 M) := by
  have n0 := R.2.1.1.1
  have n6 := R.2.1.1.2.1
  refine lq1 (fun n v M' => L_M_findKeys_29 k 62 n v M') (fun s M' => 0 ≤ s ∧ s ≤ N.1 1 1 ∧ KI N nx (PdL N s) M') (fun s => (N.1 1 1 - s).toNat) P ?_ ⟨Int.le_refl 0, n0, hI⟩ (by have := FU_eq; omega)
  clear hI M
  intro n s M ⟨s0, s1, hI⟩ ih
  show P (L_M_findKeys_29 k 62 (n + 1) s M)
  have m := R.m hI.1
  have hS := m.1.m_
  rw [L_M_findKeys_29]
  by_cases hs : N.1 1 1 ≤ s
  · have : s = N.1 1 1 := by omega
    subst this
    simp [-Option.bind_some, -Option.bind_none, gf, pf, rd, wt, ck, ln, lt, bz, nq, up_1, up_2, obs, obn, hS, m.2.1]
    exact h2 M hI
  · have e1 : wr (s + 1) = s + 1 := wr_eq (by omega) (by omega)
    have s6 : s < 6 := by omega
    have rk := m.2.2 s s0 (by omega)
    by_cases r0 : rkC N s = 0
    · obtain ⟨M2, ea, hK, -⟩ := add_ok R hI (s := s) (i := 0) (j := 0) s0 (by omega) (fun q => by omega) (fun q => by omega) (fun _ => rfl) (fun _ => rfl)
      simp [-Option.bind_some, -Option.bind_none, gf, pf, rd, wt, ck, ln, lt, bz, nq, up_1, up_2, obs, obn, hS, m.2.1, hs, s0, s6, rk, r0, ea, e1]
      refine ih (s + 1) M2 ⟨by omega, by omega, hK.mono (fun s' x y _ _ p => ?_)⟩ (by omega)
      unfold Ad
      unfold PdL at p ⊢
      by_cases q : s' = s
      · right; exact ⟨q, fun w => by omega, fun w => by omega⟩
      · left; exact ⟨p.1, by have := p.2; omega⟩
    · simp [-Option.bind_some, -Option.bind_none, gf, pf, rd, wt, ck, ln, lt, bz, nq, up_1, up_2, obs, obn, hS, m.2.1, hs, s0, s6, rk, r0, e1]
      refine ih (s + 1) M ⟨by omega, by omega, hI.mono (fun s' x y _ _ p => ?_)⟩ (by omega)
      unfold PdL at p ⊢
      have p1 := p.1
      have p2 := p.2
      by_cases q : s' = s
      · rw [q] at p1; exact absurd p1 r0
      · exact ⟨p1, by omega⟩
theorem fk98_lp {N M : Mem} {nx : Int → Int → Int → Int} {fn : Int → Int} {i s : Int} (R : RA N nx fn) (s0 : 0 ≤ s) (s1 : s < N.1 1 1) (r2 : rkC N s = 2) (i0 : 0 ≤ i) (P : Option Mem → Prop) (k : Mem → Option Mem) (h2 : ∀ M', KI N nx (PA N i s (i + 1) 0) M' → i < M'.1 62 26 → P (k M')) (hI : KI N nx (PA N i s 0 0) M) (i1 : i < M.1 62 26) : P (L_M_findKeys_98 k 62 i s FU 0 M) := by
  have n6 := R.2.1.1.2.1
  have i512 : i < 512 := by have := hI.2.1.1; omega
  refine lq1 (fun n v M' => L_M_findKeys_98 k 62 i s n v M') (fun j M' => 0 ≤ j ∧ j ≤ i + 1 ∧ KI N nx (PA N i s j 0) M' ∧ i < M'.1 62 26) (fun j => (i + 1 - j).toNat) P ?_ ⟨Int.le_refl 0, by omega, hI, i1⟩ (by have := FU_eq; omega)
  clear hI i1 M
  intro n j M ⟨j0, j1, hI, i1⟩ ih
  show P (L_M_findKeys_98 k 62 i s (n + 1) j M)
  have m := R.m hI.1
  have hS := m.1.m_
  rw [L_M_findKeys_98]
  by_cases hj : i < j
  · have : j = i + 1 := by omega
    subst this
    simp [-Option.bind_some, -Option.bind_none, gf, pf, rd, wt, ck, ln, lt, bz, nq, up_1, up_2, obs, obn, hj]
    exact h2 M hI i1
  · have e1 : wr (j + 1) = j + 1 := wr_eq (by omega) (by omega)
    have s6 : s < 6 := by omega
    have rk := m.2.2 s s0 s1
    obtain ⟨M2, ea, hK2, g2⟩ := add_ok R hI (s := s) (i := i) (j := j) s0 s1 (fun _ => ⟨i0, i1⟩) (fun _ => ⟨j0, by omega⟩) (fun q => by omega) (fun q => by omega)
    have m2 := R.m hK2.1
    have hS2 := m2.1.m_
    obtain ⟨M3, eb, hK3, g3⟩ := add_ok R hK2 (s := s) (i := j) (j := i) s0 s1 (fun _ => ⟨j0, by omega⟩) (fun _ => ⟨i0, by omega⟩) (fun q => by omega) (fun q => by omega)
    simp [-Option.bind_some, -Option.bind_none, gf, pf, rd, wt, ck, ln, lt, bz, nq, up_1, up_2, obs, obn, hj, hS, s0, s6, rk, r2, ea, hS2, eb, e1]
    refine ih (j + 1) M3 ⟨by omega, by omega, hK3.mono (fun s' x' y' _ _ p => ?_), by omega⟩ (by omega)
    unfold Ad
    unfold PA at p ⊢
    rw [r2]
    by_cases q : s' = s ∧ x' = j ∧ y' = i
    · right; omega
    · by_cases q' : s' = s ∧ x' = i ∧ y' = j
      · left; right; omega
      · left; left; omega
theorem fk71_lp {N M : Mem} {nx : Int → Int → Int → Int} {fn : Int → Int} {i : Int} (R : RA N nx fn) (i0 : 0 ≤ i) (P : Option Mem → Prop) (k : Mem → Option Mem) (h2 : ∀ M', KI N nx (PA N i (N.1 1 1) 0 0) M' → i < M'.1 62 26 → P (k M')) (hI : KI N nx (PA N i 0 0 0) M) (i1 : i < M.1 62 26) : P (L_M_findKeys_71 k 62 i FU 0 M) := by
  have n0 := R.2.1.1.1
  have n6 := R.2.1.1.2.1
  refine lq1 (fun n v M' => L_M_findKeys_71 k 62 i n v M') (fun s M' => 0 ≤ s ∧ s ≤ N.1 1 1 ∧ KI N nx (PA N i s 0 0) M' ∧ i < M'.1 62 26) (fun s => (N.1 1 1 - s).toNat) P ?_ ⟨Int.le_refl 0, n0, hI, i1⟩ (by have := FU_eq; omega)
  clear hI i1 M
  intro n s M ⟨s0, s1, hI, i1⟩ ih
  show P (L_M_findKeys_71 k 62 i (n + 1) s M)
  have m := R.m hI.1
  have hS := m.1.m_
  rw [L_M_findKeys_71]
  by_cases hs : N.1 1 1 ≤ s
  · have : s = N.1 1 1 := by omega
    subst this
    simp [-Option.bind_some, -Option.bind_none, gf, pf, rd, wt, ck, ln, lt, bz, nq, up_1, up_2, obs, obn, hS, m.2.1]
    exact h2 M hI i1
  · have e1 : wr (s + 1) = s + 1 := wr_eq (by omega) (by omega)
    have s6 : s < 6 := by omega
    have rk := m.2.2 s s0 (by omega)
    have rg := R.2.1.1.rk s
    by_cases r1 : rkC N s = 1
    · obtain ⟨M2, ea, hK, g⟩ := add_ok R hI (s := s) (i := i) (j := 0) s0 (by omega) (fun _ => ⟨i0, i1⟩) (fun q => by omega) (fun q => by omega) (fun _ => rfl)
      have m2 := R.m hK.1
      have hS2 := m2.1.m_
      have rk2 := m2.2.2 s s0 (by omega)
      obtain ⟨fu, efu⟩ : ∃ fu, FU = fu + 1 := ⟨99999, FU_eq⟩
      have ni : ¬ i < 0 := by omega
      simp [-Option.bind_some, -Option.bind_none, gf, pf, rd, wt, ck, ln, lt, bz, nq, up_1, up_2, obs, obn, hS, m.2.1, hs, s0, s6, rk, r1, ea, e1]
      rw [efu, L_M_findKeys_98]
      simp [-Option.bind_some, -Option.bind_none, gf, pf, rd, wt, ck, ln, lt, bz, nq, up_1, up_2, obs, obn, ni, hS2, s0, s6, rk2, r1]
      refine ih (s + 1) M2 ⟨by omega, by omega, hK.mono (fun s' x' y' _ _ p => ?_), by omega⟩ (by omega)
      unfold Ad
      unfold PA at p ⊢
      rw [r1]
      by_cases q : s' = s ∧ x' = i
      · right; omega
      · left
        by_cases q' : s' = s
        · subst q'; omega
        · omega
    · by_cases r2 : rkC N s = 2
      · simp [-Option.bind_some, -Option.bind_none, gf, pf, rd, wt, ck, ln, lt, bz, nq, up_1, up_2, obs, obn, hS, m.2.1, hs, s0, s6, rk, r2, e1]
        exact fk98_lp R s0 (by omega) r2 i0 P _ (fun M' hR hi => ih (s + 1) M' ⟨by omega, by omega, hR.mono (fun s' x' y' _ _ p => PA.next (fun _ => rfl) r1 p), hi⟩ (by omega)) hI i1
      · obtain ⟨fu, efu⟩ : ∃ fu, FU = fu + 1 := ⟨99999, FU_eq⟩
        have ni : ¬ i < 0 := by omega
        simp [-Option.bind_some, -Option.bind_none, gf, pf, rd, wt, ck, ln, lt, bz, nq, up_1, up_2, obs, obn, hS, m.2.1, hs, s0, s6, rk, r1, r2, e1]
        rw [efu, L_M_findKeys_98]
        simp [-Option.bind_some, -Option.bind_none, gf, pf, rd, wt, ck, ln, lt, bz, nq, up_1, up_2, obs, obn, ni, hS, s0, s6, rk, r2]
        exact ih (s + 1) M ⟨by omega, by omega, hI.mono (fun s' x' y' _ _ p => PA.next (fun q => absurd q r2) r1 p), i1⟩ (by omega)
theorem fk61_lp {N M : Mem} {nx : Int → Int → Int → Int} {fn : Int → Int} (R : RA N nx fn) (P : Option Mem → Prop) (k : Mem → Option Mem) (h2 : ∀ M', KI N nx (PA N (M'.1 62 26) 0 0 0) M' → P (k M')) (hI : KI N nx (PA N 0 0 0 0) M) : P (L_M_findKeys_61 k 62 FU 0 M) := by
  refine lq1 (fun n v M' => L_M_findKeys_61 k 62 n v M') (fun i M' => 0 ≤ i ∧ i ≤ M'.1 62 26 ∧ KI N nx (PA N i 0 0 0) M') (fun i => (512 - i).toNat) P ?_ ⟨Int.le_refl 0, hI.2.1.1.1, hI⟩ (by have := FU_eq; omega)
  clear hI M
  intro n i M ⟨i0, i1, hI⟩ ih
  show P (L_M_findKeys_61 k 62 (n + 1) i M)
  have hS := (R.m hI.1).1.m_
  have r512 := hI.2.1.1
  rw [L_M_findKeys_61]
  by_cases hi : M.1 62 26 ≤ i
  · have e : i = M.1 62 26 := by omega
    simp [-Option.bind_some, -Option.bind_none, gf, pf, rd, wt, ck, ln, lt, bz, nq, up_1, up_2, obs, obn, hS, hi]
    refine h2 M ?_
    rw [← e]
    exact hI
  · have e1 : wr (i + 1) = i + 1 := wr_eq (by omega) (by omega)
    simp [-Option.bind_some, -Option.bind_none, gf, pf, rd, wt, ck, ln, lt, bz, nq, up_1, up_2, obs, obn, hS, hi, e1]
    refine fk71_lp R i0 P _ (fun M' hR hi' => ?_) hI (by omega)
    have r' := hR.2.1.1
    refine ih (i + 1) M' ⟨by omega, by omega, hR.mono (fun s x y s0 s1 p => ?_)⟩ (by omega)
    unfold PA at p ⊢
    omega
theorem findKeys_ok {N : Mem} {nx : Int → Int → Int → Int} {fn : Int → Int} (R : RA N nx fn) : OkM (D_M_findKeys 62 N) (fun M => KI N nx (PA N (M.1 62 26) 0 0 0) M) := by
  unfold D_M_findKeys
  simp [-Option.bind_some, -Option.bind_none, gf, pf, rd, wt, ck, ln, lt, bz, nq, up_1, up_2, obs, obn, R.1.m_]
  refine fk7_lp R (fun o => OkM o _) _ (fun M1 h1 => ?_) ((KC.rf N).up (by omega)) (F76.up (fun _ _ _ => rfl) (by omega)) (by simp [-Option.bind_some, -Option.bind_none, gf, pf, rd, wt, ck, ln, lt, bz, nq, up_1, up_2, obs, obn])
  refine fk29_lp R (fun o => OkM o _) _ (fun M2 h2 => ?_) h1
  refine fk61_lp R (fun o => OkM o (fun M => KI N nx (PA N (M.1 62 26) 0 0 0) M)) _ (fun M3 h3 => OkM.i h3) (h2.mono (fun s x y s0 s1 p => ?_))
  unfold PA at p
  unfold PdL
  have := R.2.1.1.rk s
  omega
