/-! all sets lead somewhere -/
def PA (N : Mem) (i s j h : Int) : Int → Int → Int → Prop := fun s' x y => rkC N s' = 0 ∨ (rkC N s' = 1 ∧ 0 ≤ x ∧ (x < i ∨ (x = i ∧ s' < s))) ∨ (rkC N s' = 2 ∧ 0 ≤ x ∧ 0 ≤ y ∧ ((x < i ∧ y < i) ∨ (x ≤ i ∧ y ≤ i ∧ (s' < s ∨ (s' = s ∧ ((x < j ∧ y = i) ∨ (x = i ∧ y < j) ∨ (h = 1 ∧ x = j ∧ y = i)))))))
def LdI (N M : Mem) (p : Int) (φ : Int → Int) : Prop := ∀ w, vs N w → ior (M.1 (p + 1) (iand w 63)) (M.1 (p + 2) (iand (ishr w 6) 63)) = φ w
theorem LdI.fr {N M : Mem} {p : Int} {φ : Int → Int} (h : LdI N M p φ) (E : Env N) (hW : SW M p) {w : Int} (v : vs N w) : D_Step_from p w M = some (φ w, M) := by
  rw [from_v hW v.1 (val12 E.1 v.2), h w v]
theorem sw20 {M : Mem} (h : SBD M) : SW M 20 := by simp [SW, h]
theorem sw23 {M : Mem} (h : SBD M) : SW M 23 := by simp [SW, h]
theorem RR.ld {N M M1 : Mem} {m : Nat} {Pd : Int → Int → Int → Prop} {p : Int} {φ : Int → Int} (h : RR N m Pd M) (L : Ld N M M1 p φ) (hp : p = 20 ∨ p = 23) : RR N m Pd M1 := by
  obtain ⟨⟨hF, hZ, hPI, hSP⟩, hKP, hTP, h11, h14, hm⟩ := h
  have ha : ∀ a, a < 20 → M1.1 a = M.1 a := fun a q => L.2.1 a (by omega) (by omega)
  have pq : Pq M M1 := ⟨ha 8 (by decide), by rw [ha 10 (by decide)], fun q q0 q1 => ⟨by rw [ha 19 (by decide)], L.2.1 _ (by omega) (by omega), L.2.1 _ (by omega) (by omega)⟩⟩
  have mk : mkB M1 = mkB M := funext fun w => pq.mk hPI w
  unfold RR RI1 KPm TPm
  rw [mk, ha 10 (by decide), ha 11 (by decide), ha 12 (by decide), ha 13 (by decide), ha 14 (by decide), ha 15 (by decide), ha 16 (by decide), ha 17 (by decide)]
  exact ⟨⟨L.1, L.z hZ (by omega), pq.pi hPI, hSP⟩, hKP, hTP, h11, h14, hm⟩
def Bad (N : Mem) (m : Nat) (M : Mem) : Prop := Fl N M ∨ FO N m M
theorem reachJ_lp {N M : Mem} {m : Nat} {i s : Int} (E : Env N) (s0 : 0 ≤ s) (s1 : s < N.1 1 1) (r2 : rkC N s = 2) (i0 : 0 ≤ i) (i1 : i < M.1 10 6) (L1 : LdI N M 20 (fun w => dN N s w (M.1 11 i))) (L2 : LdI N M 23 (fun w => dN N s (M.1 11 i) w)) (P : Option (Int × Mem) → Prop) (k : Mem → Option (Int × Mem)) (h1 : ∀ M', Bad N m M' → P (some (0, M'))) (h2 : ∀ M', RR N m (PA N i s (i + 1) 0) M' → i < M'.1 10 6 → P (k M')) (hI : RR N m (PA N i s 0 0) M) : P (L_Reducer_reachAll_116 k 10 i s 2 FU 0 M) := by
  have i384 : i < 384 := by have := hI.1.2.2.2.1; omega
  refine lq1 (fun n v M' => L_Reducer_reachAll_116 k 10 i s 2 n v M') (fun j M' => 0 ≤ j ∧ j ≤ i + 1 ∧ RR N m (PA N i s j 0) M' ∧ Gr M M') (fun j => (i + 1 - j).toNat) P ?_ ⟨Int.le_refl 0, by omega, hI, Gr.rf M⟩ (by have := FU_eq; omega)
  intro n j M' ⟨j0, j1, hI, hg⟩ ih
  show P (L_Reducer_reachAll_116 k 10 i s 2 (n + 1) j M')
  have hS := hI.1.1.1.d_
  have g1 := hg.1
  rw [L_Reducer_reachAll_116]
  by_cases hj : i < j
  · have : j = i + 1 := by omega
    subst this
    simp [-Option.bind_some, -Option.bind_none, gf, pf, rd, wt, ck, ln, lt, bz, nq, up_1, up_2, obs, obn, hj]
    exact h2 M' hI (by omega)
  · have e1 : wr (j + 1) = j + 1 := wr_eq (by omega) (by omega)
    have jr : 0 ≤ j ∧ j < M'.1 10 6 := ⟨j0, by omega⟩
    have ir : 0 ≤ i ∧ i < M'.1 10 6 := ⟨i0, by omega⟩
    have j384 : j < 384 := by omega
    have rS : ∀ l, 0 ≤ l → l < M'.1 10 6 → vs N (M'.1 11 l) := fun l a b => E.ty (hI.1.2.2.2.2.1 l a b).1
    have si : M'.1 11 i = M.1 11 i := (hg.2.1 i i0 i1).1
    have f1 := (show LdI N M' 20 (fun w => dN N s w (M.1 11 i)) from fun w v => by
      rw [hg.2.2 _ (by decide) (by decide), hg.2.2 _ (by decide) (by decide)]; exact L1 w v).fr E (sw20 hS) (rS j j0 jr.2)
    obtain ⟨t, M2, ea, hres⟩ := agrees_ok E hI (x := j) (y := i) (z := dN N s (M'.1 11 j) (M.1 11 i)) s0 s1 (by omega) jr ir (by rw [si]) (by
      intro x' y' a b c d q
      unfold PA
      omega)
    rcases hres with ⟨ht, hb⟩ | ⟨ht, hR, hg2⟩
    · subst ht
      simp [-Option.bind_some, -Option.bind_none, gf, pf, rd, wt, ck, ln, lt, bz, nq, up_1, up_2, obs, obn, hj, hS, j0, j384, f1, ea]
      exact h1 _ hb
    · subst ht
      have hR2 : RR N m (PA N i s j 1) M2 := hR.mono (fun s' x' y' _ _ p => by
        unfold Ad
        unfold PA at p ⊢
        rw [r2]
        by_cases q : s' = s ∧ x' = j ∧ y' = i
        · right; omega
        · left; omega)
      have hS2 := hR2.1.1.1.d_
      have hg3 := hg.tr hg2
      have g2 := hg2.1
      have jr2 : 0 ≤ j ∧ j < M2.1 10 6 := ⟨j0, by omega⟩
      have ir2 : 0 ≤ i ∧ i < M2.1 10 6 := ⟨i0, by omega⟩
      have rS2 : ∀ l, 0 ≤ l → l < M2.1 10 6 → vs N (M2.1 11 l) := fun l a b => E.ty (hR2.1.2.2.2.2.1 l a b).1
      have si2 : M2.1 11 i = M.1 11 i := (hg3.2.1 i i0 i1).1
      have f2 := (show LdI N M2 23 (fun w => dN N s (M.1 11 i) w) from fun w v => by
        rw [hg3.2.2 _ (by decide) (by decide), hg3.2.2 _ (by decide) (by decide)]; exact L2 w v).fr E (sw23 hS2) (rS2 j j0 jr2.2)
      obtain ⟨t, M3, ea2, hres⟩ := agrees_ok E hR2 (x := i) (y := j) (z := dN N s (M.1 11 i) (M2.1 11 j)) s0 s1 (by omega) ir2 jr2 (by rw [si2]) (by
        intro x' y' a b c d q
        unfold PA
        omega)
      rcases hres with ⟨ht, hb⟩ | ⟨ht, hR3, hg4⟩
      · subst ht
        simp [-Option.bind_some, -Option.bind_none, gf, pf, rd, wt, ck, ln, lt, bz, nq, up_1, up_2, obs, obn, hj, hS, j0, j384, f1, ea, hS2, f2, ea2]
        exact h1 _ hb
      · subst ht
        simp [-Option.bind_some, -Option.bind_none, gf, pf, rd, wt, ck, ln, lt, bz, nq, up_1, up_2, obs, obn, hj, hS, j0, j384, f1, ea, hS2, f2, ea2, e1]
        refine ih (j + 1) M3 ⟨by omega, by omega, hR3.mono (fun s' x' y' _ _ p => ?_), hg3.tr hg4⟩ (by omega)
        unfold Ad
        unfold PA at p ⊢
        rw [r2]
        by_cases q : s' = s ∧ x' = i ∧ y' = j
        · right; omega
        · left; omega
theorem PA.next {N : Mem} {i s j : Int} (hj : rkC N s = 2 → j = i + 1) (h1 : rkC N s ≠ 1) {s' x y : Int} (p : PA N i (s + 1) 0 0 s' x y) : PA N i s j 0 s' x y := by
  unfold PA at p ⊢
  by_cases q : s' = s
  · subst q
    omega
  · omega
theorem reachS_lp {N M : Mem} {m : Nat} {i : Int} (E : Env N) (i0 : 0 ≤ i) (i1 : i < M.1 10 6) (P : Option (Int × Mem) → Prop) (k : Mem → Option (Int × Mem)) (h1 : ∀ M', Bad N m M' → P (some (0, M'))) (h2 : ∀ M', RR N m (PA N i (N.1 1 1) 0 0) M' → i < M'.1 10 6 → P (k M')) (hI : RR N m (PA N i 0 0 0) M) : P (L_Reducer_reachAll_19 k 10 i FU 0 M) := by
  have n0 := E.2.1.1
  have n6 := E.2.1.2.1
  refine lq1 (fun n v M' => L_Reducer_reachAll_19 k 10 i n v M') (fun s M' => 0 ≤ s ∧ s ≤ N.1 1 1 ∧ RR N m (PA N i s 0 0) M' ∧ i < M'.1 10 6) (fun s => (N.1 1 1 - s).toNat) P ?_ ⟨Int.le_refl 0, n0, hI, i1⟩ (by have := FU_eq; omega)
  clear hI i1 M
  intro n s M ⟨s0, s1, hI, i1⟩ ih
  show P (L_Reducer_reachAll_19 k 10 i (n + 1) s M)
  have hF := hI.1.1
  have hS := hF.1.d_
  have k1 : M.1 1 1 = N.1 1 1 := by rw [hF.c1]
  have rko := rankOf_ok hF.1.s_ (by omega) s
  rw [hF.rk] at rko
  have rg := E.2.1.rk s
  rw [L_Reducer_reachAll_19]
  by_cases hs : N.1 1 1 ≤ s
  · have : s = N.1 1 1 := by omega
    subst this
    simp [-Option.bind_some, -Option.bind_none, gf, pf, rd, wt, ck, ln, lt, bz, nq, up_1, up_2, obs, obn, hS, hF.1.s_, k1]
    exact h2 M hI i1
  · have e1 : wr (s + 1) = s + 1 := wr_eq (by omega) (by omega)
    have i384 : i < 384 := by have := hI.1.2.2.2.1; omega
    have rS := (hI.1.2.2.2.2.1 i i0 i1).1
    have vS := E.ty rS
    by_cases r1 : rkC N s = 1
    · have ia := imageAlone_ok hF.1.n_ (hF.nt E.1) (s := s) (set := M.1 11 i) ⟨s0, by omega⟩
      have ez : imgA M s (M.1 11 i) = dN N s (M.1 11 i) (M.1 11 i) := by
        rw [← hF.dn]
        unfold dN
        rw [hF.rk, r1]
        rfl
      obtain ⟨t, M2, ea, hres⟩ := agrees_ok E hI (x := i) (y := i) (z := imgA M s (M.1 11 i)) s0 (by omega) (by omega) ⟨i0, i1⟩ ⟨i0, i1⟩ ez (by
        intro x' y' a b c d q
        unfold PA
        omega)
      rcases hres with ⟨ht, hb⟩ | ⟨ht, hR, hg⟩
      · subst ht
        simp [-Option.bind_some, -Option.bind_none, gf, pf, rd, wt, ck, ln, lt, bz, nq, up_1, up_2, obs, obn, hS, hF.1.s_, k1, hs, rko, r1, i0, i384, hF.1.n_, ia, ea]
        exact h1 _ hb
      · subst ht
        simp [-Option.bind_some, -Option.bind_none, gf, pf, rd, wt, ck, ln, lt, bz, nq, up_1, up_2, obs, obn, hS, hF.1.s_, k1, hs, rko, r1, i0, i384, hF.1.n_, ia, ea]
        obtain ⟨fu, efu⟩ : ∃ fu, FU = fu + 1 := ⟨99999, FU_eq⟩
        rw [efu, L_Reducer_reachAll_116]
        simp [-Option.bind_some, -Option.bind_none, gf, pf, rd, wt, ck, ln, lt, bz, nq, up_1, up_2, obs, obn, e1]
        have g1 := hg.1
        refine ih (s + 1) M2 ⟨by omega, by omega, hR.mono (fun s' x' y' _ _ p => ?_), by omega⟩ (by omega)
        unfold Ad
        unfold PA at p ⊢
        rw [r1]
        by_cases q : s' = s ∧ x' = i
        · right; omega
        · left
          by_cases q' : s' = s
          · subst q'; omega
          · omega
    · by_cases r2 : rkC N s = 2
      · obtain ⟨M1, e1', L1⟩ := load_1 E hF (sw20 hS) (by decide) (by decide) (by decide) hI.1.2.1 (s := s) ⟨s0, by omega⟩ (by omega) vS
        have hI1 := hI.ld L1 (Or.inl rfl)
        have hF1 := L1.1
        have hS1 := hF1.1.d_
        have c11 : M1.1 11 = M.1 11 := L1.2.1 11 (by decide) (by decide)
        obtain ⟨M2, e2', L2⟩ := load_2 E hF1 (sw23 hS1) (by decide) (by decide) (by decide) hI1.1.2.1 (s := s) ⟨s0, by omega⟩ (by omega) vS
        have hI2 := hI1.ld L2 (Or.inr rfl)
        have c11' : M2.1 11 = M.1 11 := (L2.2.1 11 (by decide) (by decide)).trans c11
        have c10' : M2.1 10 = M.1 10 := (L2.2.1 10 (by decide) (by decide)).trans (L1.2.1 10 (by decide) (by decide))
        simp [-Option.bind_some, -Option.bind_none, gf, pf, rd, wt, ck, ln, lt, bz, nq, up_1, up_2, obs, obn, hS, hF.1.s_, k1, hs, rko, r2, i0, i384, e1', hS1, c11, e2', e1]
        refine reachJ_lp E s0 (by omega) r2 i0 (by rw [c10']; exact i1) ?_ ?_ P _ h1 (fun M' hR hi => ?_) hI2
        · intro w v
          rw [L2.2.1 _ (by decide) (by decide), L2.2.1 _ (by decide) (by decide), c11']
          exact L1.2.2.2.2 w v
        · intro w v
          rw [c11']
          exact L2.2.2.2.2 w v
        · exact ih (s + 1) M' ⟨by omega, by omega, hR.mono (fun s' x' y' _ _ p => PA.next (fun _ => rfl) r1 p), hi⟩ (by omega)
      · obtain ⟨fu, efu⟩ : ∃ fu, FU = fu + 1 := ⟨99999, FU_eq⟩
        simp [-Option.bind_some, -Option.bind_none, gf, pf, rd, wt, ck, ln, lt, bz, nq, up_1, up_2, obs, obn, hS, hF.1.s_, k1, hs, rko, r1, r2, e1]
        rw [efu, L_Reducer_reachAll_116]
        simp [-Option.bind_some, -Option.bind_none, gf, pf, rd, wt, ck, ln, lt, bz, nq, up_1, up_2, obs, obn, r2]
        exact ih (s + 1) M ⟨by omega, by omega, hI.mono (fun s' x' y' _ _ p => PA.next (fun q => absurd q r2) r1 p), i1⟩ (by omega)
theorem reachI_lp {N M : Mem} {m : Nat} (E : Env N) (P : Option (Int × Mem) → Prop) (k : Mem → Option (Int × Mem)) (h1 : ∀ M', Bad N m M' → P (some (0, M'))) (h2 : ∀ M', RR N m (PA N (M'.1 10 6) 0 0 0) M' → P (k M')) (hI : RR N m (PA N 0 0 0 0) M) : P (L_Reducer_reachAll_2 k 10 FU 0 M) := by
  refine lq1 (fun n v M' => L_Reducer_reachAll_2 k 10 n v M') (fun i M' => 0 ≤ i ∧ i ≤ M'.1 10 6 ∧ RR N m (PA N i 0 0 0) M') (fun i => (384 - i).toNat) P ?_ ⟨Int.le_refl 0, hI.1.2.2.2.1.1, hI⟩ (by have := FU_eq; omega)
  clear hI M
  intro n i M ⟨i0, i1, hI⟩ ih
  show P (L_Reducer_reachAll_2 k 10 (n + 1) i M)
  have hS := hI.1.1.1.d_
  have r384 := hI.1.2.2.2.1
  rw [L_Reducer_reachAll_2]
  by_cases hi : M.1 10 6 ≤ i
  · have e : i = M.1 10 6 := by omega
    simp [-Option.bind_some, -Option.bind_none, gf, pf, rd, wt, ck, ln, lt, bz, nq, up_1, up_2, obs, obn, hS, hi]
    refine h2 M ?_
    rw [← e]
    exact hI
  · have e1 : wr (i + 1) = i + 1 := wr_eq (by omega) (by omega)
    have i384 : ¬ 384 ≤ i := by omega
    simp [-Option.bind_some, -Option.bind_none, gf, pf, rd, wt, ck, ln, lt, bz, nq, up_1, up_2, obs, obn, hS, hi, i384, e1]
    refine reachS_lp E i0 (by omega) P _ h1 (fun M' hR hi' => ?_) hI
    have r' := hR.1.2.2.2.1
    refine ih (i + 1) M' ⟨by omega, by omega, hR.mono (fun s x y s0 s1 p => ?_)⟩ (by omega)
    unfold PA at p ⊢
    omega
theorem reachAll_ok {N M : Mem} {m : Nat} (E : Env N) (h : RR N m (PdL N (N.1 1 1)) M) : OkV (D_Reducer_reachAll 10 M) (fun t M' => (t = 0 ∧ Bad N m M') ∨ (t = 1 ∧ RR N m (PA N (M'.1 10 6) 0 0 0) M')) := by
  unfold D_Reducer_reachAll
  refine reachI_lp E (fun o => OkV o (fun t M' => (t = 0 ∧ Bad N m M') ∨ (t = 1 ∧ RR N m (PA N (M'.1 10 6) 0 0 0) M'))) _ (fun M' h => OkV.i (Or.inl ⟨rfl, h⟩)) (fun M' h => OkV.i (Or.inr ⟨rfl, h⟩)) (h.mono (fun s x y s0 s1 p => ?_))
  unfold PA at p
  unfold PdL
  have := E.2.1.rk s
  omega
