/-! the reference keeps it too -/
def KR (M N : Mem) : Prop := N.2 = M.2 ∧ ∀ a, a < 62 ∨ 100 ≤ a → N.1 a = M.1 a
theorem KR.rf (M : Mem) : KR M M := ⟨rfl, fun _ _ => rfl⟩
theorem KR.tr {M N P : Mem} (h : KR M N) (h' : KR N P) : KR M P := ⟨h'.1.trans h.1, fun a q => (h'.2 a q).trans (h.2 a q)⟩
theorem KL.kr {m : Int} {M N : Mem} (h : KL m M N) : KR M N := ⟨h.1, fun a q => h.2.1 a (by omega) (by omega)⟩
theorem KR.up {M N : Mem} (h : KR M N) {a k v : Int} (ha : 62 ≤ a ∧ a < 100) : KR M (up N a k v) := ⟨by rw [up_2]; exact h.1, fun a' q => by rw [up_n (by omega)]; exact h.2 a' q⟩
theorem KR.sc {L : Nat} {xs : Int → Int} {M N : Mem} (h : KR M N) (q : SC L xs M) : SC L xs N := ⟨by rw [h.1]; exact q.1, by rw [h.2 _ (by omega)]; exact q.2⟩
/-- a field that says what is made -/
theorem IB.f62 {M : Mem} {tc k v : Int} (h : IB M tc) (hk : 20 ≤ k ∧ k ≤ 26) : IB (up M 62 k v) tc := by
  have hB : SB (up M 62 k v) := SB_up h.sb (by unfold stp; omega)
  have o : ∀ a, a ≠ 62 → (up M 62 k v).1 a = M.1 a := fun a q => up_n q
  have f0 : (up M 62 k v).1 62 0 = M.1 62 0 := by rw [up_1, if_neg (by omega)]
  have f3 : (up M 62 k v).1 62 3 = M.1 62 3 := by rw [up_1, if_neg (by omega)]
  refine h.c ⟨h.tc_.1, Int.le_refl _⟩ (up_2 _ _ _ _) hB (h.sg.c (o 1 (by decide)) (o 2 (by decide)) f0 (o 63 (by decide))) (h.2.2.1.c (o 1 (by decide)) (o 2 (by decide))) ?_ (o 7 (by decide)) (fun a a0 a1 => o a (by omega)) (fun a a0 a1 => o a (by omega)) (fun a a0 a1 => o a (by omega)) (Or.inr ⟨by rw [o 1 (by decide)], rk_c (o 1 (by decide)) (o 2 (by decide))⟩)
  have hr := h.rw_
  unfold RW
  rw [f3, o 1 (by decide), o 3 (by decide), o 4 (by decide), o 64 (by decide)]
  exact hr
theorem IB.rc {M : Mem} {tc : Int} (h : IB M tc) : RC M := ⟨h.sb, h.sg, h.2.2.2.2.2.2.2.2.1⟩
theorem KM.kl {m : Int} {N M : Mem} (h : KM m N M) : KL m N M := ⟨h.1, h.2.1, fun k _ _ q1 q2 => h.2.2.1 k q1 q2, h.2.2.2.1, h.2.2.2.2.1, h.2.2.2.2.2.1⟩
theorem made_end {L : Nat} {xs : Int → Int} {M0 M M' N : Mem} {nx : Int → Int → Int → Int} {fn : Int → Int} {tc r : Int} (t16 : tc < 16) (h : KPP M0 M tc r M') (hN : IB N tc) (hK : KR M' N) (e4 : N.1 62 4 = tc) (R : RA N nx fn) (hJ : ∀ a b, Jn (M0.1 1 1) (rkC M0) (dN M) (rX N nx) a b → (acN M a = 1 ↔ fn b = 1)) (hC : SC L xs N) : ∃ M'', D_M_newTongue 62 N = some (r, M'') ∧ Inv L xs M'' := by
  obtain ⟨hI', hSL, hFK, hres⟩ := h
  have t0 := hN.tc_
  have c1 : N.1 1 = M0.1 1 := by rw [hK.2 1 (by decide), hFK.2.1 1 (by decide)]
  have c2 : N.1 2 = M0.1 2 := by rw [hK.2 2 (by decide), hFK.2.1 2 (by decide)]
  have ek : rkC N = rkC M0 := rk_c c1 c2
  have hB := hN.sb
  obtain ⟨r', M1, em, hKM, hm⟩ := make_ok (m := 18) R (by decide)
  rw [c1, ek] at hm
  have ck0 : ck N 62 9 54 = some () := by simp [ck, hB.m_]
  have hA1 : BA M1 := hKM.2.2.2.2.2.2 hN.2.2.2.2.2.2.2.2.1
  have hI1 : IB M1 tc := hKM.kl.ib hN (by omega) hA1
  have hB1 := hI1.sb
  have f4 : M1.1 62 4 = tc := by rw [hKM.2.2.1 4 (by decide) (by decide)]; exact e4
  have kr1 : KR N M1 := hKM.kl.kr
  unfold D_M_newTongue
  rw [ck0, obs, em, obs]
  dsimp only
  rcases hm with ⟨er, hL⟩ | ⟨er, hCan, hW⟩
  · -- large on both sides
    subst er
    unfold LgX at hL
    rw [c1, ek] at hL
    rcases hres with ⟨ra, rb, -⟩ | ⟨-, -, -, -, -, -, hMOK, hCan⟩
    · refine ⟨M1, by rw [if_neg (by decide), ra], tc, hI1, ?_, f4, kr1.sc hC⟩
      rw [kr1.2 0 (by decide), hK.2 0 (by decide)]; exact rb
    · exact (hCan.noLg hMOK.2.2.1.1.2 hL hJ).elim
  · subst er
    rcases hres with ⟨-, -, hL⟩ | ⟨ra, rb, q6, q7, q12, q13, hMOK, hCan'⟩
    · exact (hCan.noLg hW.1.2 hL (fun a b j => (hJ b a j.sw).symm)).elim
    · have hEq := hCan'.uniq hCan hJ
      obtain ⟨M2, ec, hCp⟩ := copy_ok (a := 18) (b := tc) hB1 hA1 (by decide) (by omega) (by omega)
      have hI2 : IB M2 tc := hCp.1.ib hI1 (Int.le_refl _) hCp.2.1
      have hB2 := hI2.sb
      have k6 : mN (mch M' (102 + 12 * tc)) ≤ 6 := hMOK.2.2.1.1.2
      have n6 : M0.1 1 1 ≤ 6 := by have := hN.sg.1.2.1; rw [c1] at this; exact this
      have hEq2 := hCp.eqm n6 k6 hEq
      have g4 : M2.1 62 4 = tc := by rw [hCp.1.2.2.1 4 (by decide) (by decide) (by decide) (by decide)]; exact f4
      have kr2 : KR N M2 := kr1.tr hCp.1.kr
      have ew : wr (tc + 1) = tc + 1 := wr_eq (by omega) (by omega)
      have ew' : wr (tc + 1 - 1) = tc := by rw [wr_eq (by omega) (by omega)]; omega
      have ew'' : wr tc = tc := wr_eq (by omega) (by omega)
      have tc0 := t0.1
      have h1 : (0 : Int) ≤ 0 := Int.le_refl 0
      refine ⟨up (up M2 65 tc 0) 62 4 (tc + 1), ?_, tc + 1, ?_, ?_, ?_, ?_⟩
      · rw [if_pos h1, ra]
        simp [-Option.bind_some, -Option.bind_none, gf, pf, rd, wt, ck, ln, lt, bz, nq, up_1, up_2, obs, obn, hB1.m_, f4, ec, hB2.m_, g4, tc0, t16, ew, ew', ew'']
      · have kr3 : KR M' (up (up M2 65 tc 0) 62 4 (tc + 1)) := (((hK.tr kr2).up (by decide)).up (by decide))
        have hB3 : SB (up (up M2 65 tc 0) 62 4 (tc + 1)) := SB_up (SB_up hB2 (by unfold stp; omega)) (by decide)
        have o3 : ∀ a, a ≠ 62 → a ≠ 65 → (up (up M2 65 tc 0) 62 4 (tc + 1)).1 a = M2.1 a := fun a q1 q2 => by rw [up_n q1, up_n q2]
        have f62 : ∀ j, j ≠ 4 → (up (up M2 65 tc 0) 62 4 (tc + 1)).1 62 j = M2.1 62 j := fun j q => by rw [up_1, if_neg (fun z => q z.2), up_n (by decide)]
        have f65 : ∀ j, j ≠ tc → (up (up M2 65 tc 0) 62 4 (tc + 1)).1 65 j = M2.1 65 j := fun j q => by rw [up_n (by decide), up_1, if_neg (fun z => q z.2)]
        have g65 : (up (up M2 65 tc 0) 62 4 (tc + 1)).1 65 tc = 0 := by rw [up_n (by decide), up_1, if_pos ⟨rfl, rfl⟩]
        have s3 : (up (up M2 65 tc 0) 62 4 (tc + 1)).2 = M2.2 := by rw [up_2, up_2]
        generalize up (up M2 65 tc 0) 62 4 (tc + 1) = M3 at *
        have d1 : M3.1 1 = M0.1 1 := by rw [kr3.2 1 (by decide), hFK.2.1 1 (by decide)]
        have d2 : M3.1 2 = M0.1 2 := by rw [kr3.2 2 (by decide), hFK.2.1 2 (by decide)]
        have e2 : M2.1 1 = M3.1 1 := (o3 1 (by decide) (by decide)).symm
        have l10 : ∀ a, 10 ≤ a → a < 50 → M3.1 a = M2.1 a := fun a a0 a1 => o3 a (by omega) (by omega)
        have hp : ∀ a, 100 + 12 * tc ≤ a → a ≤ 111 + 12 * tc → M3.1 a = M'.1 a ∧ M3.2.1 a = M'.2.1 a := fun a a0 a1 => ⟨kr3.2 a (by omega), by rw [kr3.1]⟩
        refine hI2.mk2 ⟨by omega, by omega⟩ hB3 (o3 1 (by decide) (by decide)) (o3 2 (by decide) (by decide)) (o3 3 (by decide) (by decide)) (o3 4 (by decide) (by decide)) (f62 0 (by decide)) (f62 3 (by decide)) (o3 63 (by decide) (by decide)) (o3 64 (by decide) (by decide)) ?_ (hI2.2.2.2.2.2.2.1.c l10) (hI2.2.2.2.2.2.2.2.1.c l10) ?_ ?_ (fun j j0 j1 => ?_)
        · exact hSL.c (Int.le_refl _) kr3.1 (kr3.2 7 (by decide)) (fun a a0 a1 _ j _ => by rw [kr3.2 a (by omega)]) (fun a a0 a1 _ j _ => by rw [kr3.2 a (by omega)])
        · intro j a b
          rw [o3 75 (by decide) (by decide)]; exact hI2.2.2.2.2.2.2.2.2.1 j a b
        · intro j a b
          by_cases z : j = tc
          · rw [z]; exact Or.inl g65
          · rw [f65 j z]; exact hI2.2.2.2.2.2.2.2.2.2.1 j a b
        · by_cases z : j = tc
          · subst z
            right
            have hpp : ∀ a, 102 + 12 * j ≤ a → a ≤ 102 + 12 * j + 9 → M3.1 a = M'.1 a ∧ M3.2.1 a = M'.2.1 a := fun a a0 a1 => hp a (by omega) (by omega)
            have d1' : M3.1 1 = M'.1 1 := kr3.2 1 (by decide)
            have ek3 : rkC M3 = rkC M' := rk_c d1' (kr3.2 2 (by decide))
            refine ⟨g65, by rw [(hp _ (by omega) (by omega)).1]; exact q6, by rw [(hp _ (by omega) (by omega)).1]; exact q7, by rw [(hp _ (by omega) (by omega)).1]; exact q12, hMOK.c (by rw [d1']) ek3 hpp, ⟨by rw [mch_c ek3 (fun a a0 a1 => (hpp a a0 (by omega)).1), d1, rk_c d1 d2]; exact hCan'.2.1, Or.inl (by rw [(hp _ (by omega) (by omega)).1]; exact q13)⟩, ?_⟩
            rw [mch_c ek3 (fun a a0 a1 => (hpp a a0 (by omega)).1), d1, rk_c d1 d2]
            exact hEq2.cr n6 k6 (by rw [o3 73 (by decide) (by decide)]) (fun i _ _ => by rw [o3 74 (by decide) (by decide)]) (fun a c a0 a1 _ _ => by rw [o3 a (by omega) (by omega)])
          · refine TG.c ⟨fun a a0 a1 => ⟨o3 a (by omega) (by omega), by rw [s3]⟩, by rw [o3 1 (by decide) (by decide)], rk_c (o3 1 (by decide) (by decide)) (o3 2 (by decide) (by decide)), fun a a0 a1 => ?_, fun a i a0 a1 _ _ => by rw [o3 a (by omega) (by omega)], by rw [o3 73 (by decide) (by decide)], fun i _ _ => by rw [o3 74 (by decide) (by decide)], fun a c a0 a1 _ _ => by rw [o3 a (by omega) (by omega)]⟩ hI2.sg.1.2.1 (hI2.2.2.2.2.2.2.2.2.2.2 j j0 (by omega))
            by_cases y : a = 65
            · rw [y]; exact f65 j z
            · rw [o3 a (by omega) y]
      · rw [up_n (by decide), up_n (by decide), kr2.2 0 (by decide), hK.2 0 (by decide)]; exact rb
      · simp [-Option.bind_some, -Option.bind_none, gf, pf, rd, wt, ck, ln, lt, bz, nq, up_1, up_2, obs, obn]
      · have := kr2.sc hC
        exact ⟨by rw [up_2, up_2]; exact this.1, by rw [up_n (by decide), up_n (by decide)]; exact this.2⟩
