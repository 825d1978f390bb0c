/-! calls: made of one -/
def IM (M : Mem) (map : Int) : Prop := 0 ≤ map ∧ ishr map (3 * M.1 1 1) = 0 ∧ MapOk M map
theorem mpf_r {map s : Int} (m0 : 0 ≤ map) (m1 : map < 2147483648) (s0 : 0 ≤ s) (s6 : s < 6) : 0 ≤ mpf map s ∧ mpf map s < 8 := by
  obtain ⟨a, rfl⟩ : ∃ a : Nat, map = a := ⟨map.toNat, by omega⟩
  obtain ⟨k, ek⟩ : ∃ k : Nat, 3 * s = k := ⟨(3 * s).toNat, by omega⟩
  unfold mpf
  have h2 : a / 2 ^ k ≤ a := Nat.div_le_self _ _
  rw [ek, ishr_n (by omega) (by omega), show (7 : Int) = ((7 : Nat) : Int) from rfl, iand_n (by omega)]
  have : a / 2 ^ k &&& 7 ≤ 7 := Nat.and_le_right
  omega
theorem isMap_c {M : Mem} {map : Int} (hB : SB M) (hg : SgOk M) (m1 : map < 2147483648) : ∃ r, D_Signs_isMap 1 map M = some (r, M) ∧ ((r = 1 ∧ IM M map) ∨ (r = 0 ∧ ¬ IM M map)) := by
  have n0 := hg.1
  have n6 := hg.2.1
  unfold D_Signs_isMap
  by_cases m0 : 0 ≤ map
  · rw [if_pos m0]
    refine lq1 (fun n v M' => L_Signs_isMap_8 (fun m8 => (gf m8 1 5 3 1).bind fun g57 => if (ishr map (wr (3 * g57))) = 0 then (some (1, m8)) else (some (0, m8))) 1 map n v M') (fun s M' => M' = M ∧ 0 ≤ s ∧ s ≤ M.1 1 1 ∧ ∀ s', 0 ≤ s' → s' < s → (0 ≤ mpf map s' ∧ mpf map s' < M.1 1 1) ∧ rkC M (mpf map s') = rkC M s') (fun s => (M.1 1 1 - s).toNat) (fun o => ∃ r, o = some (r, M) ∧ ((r = 1 ∧ IM M map) ∨ (r = 0 ∧ ¬ IM M map))) ?_ ⟨rfl, Int.le_refl 0, n0, fun s' a b => by omega⟩ (by have := FU_eq; omega)
    intro n s M' ⟨hM, s0, s1, hs⟩ ih
    subst hM
    show ∃ r, L_Signs_isMap_8 _ 1 map (n + 1) s M' = some (r, M') ∧ _
    rw [L_Signs_isMap_8]
    by_cases q : M'.1 1 1 ≤ s
    · have e : s = M'.1 1 1 := by omega
      have ew : wr (3 * M'.1 1 1) = 3 * M'.1 1 1 := wr_eq (by omega) (by omega)
      by_cases z : ishr map (3 * M'.1 1 1) = 0
      · refine ⟨1, by simp [-Option.bind_some, -Option.bind_none, gf, pf, rd, wt, ck, ln, lt, bz, nq, up_1, up_2, obs, obn, hB.s_, q, ew, z], Or.inl ⟨rfl, m0, z, fun s' a b => hs s' a (by omega)⟩⟩
      · refine ⟨0, by simp [-Option.bind_some, -Option.bind_none, gf, pf, rd, wt, ck, ln, lt, bz, nq, up_1, up_2, obs, obn, hB.s_, q, ew, z], Or.inr ⟨rfl, fun w => z w.2.1⟩⟩
    · have e1 : wr (s + 1) = s + 1 := wr_eq (by omega) (by omega)
      have mp := mapped_ok (M := M') (map := map) s0 (by omega) 1
      have kn := knows_ok hB.s_ (mpf map s)
      by_cases z : 0 ≤ mpf map s ∧ mpf map s < M'.1 1 1
      · rw [if_pos z] at kn
        have z6 : mpf map s < 6 := by omega
        have s6 : s < 6 := by omega
        have r1 : rkC M' (mpf map s) = M'.1 2 (mpf map s) := by unfold rkC; rw [if_pos z]
        have r2 : rkC M' s = M'.1 2 s := by unfold rkC; rw [if_pos (by omega)]
        by_cases y : M'.1 2 (mpf map s) = M'.1 2 s
        · have g := ih (s + 1) M' ⟨rfl, by omega, by omega, fun s' a b => by
            by_cases x : s' = s
            · rw [x]; exact ⟨z, by rw [r1, r2]; exact y⟩
            · exact hs s' a (by omega)⟩ (by omega)
          obtain ⟨r, er, hr⟩ := g
          refine ⟨r, ?_, hr⟩
          simp [-Option.bind_some, -Option.bind_none, gf, pf, rd, wt, ck, ln, lt, bz, nq, up_1, up_2, obs, obn, hB.s_, q, mp, kn, z, z6, s0, s6, y, e1]
          exact er
        · refine ⟨0, by simp [-Option.bind_some, -Option.bind_none, gf, pf, rd, wt, ck, ln, lt, bz, nq, up_1, up_2, obs, obn, hB.s_, q, mp, kn, z, z6, s0, s6, y], Or.inr ⟨rfl, fun w => y ?_⟩⟩
          rw [← r1, ← r2]
          exact (w.2.2 s s0 (by omega)).2
      · rw [if_neg z] at kn
        exact ⟨0, by simp [-Option.bind_some, -Option.bind_none, gf, pf, rd, wt, ck, ln, lt, bz, nq, up_1, up_2, obs, obn, hB.s_, q, mp, kn], Or.inr ⟨rfl, fun w => z (w.2.2 s s0 (by omega)).1⟩⟩
  · rw [if_neg m0]
    exact ⟨0, rfl, Or.inr ⟨rfl, fun w => m0 w.1⟩⟩
theorem isMap_r {M : Mem} {map : Int} (hB : SB M) (hg : SgE M) (m1 : map < 2147483648) : ∃ r, D_M_isMap 62 map M = some (r, M) ∧ ((r = 1 ∧ IM M map) ∨ (r = 0 ∧ ¬ IM M map)) := by
  have n0 := hg.1.1
  have n6 := hg.1.2.1
  have e0 := hg.2.1
  have ew : wr (3 * M.1 1 1) = 3 * M.1 1 1 := wr_eq (by omega) (by omega)
  have key : ∀ t, ((t = 1 ∧ 0 ≤ map ∧ ishr map (3 * M.1 1 1) = 0) ∨ (t = 0 ∧ ¬ IM M map)) → ∃ r, L_M_isMap_23 (fun w2_23 m23 => (bz w2_23).bind fun _ => some (w2_23, m23)) 62 map FU t 0 M = some (r, M) ∧ ((r = 1 ∧ IM M map) ∨ (r = 0 ∧ ¬ IM M map)) := by
    intro t ht
    refine lq2 (fun n u v M' => L_M_isMap_23 (fun w2_23 m23 => (bz w2_23).bind fun _ => some (w2_23, m23)) 62 map n u v M') (fun u s M' => M' = M ∧ 0 ≤ s ∧ s ≤ M.1 1 1 ∧ ((u = 1 ∧ 0 ≤ map ∧ ishr map (3 * M.1 1 1) = 0 ∧ ∀ s', 0 ≤ s' → s' < s → (0 ≤ mpf map s' ∧ mpf map s' < M.1 1 1) ∧ rkC M (mpf map s') = rkC M s') ∨ (u = 0 ∧ ¬ IM M map))) (fun u s => (M.1 1 1 - s).toNat) (fun o => ∃ r, o = some (r, M) ∧ ((r = 1 ∧ IM M map) ∨ (r = 0 ∧ ¬ IM M map))) ?_ ⟨rfl, Int.le_refl 0, n0, ?_⟩ (by have := FU_eq; omega)
    · intro n u s M' ⟨hM, s0, s1, hs⟩ ih
      subst hM
      show ∃ r, L_M_isMap_23 _ 62 map (n + 1) u s M' = some (r, M') ∧ _
      rw [L_M_isMap_23]
      by_cases q : M'.1 1 1 ≤ s
      · rcases hs with ⟨eu, p1, p2, p3⟩ | ⟨eu, p⟩
        · subst eu
          exact ⟨1, by simp [-Option.bind_some, -Option.bind_none, gf, pf, rd, wt, ck, ln, lt, bz, nq, up_1, up_2, obs, obn, hB.m_, e0, q], Or.inl ⟨rfl, p1, p2, fun s' a b => p3 s' a (by omega)⟩⟩
        · subst eu
          exact ⟨0, by simp [-Option.bind_some, -Option.bind_none, gf, pf, rd, wt, ck, ln, lt, bz, nq, up_1, up_2, obs, obn, hB.m_, e0, q], Or.inr ⟨rfl, p⟩⟩
      · rcases hs with ⟨eu, p1, p2, p3⟩ | ⟨eu, p⟩
        · subst eu
          have e1 : wr (s + 1) = s + 1 := wr_eq (by omega) (by omega)
          have e3 : wr (3 * s) = 3 * s := wr_eq (by omega) (by omega)
          have em : iand (ishr map (3 * s)) 7 = mpf map s := rfl
          have mr := mpf_r p1 m1 s0 (show s < 6 by omega)
          have s6 : s < 6 := by omega
          by_cases z : mpf map s < M'.1 1 1
          · have z' : ¬ M'.1 1 1 ≤ mpf map s := by omega
            have z0 := mr.1
            have z6 : mpf map s < 6 := by omega
            have r1 := hg.2.2 (mpf map s) mr.1 z
            have r2 := hg.2.2 s s0 (by omega)
            by_cases y : rkC M' (mpf map s) = rkC M' s
            · obtain ⟨r, er, hr⟩ := ih 1 (s + 1) M' ⟨rfl, by omega, by omega, Or.inl ⟨rfl, p1, p2, fun s' a b => by
                by_cases x : s' = s
                · rw [x]; exact ⟨⟨mr.1, z⟩, y⟩
                · exact p3 s' a (by omega)⟩⟩ (by omega)
              refine ⟨r, ?_, hr⟩
              simp [-Option.bind_some, -Option.bind_none, gf, pf, rd, wt, ck, ln, lt, bz, nq, up_1, up_2, obs, obn, hB.m_, e0, q, e3, em, z', z0, z6, s0, s6, r1, r2, y, e1]
              exact er
            · obtain ⟨r, er, hr⟩ := ih 0 (s + 1) M' ⟨rfl, by omega, by omega, Or.inr ⟨rfl, fun w => y (w.2.2 s s0 (by omega)).2⟩⟩ (by omega)
              refine ⟨r, ?_, hr⟩
              simp [-Option.bind_some, -Option.bind_none, gf, pf, rd, wt, ck, ln, lt, bz, nq, up_1, up_2, obs, obn, hB.m_, e0, q, e3, em, z', z0, z6, s0, s6, r1, r2, y, e1]
              exact er
          · have z' : M'.1 1 1 ≤ mpf map s := by omega
            obtain ⟨r, er, hr⟩ := ih 0 (s + 1) M' ⟨rfl, by omega, by omega, Or.inr ⟨rfl, fun w => z (w.2.2 s s0 (by omega)).1.2⟩⟩ (by omega)
            refine ⟨r, ?_, hr⟩
            simp [-Option.bind_some, -Option.bind_none, gf, pf, rd, wt, ck, ln, lt, bz, nq, up_1, up_2, obs, obn, hB.m_, e0, q, e3, em, z', e1]
            exact er
        · subst eu
          exact ⟨0, by simp [-Option.bind_some, -Option.bind_none, gf, pf, rd, wt, ck, ln, lt, bz, nq, up_1, up_2, obs, obn, hB.m_, e0, q], Or.inr ⟨rfl, p⟩⟩
    · rcases ht with ⟨a, b, c⟩ | ⟨a, b⟩
      · exact Or.inl ⟨a, b, c, fun s' u v => by omega⟩
      · exact Or.inr ⟨a, b⟩
  unfold D_M_isMap
  by_cases m0 : map < 0
  · have := key 0 (Or.inr ⟨rfl, fun w => by have := w.1; omega⟩)
    simp only [m0, if_true, obs]
    exact this
  · by_cases z : ishr map (3 * M.1 1 1) = 0
    · have := key 1 (Or.inl ⟨rfl, by omega, z⟩)
      have g0 : gf M 62 9 54 0 = some (M.1 1 1) := by simp [gf, hB.m_, e0]
      simp only [m0, if_false, g0, obs, ew, z, if_true]
      exact this
    · have := key 0 (Or.inr ⟨rfl, fun w => z w.2.1⟩)
      have g0 : gf M 62 9 54 0 = some (M.1 1 1) := by simp [gf, hB.m_, e0]
      simp only [m0, if_false, g0, obs, ew, z, if_true]
      exact this
/-! the map that changes nothing -/
def pm (v : Int) : Int := if v ≤ 1 then 0 else if v = 2 then 8 else if v = 3 then 136 else if v = 4 then 1672 else if v = 5 then 18056 else 181896
theorem pm_d : ∀ v : Fin 6, ior (pm ((v.val : Nat) : Int)) (ishl ((v.val : Nat) : Int) (3 * ((v.val : Nat) : Int))) = pm (((v.val : Nat) : Int) + 1) := by decide
theorem pm_s {v : Int} (v0 : 0 ≤ v) (v1 : v < 6) : ior (pm v) (ishl v (3 * v)) = pm (v + 1) := by
  have := pm_d ⟨v.toNat, by omega⟩
  simp only at this
  rw [show ((v.toNat : Nat) : Int) = v by omega] at this
  exact this
theorem pm_m : ∀ n : Fin 7, ∀ s : Fin 6, s.val < n.val → mpf (pm ((n.val : Nat) : Int)) ((s.val : Nat) : Int) = ((s.val : Nat) : Int) := by decide
theorem pm_id {n s : Int} (n0 : 0 ≤ n) (n6 : n ≤ 6) (s0 : 0 ≤ s) (s1 : s < n) : mpf (pm n) s = s := by
  have := pm_m ⟨n.toNat, by omega⟩ ⟨s.toNat, by omega⟩ (by show s.toNat < n.toNat; omega)
  simp only at this
  rw [show ((n.toNat : Nat) : Int) = n by omega, show ((s.toNat : Nat) : Int) = s by omega] at this
  exact this
def PLP (Y : Mem) (tc w : Int) (N : Mem) : Prop := IB N tc ∧ KR Y N ∧ (∀ e, e ≠ 62 → N.1 e = Y.1 e) ∧ (∀ j, j ≠ 20 → j ≠ 21 → j ≠ 23 → N.1 62 j = Y.1 62 j) ∧ N.1 62 20 = 2 ∧ N.1 62 21 = w ∧ N.1 62 23 = pm (Y.1 1 1)
theorem plain_ok {Y : Mem} {tc w : Int} (hI : IB Y tc) : OkM (D_M_plain 62 w Y) (fun N => PLP Y tc w N) := by
  have hg := hI.sg
  have n0 := hg.1.1
  have n6 := hg.1.2.1
  unfold D_M_plain
  simp [-Option.bind_some, -Option.bind_none, gf, pf, rd, wt, ck, ln, lt, bz, nq, up_1, up_2, obs, obn, hI.sb.m_]
  refine lq1 (n := FU) (a := 0) (M := up (up (up Y 62 20 2) 62 21 w) 62 23 0) (fun n v M' => L_M_plain_17 (fun m17 => some m17) 62 n v M') (fun v M' => 0 ≤ v ∧ v ≤ Y.1 1 1 ∧ IB M' tc ∧ KR Y M' ∧ (∀ e, e ≠ 62 → M'.1 e = Y.1 e) ∧ (∀ j, j ≠ 20 → j ≠ 21 → j ≠ 23 → M'.1 62 j = Y.1 62 j) ∧ M'.1 62 20 = 2 ∧ M'.1 62 21 = w ∧ M'.1 62 23 = pm v) (fun v => (Y.1 1 1 - v).toNat) (fun o => OkM o (fun N => PLP Y tc w N)) ?_ ⟨Int.le_refl 0, n0, ((hI.f62 (k := 20) (v := 2) (by decide)).f62 (k := 21) (v := w) (by decide)).f62 (k := 23) (v := 0) (by decide), (((KR.rf Y).up (by decide)).up (by decide)).up (by decide), fun e q => by rw [up_n q, up_n q, up_n q], fun j q1 q2 q3 => by rw [up_1, if_neg (fun z => q3 z.2), up_1, if_neg (fun z => q2 z.2), up_1, if_neg (fun z => q1 z.2)], by simp [-Option.bind_some, -Option.bind_none, gf, pf, rd, wt, ck, ln, lt, bz, nq, up_1, up_2, obs, obn], by simp [-Option.bind_some, -Option.bind_none, gf, pf, rd, wt, ck, ln, lt, bz, nq, up_1, up_2, obs, obn], by simp [-Option.bind_some, -Option.bind_none, gf, pf, rd, wt, ck, ln, lt, bz, nq, up_1, up_2, obs, obn, pm]⟩ (by have := FU_eq; omega)
  intro n v M ⟨v0, v1, hIM, hK, ho, hf, f20, f21, f23⟩ ih
  show OkM (L_M_plain_17 _ 62 (n + 1) v M) _
  have hB := hIM.sb
  have e0 : M.1 62 0 = Y.1 1 1 := by rw [hf 0 (by decide) (by decide) (by decide)]; exact hg.2.1
  rw [L_M_plain_17]
  by_cases q : Y.1 1 1 ≤ v
  · have : v = Y.1 1 1 := by omega
    subst this
    refine ⟨M, by simp [-Option.bind_some, -Option.bind_none, gf, pf, rd, wt, ck, ln, lt, bz, nq, up_1, up_2, obs, obn, hB.m_, e0], hIM, hK, ho, hf, f20, f21, f23⟩
  · have e1 : wr (v + 1) = v + 1 := wr_eq (by omega) (by omega)
    have e3 : wr (3 * v) = 3 * v := wr_eq (by omega) (by omega)
    have ps := pm_s v0 (show v < 6 by omega)
    obtain ⟨N, eN, hN⟩ := ih (v + 1) (up M 62 23 (pm (v + 1))) ⟨by omega, by omega, hIM.f62 (by decide), hK.up (by decide), fun e z => by rw [up_n z]; exact ho e z, fun j q1 q2 q3 => by rw [up_1, if_neg (fun z => q3 z.2)]; exact hf j q1 q2 q3, by rw [up_1, if_neg (by decide)]; exact f20, by rw [up_1, if_neg (by decide)]; exact f21, by rw [up_1, if_pos ⟨rfl, rfl⟩]⟩ (by omega)
    refine ⟨N, ?_, hN⟩
    simp [-Option.bind_some, -Option.bind_none, gf, pf, rd, wt, ck, ln, lt, bz, nq, up_1, up_2, obs, obn, hB.m_, e0, q, f23, e3, ps, e1]
    exact eN
/-! what all these calls do -/
theorem made1_ok {L : Nat} {xs : Int → Int} {M1 M3 : Mem} {tc a : Int} (hI : IB M1 tc) (e7 : M1.1 0 7 = tc) (a0 : 0 ≤ a) (a1 : a < tc) (fr : M1.1 (100 + 12 * a) 7 = 0) (h12 : M1.1 (102 + 12 * a) 12 = 0) (hC : SC L xs M1) (hNf : Nf M1 M3) (E : Env M3) (t16 : tc < 16) : ∃ r M4 Ya, D_T_keep 0 M3 = some (r, M4) ∧ KPP M1 M3 tc r M4 ∧ D_M_load 62 a 16 M4 = some (0, Ya) ∧ IB Ya tc ∧ KR M4 Ya ∧ Ya.1 62 4 = M1.1 62 4 ∧ Eqm (M1.1 1 1) (rkC M1) (mch M1 (102 + 12 * a)) (mchR Ya 16) ∧ SC L xs M4 ∧ IB M4 tc ∧ M4.1 62 = M1.1 62 ∧ SC L xs Ya ∧ Ya.1 1 = M1.1 1 ∧ rkC Ya = rkC M1 := by
  obtain ⟨r, M4, e4, hK⟩ := keep_ok hI hNf E e7 t16
  have hK0 := hK
  obtain ⟨hI4, -, hFK, -⟩ := hK
  have sa := fun e q q' => hFK.2.2 a a0 a1 e q q'
  have n41 : M4.1 1 = M1.1 1 := hFK.2.1 1 (by decide)
  have ek4 : rkC M4 = rkC M1 := rk_c n41 (hFK.2.1 2 (by decide))
  have l4 : M4.1 (102 + 12 * a) 12 = 0 := by rw [sa _ (by omega) (by omega)]; exact h12
  obtain ⟨r', Ya, da, hIa, hKa, hra⟩ := load_k_ok (m := 16) hI4 a0 a1 (by rw [sa _ (by omega) (by omega)]; exact fr) (Or.inl rfl)
  have sc4 : SC L xs M4 := ⟨by rw [hFK.1 _ (by omega)]; exact hC.1, by rw [hFK.2.1 _ (by omega)]; exact hC.2⟩
  rcases hra with q | ⟨q1, q2, q3, q4, q5⟩
  · have := q.2; omega
  · subst q1
    rw [n41, ek4, mch_c ek4 (fun e z z' => sa e (by omega) (by omega))] at q4
    refine ⟨r, M4, Ya, e4, hK0, da, hIa, hKa.kr, ?_, q4, sc4, hI4, hFK.2.1 62 (by decide), hKa.sc sc4, ?_, ?_⟩
    · rw [hKa.2.2.1 4 (by decide) (by decide) (by decide) (by decide), hFK.2.1 62 (by decide)]
    · rw [hKa.2.1 1 (by decide) (by decide)]; exact n41
    · exact (rk_c (hKa.2.1 1 (by decide) (by decide)) (hKa.2.1 2 (by decide) (by decide))).trans ek4
