/-! shares: the reference -/
def REN (M : Mem) (kk : Int → Int → Int) : Prop := SB M ∧ SgE M ∧ MW (M.1 1 1) (rkC M) (mchR M 16) ∧ (∀ z c, 0 ≤ z → z ≤ 40 → 0 ≤ c → c < M.1 73 16 → M.1 93 (41 * c + z) = kk z c) ∧ (∀ z c, 0 ≤ kk z c ∧ kk z c ≤ FAR) ∧ ∀ c, kk 0 c = 0
theorem ssum_z {f : Int → Int} : ∀ {k : Nat}, (∀ i : Int, 0 ≤ i → i < k → f i = 0) → ssum k f = 0 := by
  intro k
  induction k with
  | zero => intro _; rfl
  | succ k ih =>
    intro h
    rw [ssum_s, ih (fun i a b => h i a (by omega)), h k (by omega) (by omega)]
    exact sat_i (by rw [FAR_e]; decide)
theorem behind_ok {M : Mem} {at' s x z : Int} {kk : Int → Int → Int} (h : REN M kk) (a0 : 0 ≤ at') (a1 : at' ≤ 120) (s0 : 0 ≤ s) (s1 : s < M.1 1 1) (r2 : rkC M s = 2) (x0 : 0 ≤ x) (x1 : x < M.1 73 16) (z0 : 0 ≤ z) (z1 : z ≤ 40) (hw : WOK (M.1 73 16) (fun c => M.1 94 (6 * at' + c))) : D_M_behind 62 at' s x z M = some (secP (mchR M 16) kk (fun c => M.1 94 (6 * at' + c)) s x z, M) := by
  obtain ⟨hB, hg, hW, hk, hr, hk0⟩ := h
  have k6 : 0 ≤ M.1 73 16 ∧ M.1 73 16 ≤ 6 := hW.1
  have n6 := hg.1.2.1
  have g13 : gf M 62 9 54 13 = some 73 := by simp [gf, hB.m_]
  have g45 : gf M 62 9 54 45 = some 93 := by simp [gf, hB.m_]
  have g46 : gf M 62 9 54 46 = some 94 := by simp [gf, hB.m_]
  have ck0 : ck M 62 9 54 = some () := by simp [ck, hB.m_]
  have d73 : rd M 10 73 16 = some (M.1 73 16) := rd_v (n := 19) (by simp [hB.m_]) (by decide) (by decide)
  have l93 : M.2.1 93 = (11, 246) := by simp [hB.m_]
  have l94 : M.2.1 94 = (11, 726) := by simp [hB.m_]
  unfold D_M_behind
  refine lq2 (n := FU) (a := 0) (b := 0) (M := M) (fun n u y N => L_M_behind_6 (fun w5_6 m6 => some (w5_6, m6)) 62 at' s x z n u y N) (fun u y N => N = M ∧ (0 ≤ y ∧ y ≤ M.1 73 16) ∧ u = ssum y.toNat (fun y => sat (kk z y * M.1 94 (6 * at' + mT (mchR M 16) s x y)))) (fun u y => (M.1 73 16 - y).toNat) (fun o => o = some (secP (mchR M 16) kk (fun c => M.1 94 (6 * at' + c)) s x z, M)) ?_ ⟨rfl, ⟨Int.le_refl 0, k6.1⟩, rfl⟩ (by have := FU_eq; omega)
  intro n u y N ⟨e, yr, eu⟩ ih
  subst e
  show L_M_behind_6 (fun w5_6 m6 => some (w5_6, m6)) 62 at' s x z (n + 1) u y N = _
  have ew : wr (y + 1) = y + 1 := wr_eq (by omega) (by omega)
  have w1 : wr (41 * y) = 41 * y := wr_eq (by omega) (by omega)
  have w2 : wr (41 * y + z) = 41 * y + z := wr_eq (by omega) (by omega)
  have w4 : wr (6 * at') = 6 * at' := wr_eq (by omega) (by omega)
  rw [L_M_behind_6]
  simp only [g13, obs, d73]
  by_cases q : N.1 73 16 ≤ y
  · rw [if_pos q, eu]
    unfold secP
    rw [show y = N.1 73 16 by omega]
    rfl
  · rw [if_neg q]
    have ha : ∀ i : Int, 0 ≤ i → i < N.1 73 16 → Arg (rkC N) (N.1 73 16) s x i := fun i i0 i1 => argx (fun _ => ⟨x0, x1⟩) (fun _ => ⟨i0, i1⟩) (fun w => by omega) (fun w => by omega)
    have hA := ha y yr.1 (by omega)
    have b6 := hA.b6 k6.2
    have st := rstep_ok (M := N) (m := 16) (s := s) (x := x) (y := y) hB (by decide) ⟨s0, by omega⟩ b6.1 b6.2
    have rg : 0 ≤ mT (mchR N 16) s x y ∧ mT (mchR N 16) s x y < N.1 73 16 := hW.2 s x y s0 s1 hA
    have eR : rd N 11 93 (41 * y + z) = some (kk z y) := by rw [rd_v l93 (by omega) (by omega), hk z y z0 z1 yr.1 (by omega)]
    have w3 : wr (6 * at' + mT (mchR N 16) s x y) = 6 * at' + mT (mchR N 16) s x y := wr_eq (by omega) (by omega)
    have eV : rd N 11 94 (6 * at' + mT (mchR N 16) s x y) = some (N.1 94 (6 * at' + mT (mchR N 16) s x y)) := rd_v l94 (by omega) (by omega)
    have kr := hr z y
    have wr' := hw _ rg.1 rg.2
    have tm := timesR_ok (M := N) kr.1 kr.2 wr'.1 wr'.2
    have r3 := sat_r (Int.mul_nonneg kr.1 wr'.1)
    have r4 : 0 ≤ ssum y.toNat (fun y => sat (kk z y * N.1 94 (6 * at' + mT (mchR N 16) s x y))) ∧ ssum y.toNat (fun y => sat (kk z y * N.1 94 (6 * at' + mT (mchR N 16) s x y))) ≤ FAR := ssum_r (fun i i0 i1 => (sat_r (Int.mul_nonneg (hr z i).1 (hw _ (hW.2 s x i s0 s1 (ha i i0 (by omega))).1 (hW.2 s x i s0 s1 (ha i i0 (by omega))).2).1)).1)
    have pl := plusR_ok (M := N) r4.1 r4.2 r3.1 r3.2
    rw [eu]
    simp only [g45, obs, w1, w2, eR, g46, ck0, st, w4, w3, eV, tm, pl, ew]
    refine ih _ (y + 1) N ⟨rfl, ⟨by omega, by omega⟩, ?_⟩ (by omega)
    rw [show (y + 1).toNat = y.toNat + 1 by omega, ssum_s, show ((y.toNat : Nat) : Int) = y by omega]
theorem weigh_ok {M : Mem} {at' s z f : Int} {kk : Int → Int → Int} (h : REN M kk) (a0 : 0 ≤ at') (a1 : at' ≤ 120) (s0 : 0 ≤ s) (s1 : s < M.1 1 1) (z0 : 1 ≤ z) (z1 : z ≤ 40) (hf : rkC M s = 2 → 1 ≤ f ∧ f ≤ z - 2) (hw : WOK (M.1 73 16) (fun c => M.1 94 (6 * at' + c))) : D_M_weigh 62 at' s z f M = some (shP (rkC M) (mchR M 16) kk (fun c => M.1 94 (6 * at' + c)) s z (if rkC M s = 1 then z - 1 else f), M) := by
  have h' := h
  obtain ⟨hB, hg, hW, hk, hr, hk0⟩ := h
  have k6 : 0 ≤ M.1 73 16 ∧ M.1 73 16 ≤ 6 := hW.1
  have n6 := hg.1.2.1
  have rgs := hg.1.rk s
  have r63 := hg.2.2 s s0 s1
  have st0 : sat 0 = 0 := sat_i (by rw [FAR_e]; decide)
  have g1 : gf M 62 9 54 1 = some 63 := by simp [gf, hB.m_]
  have g13 : gf M 62 9 54 13 = some 73 := by simp [gf, hB.m_]
  have g45 : gf M 62 9 54 45 = some 93 := by simp [gf, hB.m_]
  have g46 : gf M 62 9 54 46 = some 94 := by simp [gf, hB.m_]
  have ck0 : ck M 62 9 54 = some () := by simp [ck, hB.m_]
  have d63 : rd M 10 63 s = some (rkC M s) := by rw [rd_v (n := 6) (by simp [hB.m_]) s0 (by omega), r63]
  have d73 : rd M 10 73 16 = some (M.1 73 16) := rd_v (n := 19) (by simp [hB.m_]) (by decide) (by decide)
  have l93 : M.2.1 93 = (11, 246) := by simp [hB.m_]
  have l94 : M.2.1 94 = (11, 726) := by simp [hB.m_]
  have w4 : wr (6 * at') = 6 * at' := wr_eq (by omega) (by omega)
  unfold D_M_weigh
  rw [g1, obs, d63, obs]
  by_cases r0 : rkC M s = 0
  · rw [if_pos r0]
    by_cases zz : z = 1
    · rw [if_pos zz]
      have hA : Arg (rkC M) (M.1 73 16) s 0 0 := argx (fun w => by omega) (fun w => by omega) (fun _ => rfl) (fun _ => rfl)
      have st := rstep_ok (M := M) (m := 16) (s := s) (x := 0) (y := 0) hB (by decide) ⟨s0, by omega⟩ (by decide) (by decide)
      have rg : 0 ≤ mT (mchR M 16) s 0 0 ∧ mT (mchR M 16) s 0 0 < M.1 73 16 := hW.2 s 0 0 s0 s1 hA
      have w3 : wr (6 * at' + mT (mchR M 16) s 0 0) = 6 * at' + mT (mchR M 16) s 0 0 := wr_eq (by omega) (by omega)
      have eV : rd M 11 94 (6 * at' + mT (mchR M 16) s 0 0) = some (M.1 94 (6 * at' + mT (mchR M 16) s 0 0)) := rd_v l94 (by omega) (by omega)
      simp only [g46, obs, ck0, st, w4, w3, eV]
      unfold shP
      rw [if_pos r0, if_pos zz]
    · rw [if_neg zz]
      unfold shP
      rw [if_pos r0, if_neg zz]
  · rw [if_neg r0]
    have r1 : 1 ≤ rkC M s := by omega
    have wr1 := fun x x0 x1 => w1P_r (z := z) (f := if rkC M s = 1 then z - 1 else f) (x := x) hW hr hw s0 s1 r1 rgs.2 x0 x1
    have sr : ∀ j : Int, 0 ≤ j → j ≤ M.1 73 16 → 0 ≤ ssum j.toNat (fun x => sat (kk (if rkC M s = 1 then z - 1 else f) x * w1P (rkC M) (mchR M 16) kk (fun c => M.1 94 (6 * at' + c)) s z (if rkC M s = 1 then z - 1 else f) x)) ∧ ssum j.toNat (fun x => sat (kk (if rkC M s = 1 then z - 1 else f) x * w1P (rkC M) (mchR M 16) kk (fun c => M.1 94 (6 * at' + c)) s z (if rkC M s = 1 then z - 1 else f) x)) ≤ FAR := fun j j0 j1 => ssum_r (fun i i0 i1 => (sat_r (Int.mul_nonneg (hr _ i).1 (wr1 i i0 (by show i < M.1 73 16; omega)).1)).1)
    refine lq2 (n := FU) (a := 0) (b := 0) (M := M) (fun n u x N => L_M_weigh_44 (fun w5_44 m44 => some (w5_44, m44)) 62 at' s z f n u x N) (fun u x N => N = M ∧ (0 ≤ x ∧ x ≤ M.1 73 16) ∧ u = ssum x.toNat (fun x => sat (kk (if rkC M s = 1 then z - 1 else f) x * w1P (rkC M) (mchR M 16) kk (fun c => M.1 94 (6 * at' + c)) s z (if rkC M s = 1 then z - 1 else f) x))) (fun u x => (M.1 73 16 - x).toNat) (fun o => o = some (shP (rkC M) (mchR M 16) kk (fun c => M.1 94 (6 * at' + c)) s z (if rkC M s = 1 then z - 1 else f), M)) ?_ ⟨rfl, ⟨Int.le_refl 0, k6.1⟩, rfl⟩ (by have := FU_eq; omega)
    intro n u x N ⟨e, xr, eu⟩ ih
    subst e
    show L_M_weigh_44 (fun w5_44 m44 => some (w5_44, m44)) 62 at' s z f (n + 1) u x N = _
    have ew : wr (x + 1) = x + 1 := wr_eq (by omega) (by omega)
    have shd : shP (rkC N) (mchR N 16) kk (fun c => N.1 94 (6 * at' + c)) s z (if rkC N s = 1 then z - 1 else f) = ssum (N.1 73 16).toNat (fun x => sat (kk (if rkC N s = 1 then z - 1 else f) x * w1P (rkC N) (mchR N 16) kk (fun c => N.1 94 (6 * at' + c)) s z (if rkC N s = 1 then z - 1 else f) x)) := by
      unfold shP
      rw [if_neg r0]
      rfl
    rw [L_M_weigh_44]
    simp only [g13, obs, d73]
    by_cases q : N.1 73 16 ≤ x
    · simp only [q, if_true, obs]
      rw [shd, eu, show x = N.1 73 16 by omega]
    · simp only [q, if_false, obs]
      by_cases zl : z ≤ 1
      · simp only [zl, if_true, obs]
        have q1 : rkC N s = 1 := by
          have := hf
          by_cases w : rkC N s = 2
          · have := hf w; omega
          · omega
        have ez : ∀ j : Nat, ssum j (fun x => sat (kk (if rkC N s = 1 then z - 1 else f) x * w1P (rkC N) (mchR N 16) kk (fun c => N.1 94 (6 * at' + c)) s z (if rkC N s = 1 then z - 1 else f) x)) = 0 := fun j => ssum_z (fun i _ _ => by rw [if_pos q1, show z - 1 = 0 by omega, hk0, Int.zero_mul, st0])
        rw [shd, eu, ez, ez]
      · simp only [zl, if_false, obs]
        rw [if_neg (by decide)]
        simp only [g1, obs, d63]
        have x1 : x < N.1 73 16 := by omega
        have rest : ∀ T, T = sat (kk (if rkC N s = 1 then z - 1 else f) x * w1P (rkC N) (mchR N 16) kk (fun c => N.1 94 (6 * at' + c)) s z (if rkC N s = 1 then z - 1 else f) x) → (D_M_plus u T N = some (sat (u + T), N)) ∧ L_M_weigh_44 (fun w5_44 m44 => some (w5_44, m44)) 62 at' s z f n (sat (u + T)) (x + 1) N = some (shP (rkC N) (mchR N 16) kk (fun c => N.1 94 (6 * at' + c)) s z (if rkC N s = 1 then z - 1 else f), N) := by
          intro T eT
          have r3 : 0 ≤ T ∧ T ≤ FAR := by rw [eT]; exact sat_r (Int.mul_nonneg (hr _ x).1 (wr1 x xr.1 x1).1)
          have r4 := sr x xr.1 xr.2
          rw [← eu] at r4
          refine ⟨plusR_ok r4.1 r4.2 r3.1 r3.2, ih _ (x + 1) N ⟨rfl, ⟨by omega, by omega⟩, ?_⟩ (by omega)⟩
          rw [show (x + 1).toNat = x.toNat + 1 by omega, ssum_s, show ((x.toNat : Nat) : Int) = x by omega, ← eu, eT]
        by_cases q1 : rkC N s = 1
        · have hA : Arg (rkC N) (N.1 73 16) s x 0 := argx (fun _ => ⟨xr.1, x1⟩) (fun w => by omega) (fun w => by omega) (fun _ => rfl)
          have b6 := hA.b6 k6.2
          have st := rstep_ok (M := N) (m := 16) (s := s) (x := x) (y := 0) hB (by decide) ⟨s0, by omega⟩ b6.1 b6.2
          have rg : 0 ≤ mT (mchR N 16) s x 0 ∧ mT (mchR N 16) s x 0 < N.1 73 16 := hW.2 s x 0 s0 s1 hA
          have w1 : wr (41 * x) = 41 * x := wr_eq (by omega) (by omega)
          have w2 : wr (41 * x + z) = 41 * x + z := wr_eq (by omega) (by omega)
          have w5 : wr (41 * x + z - 1) = 41 * x + (z - 1) := by rw [wr_eq (by omega) (by omega)]; omega
          have w3 : wr (6 * at' + mT (mchR N 16) s x 0) = 6 * at' + mT (mchR N 16) s x 0 := wr_eq (by omega) (by omega)
          have eR : rd N 11 93 (41 * x + (z - 1)) = some (kk (z - 1) x) := by rw [rd_v l93 (by omega) (by omega), hk (z - 1) x (by omega) (by omega) xr.1 x1]
          have eV : rd N 11 94 (6 * at' + mT (mchR N 16) s x 0) = some (N.1 94 (6 * at' + mT (mchR N 16) s x 0)) := rd_v l94 (by omega) (by omega)
          have kr := hr (z - 1) x
          have wr' := hw _ rg.1 rg.2
          have tm := timesR_ok (M := N) kr.1 kr.2 wr'.1 wr'.2
          have rs := rest (sat (kk (z - 1) x * N.1 94 (6 * at' + mT (mchR N 16) s x 0))) (by rw [if_pos q1]; unfold w1P; rw [if_pos q1])
          rw [if_pos q1]
          simp only [g45, obs, w1, w2, w5, eR, g46, ck0, st, w4, w3, eV, tm, rs.1, ew]
          exact rs.2
        · have q2 : rkC N s = 2 := by omega
          have ff := hf q2
          have w1 : wr (41 * x) = 41 * x := wr_eq (by omega) (by omega)
          have w2 : wr (41 * x + f) = 41 * x + f := wr_eq (by omega) (by omega)
          have wz : wr (z - 1) = z - 1 := wr_eq (by omega) (by omega)
          have wzf : wr (z - 1 - f) = z - 1 - f := wr_eq (by omega) (by omega)
          have eR : rd N 11 93 (41 * x + f) = some (kk f x) := by rw [rd_v l93 (by omega) (by omega), hk f x (by omega) (by omega) xr.1 x1]
          have bo := behind_ok (z := z - 1 - f) h' a0 a1 s0 s1 q2 xr.1 x1 (by omega) (by omega) hw
          have ew1 : w1P (rkC N) (mchR N 16) kk (fun c => N.1 94 (6 * at' + c)) s z f x = secP (mchR N 16) kk (fun c => N.1 94 (6 * at' + c)) s x (z - 1 - f) := by unfold w1P; rw [if_neg q1]
          have kr := hr f x
          have wr' := wr1 x xr.1 x1
          rw [if_neg q1, ew1] at wr'
          have tm := timesR_ok (M := N) kr.1 kr.2 wr'.1 wr'.2
          have rs := rest (sat (kk f x * secP (mchR N 16) kk (fun c => N.1 94 (6 * at' + c)) s x (z - 1 - f))) (by rw [if_neg q1, ew1])
          rw [if_neg q1]
          simp only [g45, obs, w1, w2, eR, ck0, wz, wzf, bo, tm, rs.1, ew]
          exact rs.2
