/-! shares: how many ways there are with a given start -/
/-- a sum that stops at the far number at each step -/
def ssum : Nat → (Int → Int) → Int
  | 0, _ => 0
  | k + 1, f => sat (ssum k f + f k)
theorem ssum_s (k : Nat) (f : Int → Int) : ssum (k + 1) f = sat (ssum k f + f k) := rfl
theorem ssum_r {f : Int → Int} : ∀ {k : Nat}, (∀ i : Int, 0 ≤ i → i < k → 0 ≤ f i) → 0 ≤ ssum k f ∧ ssum k f ≤ FAR := by
  intro k
  induction k with
  | zero => intro _; exact ⟨Int.le_refl 0, by show (0 : Int) ≤ FAR; rw [FAR_e]; decide⟩
  | succ k ih =>
    intro h
    rw [ssum_s]
    have a := ih (fun i i0 i1 => h i i0 (by omega))
    have b := h k (by omega) (by omega)
    exact sat_r (by omega)
theorem ssum_c {f g : Int → Int} : ∀ {k : Nat}, (∀ i : Int, 0 ≤ i → i < k → f i = g i) → ssum k f = ssum k g := by
  intro k
  induction k with
  | zero => intro _; rfl
  | succ k ih => intro h; rw [ssum_s, ssum_s, ih (fun i a b => h i a (by omega)), h k (by omega) (by omega)]
/-- the ways behind a first part of class x -/
def secP (m : Mch) (kk : Int → Int → Int) (w : Int → Int) (s x z : Int) : Int := ssum (mN m).toNat (fun y => sat (kk z y * w (mT m s x y)))
/-- the weights of first parts -/
def w1P (rk : Int → Int) (m : Mch) (kk : Int → Int → Int) (w : Int → Int) (s z f x : Int) : Int := if rk s = 1 then w (mT m s x 0) else secP m kk w s x (z - 1 - f)
/-- the share of the trees of size z with sign s and a first part of size f -/
def shP (rk : Int → Int) (m : Mch) (kk : Int → Int → Int) (w : Int → Int) (s z f : Int) : Int := if rk s = 0 then (if z = 1 then w (mT m s 0 0) else 0) else ssum (mN m).toNat (fun x => sat (kk f x * w1P rk m kk w s z f x))
/-- weights are in order -/
def WOK (N : Int) (w : Int → Int) : Prop := ∀ c, 0 ≤ c → c < N → 0 ≤ w c ∧ w c ≤ FAR
/-- what the class's census stands on -/
def CEN (M : Mem) (p : Int) (kk : Int → Int → Int) : Prop := SB M ∧ SgOk M ∧ MOK M p ∧ (∀ z c, 0 ≤ z → z ≤ 40 → 0 ≤ c → c < M.1 p 10 → M.1 (p + 6) (z * 6 + c) = kk z c) ∧ ∀ z c, 0 ≤ kk z c ∧ kk z c ≤ FAR
theorem CEN.c {M M' : Mem} {p : Int} {kk : Int → Int → Int} (h : CEN M p kk) (e2 : M'.2 = M.2) (o : ∀ a, a ≠ 3 → a ≠ 4 → a ≠ 60 → a ≠ 61 → M'.1 a = M.1 a) (hB : SB M') : CEN M' p kk ∧ rkC M' = rkC M ∧ mch M' p = mch M p ∧ M'.1 p = M.1 p ∧ M'.1 1 = M.1 1 := by
  obtain ⟨h1, hg, hM, hk, hr⟩ := h
  have hp := hM.2.1
  have c1 : M'.1 1 = M.1 1 := o 1 (by decide) (by decide) (by decide) (by decide)
  have c2 : M'.1 2 = M.1 2 := o 2 (by decide) (by decide) (by decide) (by decide)
  have ek := rk_c c1 c2
  have oo : ∀ a, p ≤ a → a ≤ p + 9 → M'.1 a = M.1 a := fun a _ _ => o a (by omega) (by omega) (by omega) (by omega)
  refine ⟨⟨hB, by unfold SgOk; rw [c1, c2]; exact hg, hM.c (by rw [c1]) ek (fun a a0 a1 => ⟨oo a a0 a1, by rw [e2]⟩), fun z c a b c0 c1' => ?_, hr⟩, ek, mch_c ek (fun a a0 a1 => oo a a0 (by omega)), oo p (by omega) (by omega), c1⟩
  rw [oo (p + 6) (by omega) (by omega)]
  rw [oo p (by omega) (by omega)] at c1'
  exact hk z c a b c0 c1'
theorem seconds_ok {M : Mem} {p s x z v : Int} {kk : Int → Int → Int} (h : CEN M p kk) (s0 : 0 ≤ s) (s1 : s < M.1 1 1) (r2 : rkC M s = 2) (x0 : 0 ≤ x) (x1 : x < M.1 p 10) (z0 : 0 ≤ z) (z1 : z ≤ 40) (v0 : 0 ≤ v) (v1 : v ≤ 240) (hw : WOK (M.1 p 10) (fun c => M.1 61 (v + c))) : D_Census_seconds 60 p s x z v M = some (secP (mch M p) kk (fun c => M.1 61 (v + c)) s x z, M) := by
  obtain ⟨hB, hg, hM, hk, hr⟩ := h
  have k6 : 0 ≤ M.1 p 10 ∧ M.1 p 10 ≤ 6 := hM.2.2.1.1
  have n6 := hg.2.1
  have ms := hM.1
  have g10 : gf M p 1 14 10 = some (M.1 p 10) := by simp [gf, ms]
  have g6 : gf M p 1 14 6 = some (p + 6) := by simp [gf, ms]
  have l6 : M.2.1 (p + 6) = (11, 246) := by simp [ms]
  have ckp : ck M p 1 14 = some () := by simp [ck, ms]
  have g2 : gf M 60 0 4 2 = some 61 := by simp [gf, hB.c_]
  have l61 : M.2.1 61 = (11, 246) := by simp [hB.c_]
  clear ms
  unfold D_Census_seconds
  refine lq2 (n := FU) (a := 0) (b := 0) (M := M) (fun n u y N => L_Census_seconds_6 (fun w6_6 m6 => some (w6_6, m6)) 60 p s x z v n u y N) (fun u y N => N = M ∧ (0 ≤ y ∧ y ≤ M.1 p 10) ∧ u = ssum y.toNat (fun y => sat (kk z y * M.1 61 (v + mT (mch M p) s x y)))) (fun u y => (M.1 p 10 - y).toNat) (fun o => o = some (secP (mch M p) kk (fun c => M.1 61 (v + c)) s x z, M)) ?_ ⟨rfl, ⟨Int.le_refl 0, k6.1⟩, rfl⟩ (by have := FU_eq; omega)
  intro n u y N ⟨e, yr, eu⟩ ih
  subst e
  show L_Census_seconds_6 (fun w6_6 m6 => some (w6_6, m6)) 60 p s x z v (n + 1) u y N = _
  have ew : wr (y + 1) = y + 1 := wr_eq (by omega) (by omega)
  have w1 : wr (z * 6) = z * 6 := wr_eq (by omega) (by omega)
  have w2 : wr (z * 6 + y) = z * 6 + y := wr_eq (by omega) (by omega)
  rw [L_Census_seconds_6]
  simp only [g10, obs]
  by_cases q : N.1 p 10 ≤ y
  · rw [if_pos q, eu]
    unfold secP
    rw [show y = N.1 p 10 by omega]
    rfl
  · rw [if_neg q]
    have hA : Arg (rkC N) (N.1 p 10) s x y := argx (fun _ => ⟨x0, x1⟩) (fun _ => ⟨yr.1, by omega⟩) (fun w => by omega) (fun w => by omega)
    have st := step_ok (M := N) (p := p) (s := s) (x := x) (y := y) (c := N.1 p 10) hB hg hM.1 k6.2 ⟨s0, by omega⟩ hA
    have rg : 0 ≤ mT (mch N p) s x y ∧ mT (mch N p) s x y < N.1 p 10 := hM.2.2.1.2 s x y s0 s1 hA
    have eR : rd N 11 (p + 6) (z * 6 + y) = some (kk z y) := by rw [rd_v l6 (by omega) (by omega), hk z y z0 z1 yr.1 (by omega)]
    have w3 : wr (v + mT (mch N p) s x y) = v + mT (mch N p) s x y := wr_eq (by omega) (by omega)
    have eV : rd N 11 61 (v + mT (mch N p) s x y) = some (N.1 61 (v + mT (mch N p) s x y)) := rd_v l61 (by omega) (by omega)
    have kr := hr z y
    have wr' := hw _ rg.1 rg.2
    have tm := timesC_ok (M := N) kr.1 kr.2 wr'.1 wr'.2
    have pn := Int.mul_nonneg kr.1 wr'.1
    have r3 := sat_r pn
    have r4 : 0 ≤ ssum y.toNat (fun y => sat (kk z y * N.1 61 (v + mT (mch N p) s x y))) ∧ ssum y.toNat (fun y => sat (kk z y * N.1 61 (v + mT (mch N p) s x y))) ≤ FAR := ssum_r (fun i i0 i1 => (sat_r (Int.mul_nonneg (hr z i).1 (hw _ (hM.2.2.1.2 s x i s0 s1 (argx (fun _ => ⟨x0, x1⟩) (fun _ => ⟨i0, by show i < N.1 p 10; omega⟩) (fun w => by omega) (fun w => by omega))).1 (hM.2.2.1.2 s x i s0 s1 (argx (fun _ => ⟨x0, x1⟩) (fun _ => ⟨i0, by show i < N.1 p 10; omega⟩) (fun w => by omega) (fun w => by omega))).2).1)).1)
    have pl := plusC_ok (M := N) r4.1 r4.2 r3.1 r3.2
    rw [eu]
    simp only [g6, obs, w1, w2, eR, g2, ckp, st, w3, eV, tm, pl, ew]
    refine ih _ (y + 1) N ⟨rfl, ⟨by omega, by omega⟩, ?_⟩ (by omega)
    rw [show (y + 1).toNat = y.toNat + 1 by omega, ssum_s, show ((y.toNat : Nat) : Int) = y by omega]
