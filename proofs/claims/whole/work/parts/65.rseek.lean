/-! the reference: the first tree that comes next -/
def ahx (u b s h x f y g : Int) : Option Int := ((if u < b then (some 0) else ((if u = b then (if s < h then (some 1) else (if s = h then (if x < f then (some 1) else (if x = f then (if g ≤ y then (some 0) else (some 1)) else (some 0))) else (some 0))) else (some 0)).bind fun (t127 : Int) => if t127 = 0 then (some 1) else (some 0))).bind fun (t118i : Int) => if t118i = 0 then (some 1) else (some 0))
def AH (u b s h x f y g : Int) : Prop := u < b ∨ (u = b ∧ (s < h ∨ (s = h ∧ (x < f ∨ (x = f ∧ y < g)))))
theorem ahx_ok (u b s h x f y g : Int) : ∃ t, ahx u b s h x f y g = some t ∧ ((t = 1 ∧ AH u b s h x f y g) ∨ (t = 0 ∧ ¬ AH u b s h x f y g)) := by
  unfold ahx AH
  by_cases c1 : u < b
  · exact ⟨1, by simp [c1], Or.inl ⟨rfl, Or.inl c1⟩⟩
  · by_cases c2 : u = b
    · by_cases c3 : s < h
      · exact ⟨1, by simp [c1, c2, c3], Or.inl ⟨rfl, by omega⟩⟩
      · by_cases c4 : s = h
        · by_cases c5 : x < f
          · exact ⟨1, by simp [c1, c2, c3, c4, c5], Or.inl ⟨rfl, by omega⟩⟩
          · by_cases c6 : x = f
            · by_cases c7 : g ≤ y
              · exact ⟨0, by simp [c1, c2, c3, c4, c5, c6, c7], Or.inr ⟨rfl, by omega⟩⟩
              · exact ⟨1, by simp [c1, c2, c3, c4, c5, c6, c7], Or.inl ⟨rfl, by omega⟩⟩
            · exact ⟨0, by simp [c1, c2, c3, c4, c5, c6], Or.inr ⟨rfl, by omega⟩⟩
        · exact ⟨0, by simp [c1, c2, c3, c4], Or.inr ⟨rfl, by omega⟩⟩
    · exact ⟨0, by simp [c1, c2], Or.inr ⟨rfl, by omega⟩⟩
def tauR (N A N0 : Mem) (s a b : Int) : Int := N0.1 82 (cm N A s (N0.1 84 a) (N0.1 84 b))
abbrev NPr (N A N0 : Mem) (m kc c : Int) : Prop := NP (N.1 1 1) (rkC N) (tauR N A N0) kc c (N0.1 87) (N0.1 86) (fun i => N0.1 76 (6 * m + i)) (fun i => N0.1 77 (6 * m + i)) (fun i => N0.1 78 (6 * m + i)) (fun i => N0.1 79 (6 * m + i))
def SH (N A N0 : Mem) (nx : Int → Int → Int → Int) (fn : Int → Int) (m c kc : Int) : Prop := RA N nx fn ∧ KF N nx A ∧ KG A N0 ∧ (0 ≤ m ∧ m ≤ 18) ∧ 0 ≤ c ∧ c < kc ∧ kc ≤ 6 ∧ (∀ k, 0 ≤ k → k < kc → 0 ≤ N0.1 84 k ∧ N0.1 84 k < A.1 62 26) ∧ NPr N A N0 m kc c ∧ ∀ s x y, 0 ≤ s → s < N.1 1 1 → Arg (rkC N) c s x y → 0 ≤ tauR N A N0 s (N0.1 87 x) (N0.1 87 y) ∧ tauR N A N0 s (N0.1 87 x) (N0.1 87 y) < kc
def So (N0 M : Mem) : Prop := M.2 = N0.2 ∧ (∀ a, a ≠ 62 → M.1 a = N0.1 a) ∧ ∀ k, ¬ (34 ≤ k ∧ k ≤ 38) → M.1 62 k = N0.1 62 k
theorem So.rf (N0 : Mem) : So N0 N0 := ⟨rfl, fun _ _ => rfl, fun _ _ => rfl⟩
theorem So.up {N0 M : Mem} (h : So N0 M) {k v : Int} (hk : 34 ≤ k ∧ k ≤ 38) : So N0 (up M 62 k v) := by
  refine ⟨by rw [up_2]; exact h.1, fun a q => by rw [up_n q]; exact h.2.1 a q, fun k' q => ?_⟩
  rw [up_1, if_neg (by omega)]; exact h.2.2 k' q
theorem So.kg {A N0 M : Mem} (h : So N0 M) (g : KG A N0) : KG A M := by
  refine g.tr ⟨⟨h.1, fun a q _ => h.2.1 a q, fun k _ q => h.2.2 k q⟩, h.2.2 26 (by decide), h.2.1 80 (by decide), h.2.1 81 (by decide), h.2.1 85 (by decide)⟩
def FIr (N A N0 : Mem) (m c s x y : Int) (M : Mem) : Prop := So N0 M ∧ BI (M.1 62 38 = -1) (N.1 1 1) (rkC N) (tauR N A N0) c (N0.1 87) (N0.1 86) (fun i => N0.1 76 (6 * m + i)) s x y (M.1 62 38) (M.1 62 34) (M.1 62 35) (M.1 62 36) (M.1 62 37)
theorem offer_ok {N A N0 M : Mem} {nx : Int → Int → Int → Int} {fn : Int → Int} {m c kc s x y : Int} (H : SH N A N0 nx fn m c kc) (s0 : 0 ≤ s) (s1 : s < N.1 1 1) (hA : Arg (rkC N) c s x y) (hI : FIr N A N0 m c s x y M) : OkM (D_M_offer 62 m s x y M) (fun M' => FIr N A N0 m c s x (y + 1) M') := by
  obtain ⟨R, hKF, hG0, hm, c0, c1, k6, hL, hNP, hT⟩ := H
  obtain ⟨hSo, hBI⟩ := hI
  have hG := hSo.kg hG0
  have mm := R.m (hKF.1.tr hG.1)
  have hS := mm.1.m_
  have n6 := R.2.1.1.2.1
  have rg := R.2.1.1.rk s
  have rk := mm.2.2 s s0 s1
  have s6 : s < 6 := by omega
  have r := hKF.2.1.1
  have b6 := hA.b6 (show c ≤ 6 by omega)
  have b63 := hNP.b63 (by omega)
  have nk := hNP.k
  have e87 : M.1 87 = N0.1 87 := hSo.2.1 87 (by decide)
  have e86 : M.1 86 = N0.1 86 := hSo.2.1 86 (by decide)
  have e84 : M.1 84 = N0.1 84 := hSo.2.1 84 (by decide)
  have e82 : M.1 82 = N0.1 82 := hSo.2.1 82 (by decide)
  have e76 : M.1 76 = N0.1 76 := hSo.2.1 76 (by decide)
  have t := hT s x y s0 s1 hA
  have g1 : gf M 62 9 54 1 = some 63 := by simp [gf, hS]
  have g31 : gf M 62 9 54 31 = some 84 := by simp [gf, hS]
  have g39 : gf M 62 9 54 39 = some 87 := by simp [gf, hS]
  have g16 : gf M 62 9 54 16 = some 76 := by simp [gf, hS]
  have g33 : gf M 62 9 54 33 = some 86 := by simp [gf, hS]
  have hrd : rd M 10 63 s = some (rkC N s) := by rw [rd_v (n := 6) (by simp [hS]) s0 (by omega), rk]
  have lx : 1 ≤ rkC N s → (0 ≤ N0.1 87 x ∧ N0.1 87 x < kc) ∧ (0 ≤ N0.1 84 (N0.1 87 x) ∧ N0.1 84 (N0.1 87 x) < A.1 62 26) := fun q => by
    have w := nk x (hA.1 q).1 (hA.1 q).2
    exact ⟨w, hL _ w.1 w.2⟩
  have ly : 2 ≤ rkC N s → (0 ≤ N0.1 87 y ∧ N0.1 87 y < kc) ∧ (0 ≤ N0.1 84 (N0.1 87 y) ∧ N0.1 84 (N0.1 87 y) < A.1 62 26) := fun q => by
    have w := nk y (hA.2.2.1 q).1 (hA.2.2.1 q).2
    exact ⟨w, hL _ w.1 w.2⟩
  have a1 : (if rkC N s ≤ 0 then some 0 else ((rd M 10 87 x).bind fun e20 => (rd M 10 84 e20).bind fun e21 => some e21)) = some (if 1 ≤ rkC N s then N0.1 84 (N0.1 87 x) else 0) := by
    by_cases q : 1 ≤ rkC N s
    · have := lx q
      rw [if_neg (show ¬ rkC N s ≤ 0 by omega), if_pos q, rd_v (n := 6) (by simp [hS]) b6.1.1 (by omega), obs, e87, rd_v (n := 512) (by simp [hS]) this.1.1 (by omega), obs, e84]
    · rw [if_pos (show rkC N s ≤ 0 by omega), if_neg q]
  have a2 : (if rkC N s ≤ 1 then some 0 else ((rd M 10 87 y).bind fun e20 => (rd M 10 84 e20).bind fun e21 => some e21)) = some (if 2 ≤ rkC N s then N0.1 84 (N0.1 87 y) else 0) := by
    by_cases q : 2 ≤ rkC N s
    · have := ly q
      rw [if_neg (show ¬ rkC N s ≤ 1 by omega), if_pos q, rd_v (n := 6) (by simp [hS]) b6.2.1 (by omega), obs, e87, rd_v (n := 512) (by simp [hS]) this.1.1 (by omega), obs, e84]
    · rw [if_pos (show rkC N s ≤ 1 by omega), if_neg q]
  have po := partOf_ok R hKF hG (s := s) (x := if 1 ≤ rkC N s then N0.1 84 (N0.1 87 x) else 0) (y := if 2 ≤ rkC N s then N0.1 84 (N0.1 87 y) else 0) s0 s1 (fun q => by rw [if_pos q]; exact (lx q).2) (fun q => by rw [if_pos q]; exact (ly q).2) (fun q => if_neg q) (fun q => if_neg q)
  have eτ : M.1 82 (cm N A s (if 1 ≤ rkC N s then N0.1 84 (N0.1 87 x) else 0) (if 2 ≤ rkC N s then N0.1 84 (N0.1 87 y) else 0)) = tauR N A N0 s (N0.1 87 x) (N0.1 87 y) := by
    rw [e82]
    unfold tauR cm
    rw [ixr_c (x' := N0.1 84 (N0.1 87 x)) (y' := N0.1 84 (N0.1 87 y)) (fun q => if_pos q) (fun q => if_pos q)]
  rw [eτ] at po
  have ex : wr (wr (6 * m) + x) = 6 * m + x := by rw [wr_eq (z := 6 * m) (by omega) (by omega), wr_eq (by omega) (by omega)]
  have ey : wr (wr (6 * m) + y) = 6 * m + y := by rw [wr_eq (z := 6 * m) (by omega) (by omega), wr_eq (by omega) (by omega)]
  have a3 : (if rkC N s ≤ 0 then some 0 else ((rd M 10 76 (wr (wr (6 * m) + x))).bind fun e77 => some e77)) = some (if 1 ≤ rkC N s then N0.1 76 (6 * m + x) else 0) := by
    by_cases q : 1 ≤ rkC N s
    · rw [if_neg (show ¬ rkC N s ≤ 0 by omega), if_pos q, ex, rd_v (n := 114) (by simp [hS]) (by omega) (by omega), obs, e76]
    · rw [if_pos (show rkC N s ≤ 0 by omega), if_neg q]
  have a4 : (if rkC N s ≤ 1 then some 0 else ((rd M 10 76 (wr (wr (6 * m) + y))).bind fun e77 => some e77)) = some (if 2 ≤ rkC N s then N0.1 76 (6 * m + y) else 0) := by
    by_cases q : 2 ≤ rkC N s
    · rw [if_neg (show ¬ rkC N s ≤ 1 by omega), if_pos q, ey, rd_v (n := 114) (by simp [hS]) (by omega) (by omega), obs, e76]
    · rw [if_pos (show rkC N s ≤ 1 by omega), if_neg q]
  have es : wr (wr (1 + (if 1 ≤ rkC N s then N0.1 76 (6 * m + x) else 0)) + (if 2 ≤ rkC N s then N0.1 76 (6 * m + y) else 0)) = szf (rkC N) (fun i => N0.1 76 (6 * m + i)) s x y := by
    unfold szf
    have v1 : 0 ≤ (if 1 ≤ rkC N s then N0.1 76 (6 * m + x) else 0) ∧ (if 1 ≤ rkC N s then N0.1 76 (6 * m + x) else 0) < 64 := by
      by_cases q : 1 ≤ rkC N s
      · rw [if_pos q]; have := b63 x (hA.1 q).1 (hA.1 q).2; omega
      · rw [if_neg q]; decide
    have v2 : 0 ≤ (if 2 ≤ rkC N s then N0.1 76 (6 * m + y) else 0) ∧ (if 2 ≤ rkC N s then N0.1 76 (6 * m + y) else 0) < 64 := by
      by_cases q : 2 ≤ rkC N s
      · rw [if_pos q]; have := b63 y (hA.2.2.1 q).1 (hA.2.2.1 q).2; omega
      · rw [if_neg q]; decide
    rw [wr_eq (z := 1 + (if 1 ≤ rkC N s then N0.1 76 (6 * m + x) else 0)) (by omega) (by omega), wr_eq (by omega) (by omega)]
  have ck62 : ck M 62 9 54 = some () := by simp [ck, hS]
  have gk : ∀ k : Nat, gf M 62 9 54 k = some (M.1 62 k) := fun k => by simp [gf, hS]
  have g34 : gf M 62 9 54 34 = some (M.1 62 34) := by simp [gf, hS]
  have g35 : gf M 62 9 54 35 = some (M.1 62 35) := by simp [gf, hS]
  have g36 : gf M 62 9 54 36 = some (M.1 62 36) := by simp [gf, hS]
  have g37 : gf M 62 9 54 37 = some (M.1 62 37) := by simp [gf, hS]
  have g38 : gf M 62 9 54 38 = some (M.1 62 38) := by simp [gf, hS]
  obtain ⟨ta, eta, hta⟩ := ahx_ok (szf (rkC N) (fun i => N0.1 76 (6 * m + i)) s x y) (M.1 62 34) s (M.1 62 35) x (M.1 62 36) y (M.1 62 37)
  unfold ahx at eta
  have hn6 : tauR N A N0 s (N0.1 87 x) (N0.1 87 y) < 6 := by omega
  have rn : rd M 10 86 (tauR N A N0 s (N0.1 87 x) (N0.1 87 y)) = some (N0.1 86 (tauR N A N0 s (N0.1 87 x) (N0.1 87 y))) := by
    rw [rd_v (n := 6) (by simp [hS]) t.1 (by omega), e86]
  unfold D_M_offer
  simp only [g1, g31, g39, g16, g33, obs, hrd, a1, a2, ck62, po, a3, a4, es, lt, g34, g35, g36, g37, g38, eta, rn]
  generalize hτ : tauR N A N0 s (N0.1 87 x) (N0.1 87 y) = w at *
  generalize hσ : szf (rkC N) (fun i => N0.1 76 (6 * m + i)) s x y = z at *
  by_cases hk : N0.1 86 w = -1
  · by_cases hb : M.1 62 38 = -1
    · simp [-Option.bind_some, -Option.bind_none, gf, pf, rd, wt, ck, ln, lt, bz, nq, up_1, up_2, obs, obn, hk, hb, hS]
      refine OkM.i ⟨((((hSo.up (by decide)).up (by decide)).up (by decide)).up (by decide)).up (by decide), ?_⟩
      have rr := hBI.take (no' := w = -1) s0 s1 hA (by rw [hτ]; exact hk) (fun q => absurd hb q) (by omega)
      rw [hτ, hσ] at rr
      simpa [up_1] using rr
    · rcases hta with ⟨q, ah⟩ | ⟨q, ah⟩
      · subst q
        simp [-Option.bind_some, -Option.bind_none, gf, pf, rd, wt, ck, ln, lt, bz, nq, up_1, up_2, obs, obn, hk, hb, hS]
        refine OkM.i ⟨((((hSo.up (by decide)).up (by decide)).up (by decide)).up (by decide)).up (by decide), ?_⟩
        have rr := hBI.take (no' := w = -1) s0 s1 hA (by rw [hτ]; exact hk) (fun q => by
          rw [hσ]
          rcases hBI with ⟨u, -⟩ | ⟨-, -, -, hv, -, -, -, -⟩
          · exact absurd u hb
          · unfold Vs at hv
            unfold AH at ah
            omega) (by omega)
        rw [hτ, hσ] at rr
        simpa [up_1] using rr
      · subst q
        simp [-Option.bind_some, -Option.bind_none, gf, pf, rd, wt, ck, ln, lt, bz, nq, up_1, up_2, obs, obn, hk, hb, hS]
        refine OkM.i ⟨hSo, hBI.skip (Or.inr ⟨hb, ?_⟩)⟩
        rw [hσ]
        unfold AH at ah
        omega
  · simp only [hk, if_false]
    exact OkM.i ⟨hSo, hBI.skip (Or.inl (by rw [hτ]; exact hk))⟩
theorem sk40_lp {N A N0 M : Mem} {nx : Int → Int → Int → Int} {fn : Int → Int} {m c kc s x : Int} (H : SH N A N0 nx fn m c kc) (s0 : 0 ≤ s) (s1 : s < N.1 1 1) (hx : (1 ≤ rkC N s → 0 ≤ x ∧ x < c) ∧ (¬ 1 ≤ rkC N s → x = 0)) (P : Option Mem → Prop) (k : Mem → Option Mem) (h2 : ∀ M', FIr N A N0 m c s (x + 1) 0 M' → P (k M')) (hI : FIr N A N0 m c s x 0 M) : P (L_M_seek_40 k 62 m c s x FU 0 M) := by
  have H0 := H
  obtain ⟨R, hKF, hG0, hm, c0, c1, k6, hL, hNP, hT⟩ := H
  have n6 := R.2.1.1.2.1
  have rg := R.2.1.1.rk s
  have cc : 2 ≤ rkC N s → 1 ≤ c := fun q => by have := hx.1 (by omega); omega
  refine lq1 (fun n v M' => L_M_seek_40 k 62 m c s x n v M') (fun y M' => 0 ≤ y ∧ y ≤ 6 ∧ FIr N A N0 m c s x y M') (fun y => (6 - y).toNat) P ?_ ⟨Int.le_refl 0, by decide, hI⟩ (by have := FU_eq; omega)
  clear hI M
  intro n y M ⟨y0, y6, hI⟩ ih
  show P (L_M_seek_40 k 62 m c s x (n + 1) y M)
  have hG := hI.1.kg hG0
  have mm := R.m (hKF.1.tr hG.1)
  have hS := mm.1.m_
  have rk := mm.2.2 s s0 s1
  have s6 : s < 6 := by omega
  rw [L_M_seek_40]
  by_cases q2 : 2 ≤ rkC N s
  · have nr : ¬ rkC N s ≤ 1 := by omega
    by_cases hy : c ≤ y
    · simp [-Option.bind_some, -Option.bind_none, gf, pf, rd, wt, ck, ln, lt, bz, nq, up_1, up_2, obs, obn, hS, s0, s6, rk, nr, hy]
      exact h2 M ⟨hI.1, hI.2.ny ⟨fun _ => hy, by have := cc q2; omega⟩⟩
    · have e1 : wr (y + 1) = y + 1 := wr_eq (by omega) (by omega)
      obtain ⟨M2, eo, hI2⟩ := offer_ok H0 s0 s1 ⟨hx.1, hx.2, fun _ => ⟨y0, by omega⟩, fun q => absurd q2 q⟩ hI
      simp [-Option.bind_some, -Option.bind_none, gf, pf, rd, wt, ck, ln, lt, bz, nq, up_1, up_2, obs, obn, hS, s0, s6, rk, nr, hy, eo, e1]
      exact ih (y + 1) M2 ⟨by omega, by omega, hI2⟩ (by omega)
  · have nr : rkC N s ≤ 1 := by omega
    by_cases hy : 1 ≤ y
    · simp [-Option.bind_some, -Option.bind_none, gf, pf, rd, wt, ck, ln, lt, bz, nq, up_1, up_2, obs, obn, hS, s0, s6, rk, nr, hy]
      exact h2 M ⟨hI.1, hI.2.ny ⟨fun q => absurd q q2, hy⟩⟩
    · have e1 : wr (y + 1) = y + 1 := wr_eq (by omega) (by omega)
      obtain ⟨M2, eo, hI2⟩ := offer_ok H0 s0 s1 ⟨hx.1, hx.2, fun q => absurd q q2, fun _ => by omega⟩ hI
      simp [-Option.bind_some, -Option.bind_none, gf, pf, rd, wt, ck, ln, lt, bz, nq, up_1, up_2, obs, obn, hS, s0, s6, rk, nr, hy, eo, e1]
      exact ih (y + 1) M2 ⟨by omega, by omega, hI2⟩ (by omega)
theorem sk18_lp {N A N0 M : Mem} {nx : Int → Int → Int → Int} {fn : Int → Int} {m c kc s : Int} (H : SH N A N0 nx fn m c kc) (s0 : 0 ≤ s) (s1 : s < N.1 1 1) (P : Option Mem → Prop) (k : Mem → Option Mem) (h2 : ∀ M', FIr N A N0 m c (s + 1) 0 0 M' → P (k M')) (hI : FIr N A N0 m c s 0 0 M) : P (L_M_seek_18 k 62 m c s FU 0 M) := by
  have H0 := H
  obtain ⟨R, hKF, hG0, hm, c0, c1, k6, hL, hNP, hT⟩ := H
  have n6 := R.2.1.1.2.1
  have rg := R.2.1.1.rk s
  refine lq1 (fun n v M' => L_M_seek_18 k 62 m c s n v M') (fun x M' => 0 ≤ x ∧ x ≤ 6 ∧ FIr N A N0 m c s x 0 M') (fun x => (6 - x).toNat) P ?_ ⟨Int.le_refl 0, by decide, hI⟩ (by have := FU_eq; omega)
  clear hI M
  intro n x M ⟨x0, x6, hI⟩ ih
  show P (L_M_seek_18 k 62 m c s (n + 1) x M)
  have hG := hI.1.kg hG0
  have mm := R.m (hKF.1.tr hG.1)
  have hS := mm.1.m_
  have rk := mm.2.2 s s0 s1
  have s6 : s < 6 := by omega
  rw [L_M_seek_18]
  by_cases q1 : 1 ≤ rkC N s
  · have nr : ¬ rkC N s ≤ 0 := by omega
    by_cases hx : c ≤ x
    · simp [-Option.bind_some, -Option.bind_none, gf, pf, rd, wt, ck, ln, lt, bz, nq, up_1, up_2, obs, obn, hS, s0, s6, rk, nr, hx]
      exact h2 M ⟨hI.1, hI.2.nx (Or.inl ⟨q1, hx⟩) (fun _ => hx)⟩
    · have e1 : wr (x + 1) = x + 1 := wr_eq (by omega) (by omega)
      simp [-Option.bind_some, -Option.bind_none, gf, pf, rd, wt, ck, ln, lt, bz, nq, up_1, up_2, obs, obn, hS, s0, s6, rk, nr, hx, e1]
      exact sk40_lp H0 s0 s1 ⟨fun _ => ⟨x0, by omega⟩, fun q => absurd q1 q⟩ P _ (fun M' h => ih (x + 1) M' ⟨by omega, by omega, h⟩ (by omega)) hI
  · have nr : rkC N s ≤ 0 := by omega
    by_cases hx : 1 ≤ x
    · simp [-Option.bind_some, -Option.bind_none, gf, pf, rd, wt, ck, ln, lt, bz, nq, up_1, up_2, obs, obn, hS, s0, s6, rk, nr, hx]
      exact h2 M ⟨hI.1, hI.2.nx (Or.inr hx) (fun q => absurd q q1)⟩
    · have e1 : wr (x + 1) = x + 1 := wr_eq (by omega) (by omega)
      simp [-Option.bind_some, -Option.bind_none, gf, pf, rd, wt, ck, ln, lt, bz, nq, up_1, up_2, obs, obn, hS, s0, s6, rk, nr, hx, e1]
      exact sk40_lp H0 s0 s1 ⟨fun q => absurd q q1, fun _ => by omega⟩ P _ (fun M' h => ih (x + 1) M' ⟨by omega, by omega, h⟩ (by omega)) hI
theorem seek_ok {N A N0 : Mem} {nx : Int → Int → Int → Int} {fn : Int → Int} {m c kc : Int} (H : SH N A N0 nx fn m c kc) : OkM (D_M_seek 62 m c N0) (fun M => FIr N A N0 m c (N.1 1 1) 0 0 M) := by
  have H0 := H
  obtain ⟨R, hKF, hG0, hm, c0, c1, k6, hL, hNP, hT⟩ := H
  have n0 := R.2.1.1.1
  have n6 := R.2.1.1.2.1
  have hS0 := (R.m (hKF.1.tr hG0.1)).1.m_
  unfold D_M_seek
  simp [-Option.bind_some, -Option.bind_none, gf, pf, rd, wt, ck, ln, lt, bz, nq, up_1, up_2, obs, obn, hS0]
  refine lq1 (fun n v M' => L_M_seek_7 (fun m7 => some m7) 62 m c n v M') (fun s M' => 0 ≤ s ∧ s ≤ N.1 1 1 ∧ FIr N A N0 m c s 0 0 M') (fun s => (6 - s).toNat) (fun o => OkM o (fun M => FIr N A N0 m c (N.1 1 1) 0 0 M)) ?_ ⟨Int.le_refl 0, n0, (So.rf N0).up (by decide), BI.z (by simp [-Option.bind_some, -Option.bind_none, gf, pf, rd, wt, ck, ln, lt, bz, nq, up_1, up_2, obs, obn])⟩ (by have := FU_eq; omega)
  intro n s M ⟨s0, s1, hI⟩ ih
  show OkM (L_M_seek_7 _ 62 m c (n + 1) s M) _
  have hG := hI.1.kg hG0
  have mm := R.m (hKF.1.tr hG.1)
  have hS := mm.1.m_
  rw [L_M_seek_7]
  by_cases hs : N.1 1 1 ≤ s
  · have : s = N.1 1 1 := by omega
    subst this
    simp [-Option.bind_some, -Option.bind_none, gf, pf, rd, wt, ck, ln, lt, bz, nq, up_1, up_2, obs, obn, hS, mm.2.1]
    exact OkM.i hI
  · have e1 : wr (s + 1) = s + 1 := wr_eq (by omega) (by omega)
    simp [-Option.bind_some, -Option.bind_none, gf, pf, rd, wt, ck, ln, lt, bz, nq, up_1, up_2, obs, obn, hS, mm.2.1, hs, e1]
    exact sk18_lp H0 s0 (by omega) (fun o => OkM o (fun M => FIr N A N0 m c (N.1 1 1) 0 0 M)) _ (fun M' h => ih (s + 1) M' ⟨by omega, by omega, h⟩ (by omega)) hI
