/-! the reference loads a tongue -/
/-- only the reference's own cells have changed: machine m, and what making one needs -/
def KL (m : Int) (M M' : Mem) : Prop := M'.2 = M.2 ∧ (∀ a, a ≠ 62 → ¬ (73 ≤ a ∧ a ≤ 89) → M'.1 a = M.1 a) ∧ (∀ k, k ≠ 20 → k ≠ 22 → k ≠ 26 → ¬ (34 ≤ k ∧ k ≤ 38) → M'.1 62 k = M.1 62 k) ∧ (∀ k, k ≠ m → M'.1 73 k = M.1 73 k) ∧ (∀ k, ¬ (216 * m ≤ k ∧ k < 216 * m + 216) → M'.1 74 k = M.1 74 k) ∧ ∀ a k, 75 ≤ a → a ≤ 79 → ¬ (6 * m ≤ k ∧ k < 6 * m + 6) → M'.1 a k = M.1 a k
theorem KL.sc {L : Nat} {xs : Int → Int} {m : Int} {M M' : Mem} (h : KL m M M') (q : SC L xs M) : SC L xs M' := ⟨by rw [h.1]; exact q.1, by rw [h.2.1 _ (by decide) (by decide)]; exact q.2⟩
theorem KL.ib {m tc : Int} {M M' : Mem} (h : KL m M M') (hI : IB M tc) (hm : tc ≤ m) (hA : BA M') : IB M' tc := by
  obtain ⟨h2, ho, hf, h73, h74, h75⟩ := h
  have hB : SB M' := SB_c hI.sb h2 (fun a k s => by
    by_cases e : a = 62
    · subst e
      unfold stp at s
      exact hf k (by omega) (by omega) (by omega) (by omega)
    · rw [ho a e (by unfold stp at s; omega)])
  have c1 : M'.1 1 = M.1 1 := ho 1 (by decide) (by decide)
  have c2 : M'.1 2 = M.1 2 := ho 2 (by decide) (by decide)
  have l10 : ∀ a, 10 ≤ a → a < 50 → M'.1 a = M.1 a := fun a _ _ => ho a (by omega) (by omega)
  refine hI.mk2 hI.tc_ hB c1 c2 (ho 3 (by decide) (by decide)) (ho 4 (by decide) (by decide)) (hf 0 (by decide) (by decide) (by decide) (by decide)) (hf 3 (by decide) (by decide) (by decide) (by decide)) (ho 63 (by decide) (by decide)) (ho 64 (by decide) (by decide)) (hI.sl.c (Int.le_refl _) h2 (ho 7 (by decide) (by decide)) (fun a _ _ _ k _ => by rw [ho a (by omega) (by omega)]) (fun a _ _ _ k _ => by rw [ho a (by omega) (by omega)])) (hI.2.2.2.2.2.2.1.c l10) (hI.2.2.2.2.2.2.2.1.c l10) hA ?_ (fun j j0 j1 => ?_)
  · intro j a b
    rw [ho 65 (by decide) (by decide)]; exact hI.2.2.2.2.2.2.2.2.2.1 j a b
  · refine TG.c ⟨fun a a0 a1 => ⟨ho a (by omega) (by omega), by rw [h2]⟩, by rw [c1], rk_c c1 c2, fun a a0 a1 => by rw [ho a (by omega) (by omega)], fun a i a0 a1 _ _ => by rw [ho a (by omega) (by omega)], h73 j (by omega), fun i i0 i1 => h74 _ (by omega), fun a c a0 a1 c0 c1 => h75 a _ a0 a1 (by omega)⟩ hI.sg.1.2.1 (hI.2.2.2.2.2.2.2.2.2.2 j j0 j1)
/-- copying machine a to b -/
def CpI (a b : Int) (M M' : Mem) : Prop := KL b M M' ∧ BA M' ∧ M'.1 73 b = M.1 73 a ∧ (∀ j, 0 ≤ j → j < 216 → M'.1 74 (216 * b + j) = M.1 74 (216 * a + j)) ∧ ∀ c e, 75 ≤ e → e ≤ 79 → 0 ≤ c → c < 6 → M'.1 e (6 * b + c) = M.1 e (6 * a + c)
theorem copy_ok {M : Mem} {a b : Int} (hB : SB M) (hA : BA M) (ha : 0 ≤ a ∧ a ≤ 18) (hb : 0 ≤ b ∧ b ≤ 18) (hab : a ≠ b) : OkM (D_M_copy 62 a b M) (fun M' => CpI a b M M') := by
  have hS := hB.m_
  have a19 : a < 19 := by omega
  have b19 : b < 19 := by omega
  have sbk : ∀ M' : Mem, M'.2 = M.2 → (∀ e, ¬ (73 ≤ e ∧ e ≤ 79) → M'.1 e = M.1 e) → SB M' := fun M' e1 e2 => SB_c hB e1 (fun e k s => by rw [e2 e (by unfold stp at s; omega)])
  unfold D_M_copy
  simp [-Option.bind_some, -Option.bind_none, gf, pf, rd, wt, ck, ln, lt, bz, nq, up_1, up_2, obs, obn, hS, ha, hb, a19, b19]
  refine lq1 (fun n v M' => L_M_copy_14 (fun m14 => L_M_copy_53 (fun m53 => some m53) 62 a b FU 0 m14) 62 a b n v M') (fun v M' => (0 ≤ v ∧ v ≤ 216) ∧ M'.2 = M.2 ∧ (∀ e, e ≠ 73 → e ≠ 74 → M'.1 e = M.1 e) ∧ M'.1 73 = ud (M.1 73) b (M.1 73 a) ∧ (∀ k, ¬ (216 * b ≤ k ∧ k < 216 * b + 216) → M'.1 74 k = M.1 74 k) ∧ ∀ j, 0 ≤ j → j < v → M'.1 74 (216 * b + j) = M.1 74 (216 * a + j)) (fun v => (216 - v).toNat) (fun o => OkM o (fun M' => CpI a b M M')) ?_ ⟨by decide, by rw [up_2], fun e q _ => up_n q, by rw [up_f, if_pos rfl], fun k _ => by rw [up_n (by decide)], fun j _ _ => by omega⟩ (by have := FU_eq; omega)
  intro n v M1 ⟨⟨v0, v1⟩, s1, o1, e73, e74, ev⟩ ih
  show OkM (L_M_copy_14 _ 62 a b (n + 1) v M1) _
  have hS1 := (sbk M1 s1 (fun e q => o1 e (by omega) (by omega))).m_
  rw [L_M_copy_14]
  by_cases q : 216 ≤ v
  · have : v = 216 := by omega
    subst this
    simp [-Option.bind_some, -Option.bind_none, gf, pf, rd, wt, ck, ln, lt, bz, nq, up_1, up_2, obs, obn]
    refine lq1 (fun n v M' => L_M_copy_53 (fun m53 => some m53) 62 a b n v M') (fun v M' => (0 ≤ v ∧ v ≤ 6) ∧ M'.2 = M.2 ∧ (∀ e, ¬ (75 ≤ e ∧ e ≤ 79) → M'.1 e = M1.1 e) ∧ (∀ e k, 75 ≤ e → e ≤ 79 → ¬ (6 * b ≤ k ∧ k < 6 * b + 6) → M'.1 e k = M.1 e k) ∧ ∀ c e, 75 ≤ e → e ≤ 79 → 0 ≤ c → c < v → M'.1 e (6 * b + c) = M.1 e (6 * a + c)) (fun v => (6 - v).toNat) (fun o => OkM o (fun M' => CpI a b M M')) ?_ ⟨by decide, s1, fun _ _ => rfl, fun e k q0 q1 _ => by rw [o1 e (by omega) (by omega)], fun c e _ _ _ _ => by omega⟩ (by have := FU_eq; omega)
    intro n v M2 ⟨⟨v0, v1⟩, s2, o2, k2, c2⟩ ih2
    show OkM (L_M_copy_53 _ 62 a b (n + 1) v M2) _
    have oo : ∀ e, ¬ (73 ≤ e ∧ e ≤ 79) → M2.1 e = M.1 e := fun e q => by rw [o2 e (by omega), o1 e (by omega) (by omega)]
    have hS2 := (sbk M2 s2 oo).m_
    rw [L_M_copy_53]
    by_cases q2 : 6 ≤ v
    · simp [-Option.bind_some, -Option.bind_none, gf, pf, rd, wt, ck, ln, lt, bz, nq, up_1, up_2, obs, obn, q2]
      refine OkM.i ⟨⟨s2, fun e w0 w1 => oo e (by omega), fun k _ _ _ _ => by rw [oo 62 (by decide)], fun k w => by rw [o2 73 (by decide), e73, ud_n w], fun k w => by rw [o2 74 (by decide)]; exact e74 k w, k2⟩, fun k w0 w1 => ?_, by rw [o2 73 (by decide), e73, ud_s], fun j w0 w1 => by rw [o2 74 (by decide)]; exact ev j w0 w1, fun c e w0 w1 w2 w3 => c2 c e w0 w1 w2 (by omega)⟩
      by_cases z : 6 * b ≤ k ∧ k < 6 * b + 6
      · have := c2 (k - 6 * b) 75 (by decide) (by decide) (by omega) (by omega)
        rw [show 6 * b + (k - 6 * b) = k by omega] at this
        rw [this]
        exact hA _ (by omega) (by omega)
      · rw [k2 75 k (by decide) (by decide) z]
        exact hA k w0 w1
    · have g1 : wr (v + 1) = v + 1 := wr_eq (by omega) (by omega)
      have ea : wr (wr (6 * a) + v) = 6 * a + v := by rw [wr_eq (z := 6 * a) (by omega) (by omega), wr_eq (by omega) (by omega)]
      have eb : wr (wr (6 * b) + v) = 6 * b + v := by rw [wr_eq (z := 6 * b) (by omega) (by omega), wr_eq (by omega) (by omega)]
      have i0 : 0 ≤ 6 * a + v := by omega
      have i1 : 6 * a + v < 114 := by omega
      have j0 : 0 ≤ 6 * b + v := by omega
      have j1 : 6 * b + v < 114 := by omega
      have ka : ∀ e, 75 ≤ e → e ≤ 79 → M2.1 e (6 * a + v) = M.1 e (6 * a + v) := fun e w0 w1 => k2 e _ w0 w1 (by omega)
      have k75 := ka 75 (by decide) (by decide)
      have k76 := ka 76 (by decide) (by decide)
      have k77 := ka 77 (by decide) (by decide)
      have k78 := ka 78 (by decide) (by decide)
      have k79 := ka 79 (by decide) (by decide)
      have ba := hA (6 * a + v) i0 i1
      simp [-Option.bind_some, -Option.bind_none, gf, pf, rd, wt, ck, ln, lt, bz, nq, up_1, up_2, obs, obn, q2, hS2, ea, eb, i0, i1, j0, j1, k75, k76, k77, k78, k79, ba, g1]
      refine ih2 (v + 1) _ ⟨by omega, by rw [up_2, up_2, up_2, up_2, up_2]; exact s2, fun e w => by rw [up_n (by omega), up_n (by omega), up_n (by omega), up_n (by omega), up_n (by omega)]; exact o2 e w, fun e k w0 w1 w => ?_, fun c e w0 w1 w2 w3 => ?_⟩ (by omega)
      · rw [up_1, if_neg (by omega), up_1, if_neg (by omega), up_1, if_neg (by omega), up_1, if_neg (by omega), up_1, if_neg (by omega)]
        exact k2 e k w0 w1 w
      · by_cases z : c = v
        · subst z
          have y : e = 75 ∨ e = 76 ∨ e = 77 ∨ e = 78 ∨ e = 79 := by omega
          rcases y with y | y | y | y | y <;> subst y <;> simp [up_1]
        · rw [up_1, if_neg (by omega), up_1, if_neg (by omega), up_1, if_neg (by omega), up_1, if_neg (by omega), up_1, if_neg (by omega)]
          exact c2 c e w0 w1 w2 (by omega)
  · have g1 : wr (v + 1) = v + 1 := wr_eq (by omega) (by omega)
    have ea : wr (wr (216 * a) + v) = 216 * a + v := by rw [wr_eq (z := 216 * a) (by omega) (by omega), wr_eq (by omega) (by omega)]
    have eb : wr (wr (216 * b) + v) = 216 * b + v := by rw [wr_eq (z := 216 * b) (by omega) (by omega), wr_eq (by omega) (by omega)]
    have i0 : 0 ≤ 216 * a + v := by omega
    have i1 : 216 * a + v < 4104 := by omega
    have j0 : 0 ≤ 216 * b + v := by omega
    have j1 : 216 * b + v < 4104 := by omega
    have ka := e74 (216 * a + v) (by omega)
    simp [-Option.bind_some, -Option.bind_none, gf, pf, rd, wt, ck, ln, lt, bz, nq, up_1, up_2, obs, obn, q, hS1, ea, eb, i0, i1, j0, j1, ka, g1]
    refine ih (v + 1) _ ⟨by omega, by rw [up_2]; exact s1, fun e w0 w1 => by rw [up_n w1]; exact o1 e w0 w1, by rw [up_n (by decide)]; exact e73, fun k w => ?_, fun j w0 w1 => ?_⟩ (by omega)
    · rw [up_1, if_neg (by omega)]; exact e74 k w
    · rw [up_1]
      by_cases z : j = v
      · rw [if_pos ⟨rfl, by omega⟩, z]
      · rw [if_neg (by omega)]; exact ev j w0 (by omega)
theorem CpI.eqm {n : Int} {rk : Int → Int} {m : Mch} {a b : Int} {M M' : Mem} (h : CpI a b M M') (n6 : n ≤ 6) (k6 : mN m ≤ 6) (e : Eqm n rk m (mchR M a)) : Eqm n rk m (mchR M' b) := by
  obtain ⟨-, -, e73, e74, e75⟩ := h
  refine ⟨?_, fun c c0 c1 => ?_, fun s x y s0 s1 hA => ?_⟩
  · rw [e.1]; exact e73.symm
  · have w := e.2.1 c c0 c1
    refine ⟨?_, ?_, ?_, ?_, ?_⟩
    · rw [w.1]; exact (e75 c 76 (by decide) (by decide) c0 (by omega)).symm
    · rw [w.2.1]; exact (e75 c 77 (by decide) (by decide) c0 (by omega)).symm
    · rw [w.2.2.1]; exact (e75 c 78 (by decide) (by decide) c0 (by omega)).symm
    · rw [w.2.2.2.1]; exact (e75 c 79 (by decide) (by decide) c0 (by omega)).symm
    · rw [w.2.2.2.2]
      show M.1 75 (6 * a + c) = 1 ↔ M'.1 75 (6 * b + c) = 1
      rw [e75 c 75 (by decide) (by decide) c0 (by omega)]
  · rw [e.2.2 s x y s0 s1 hA]
    have q := hA.b6 k6
    exact (e74 _ (by omega) (by omega)).symm
theorem Eqm.mw {n : Int} {rk : Int → Int} {m m' : Mch} (h : Eqm n rk m m') (w : MW n rk m) : MW n rk m' := by
  refine ⟨by rw [← h.1]; exact w.1, fun s x y s0 s1 hA => ?_⟩
  rw [← h.1] at hA ⊢
  rw [← h.2.2 s x y s0 s1 hA]
  exact w.2 s x y s0 s1 hA
def LDP (M : Mem) (tc k m r : Int) (M' : Mem) : Prop := IB M' tc ∧ KL m M M' ∧ ((r = -5 ∧ M.1 (102 + 12 * k) 12 = 1) ∨ (r = 0 ∧ M.1 (102 + 12 * k) 12 = 0 ∧ MOK M (102 + 12 * k) ∧ Eqm (M.1 1 1) (rkC M) (mch M (102 + 12 * k)) (mchR M' m) ∧ MW (M.1 1 1) (rkC M) (mchR M' m)))
def LDR (M : Mem) (k m r : Int) (M' : Mem) : Prop := BA M' ∧ KL m M M' ∧ ((r = -5 ∧ M.1 (102 + 12 * k) 12 = 1) ∨ (r = 0 ∧ M.1 (102 + 12 * k) 12 = 0 ∧ MOK M (102 + 12 * k) ∧ Eqm (M.1 1 1) (rkC M) (mch M (102 + 12 * k)) (mchR M' m) ∧ MW (M.1 1 1) (rkC M) (mchR M' m)))
theorem load_raw {M : Mem} {k m : Int} (hB : SB M) (hg : SgE M) (hA : BA M) (hT : TG M k) (k0 : 0 ≤ k) (k16 : k < 16) (h7 : M.1 (100 + 12 * k) 7 = 0) (hm : m = 16 ∨ m = 17) : OkV (D_M_load 62 k m M) (fun r M' => LDR M k m r M') := by
  unfold D_M_load
  rcases hT with ⟨a1, a2, a3, a4, a5, a6, a7, a8, a9⟩ | ⟨a1, a2, a3, a4, a5, a6, a7⟩
  · have hMK : MK M (102 + 12 * k) k := by
      rcases a9 with w | w
      · omega
      · exact w.2
    have hB1 : SB (up (up M 62 20 0) 62 22 k) := SB_up (SB_up hB (by decide)) (by decide)
    have f1 : ∀ a, a ≠ 62 → (up (up M 62 20 0) 62 22 k).1 a = M.1 a := fun a w => by rw [up_n w, up_n w]
    have f2 : ∀ j, j ≠ 20 → j ≠ 22 → (up (up M 62 20 0) 62 22 k).1 62 j = M.1 62 j := fun j w0 w1 => by rw [up_1, if_neg (fun z => w1 z.2), up_1, if_neg (fun z => w0 z.2)]
    have f20 : (up (up M 62 20 0) 62 22 k).1 62 20 = 0 := by simp [-Option.bind_some, -Option.bind_none, gf, pf, rd, wt, ck, ln, lt, bz, nq, up_1, up_2, obs, obn]
    have f22 : (up (up M 62 20 0) 62 22 k).1 62 22 = k := by simp [-Option.bind_some, -Option.bind_none, gf, pf, rd, wt, ck, ln, lt, bz, nq, up_1, up_2, obs, obn]
    have fs : (up (up M 62 20 0) 62 22 k).2 = M.2 := by rw [up_2, up_2]
    have g1 : rd M 12 65 k = some 1 := by rw [rd_v (n := 16) (by simp [hB.m_]) k0 (by omega), a1]
    have ck1 : ck (up (up M 62 20 0) 62 22 k) 62 9 54 = some () := by simp [ck, hB1.m_]
    have g5 : gf M 62 9 54 5 = some 65 := by simp [gf, hB.m_]
    have p1 : pf M 62 9 54 20 0 = some (up M 62 20 0) := by simp [pf, hB.m_]
    have p2 : pf (up M 62 20 0) 62 9 54 22 k = some (up (up M 62 20 0) 62 22 k) := by simp [pf, hB.m_, up_2]
    simp only [g5, obs, g1, p1, p2, ck1]
    rw [if_neg (by decide)]
    generalize up (up M 62 20 0) 62 22 k = N at *
    have c1 : N.1 1 = M.1 1 := f1 1 (by decide)
    have c2 : N.1 2 = M.1 2 := f1 2 (by decide)
    have ek : rkC N = rkC M := rk_c c1 c2
    have hgN : SgE N := hg.c c1 c2 (f2 0 (by decide) (by decide)) (f1 63 (by decide))
    have hAN : BA N := fun j w0 w1 => by rw [f1 75 (by decide)]; exact hA j w0 w1
    have hRV : RV N k := a4.c (by rw [c1]) ek (fun a w0 w1 => by rw [f1 a (by omega)]) (fun a i w0 w1 _ _ => by rw [f1 a (by omega)])
    have ra := (ra0 (t := k) ⟨hB1, hgN, hAN⟩ hRV f22 f20).1
    obtain ⟨r, M', em, hKM, hres⟩ := make_ok (m := m) ra (by omega)
    rw [em, obs]
    have e0 : nx0 N k = nx0 M k := nx0_e ek (fun a w0 w1 => f1 a (by omega))
    have ct := canT_c (k := k) (M := M) (M' := N) (by rw [c1]) ek e0 (by rw [f1 67 (by decide)])
    have hKL : KL m M M' := by
      obtain ⟨u1, u2, u3, u4, u5, u6, u7⟩ := hKM
      refine ⟨u1.trans fs, fun a w0 w1 => (u2 a w0 w1).trans (f1 a w0), fun j w0 w1 w2 w3 => (u3 j w2 w3).trans (f2 j w0 w1), fun j w => (u4 j w).trans (by rw [f1 73 (by decide)]), fun j w => (u5 j w).trans (by rw [f1 74 (by decide)]), fun a j w0 w1 w => (u6 a j w0 w1 w).trans (by rw [f1 a (by omega)])⟩
    have hA' : BA M' := hKM.2.2.2.2.2.2 hAN
    refine OkV.i ⟨hA', hKL, ?_⟩
    rcases hres with ⟨er, hL⟩ | ⟨er, hCan, hW⟩
    · left
      have hL' : LgT N k := hL
      rw [ct.2] at hL'
      rcases hMK with ⟨w, -⟩ | ⟨-, -, -, w, -⟩
      · exact ⟨er, w⟩
      · exact absurd hL' w
    · right
      have hC' : CanT N k (mchR M' m) := hCan
      rw [ct.1] at hC'
      rw [c1, ek] at hW
      rcases hMK with ⟨-, w⟩ | ⟨w1, w2, -, -, w3⟩
      · exact absurd hC' (w _ hW.1.2)
      · exact ⟨er, w1, w2, w3 _ hC', hW⟩
  · obtain ⟨M', ec, hCp⟩ := copy_ok (a := k) (b := m) hB hA (by omega) (by omega) (by omega)
    have g1 : rd M 12 65 k = some 0 := by rw [rd_v (n := 16) (by simp [hB.m_]) k0 (by omega), a1]
    have ck1 : ck M 62 9 54 = some () := by simp [ck, hB.m_]
    have g5 : gf M 62 9 54 5 = some 65 := by simp [gf, hB.m_]
    simp only [g5, obs, g1, ck1, ec, if_true]
    have k6 : mN (mch M (102 + 12 * k)) ≤ 6 := a5.2.2.1.1.2
    have eq := hCp.eqm hg.1.2.1 k6 a7
    exact OkV.i ⟨hCp.2.1, hCp.1, Or.inr ⟨rfl, a4, a5, eq, eq.mw a5.2.2.1⟩⟩
theorem load_k_ok {M : Mem} {tc k m : Int} (hI : IB M tc) (k0 : 0 ≤ k) (k1 : k < tc) (h7 : M.1 (100 + 12 * k) 7 = 0) (hm : m = 16 ∨ m = 17) : OkV (D_M_load 62 k m M) (fun r M' => LDP M tc k m r M') := by
  have t16 := hI.tc_
  obtain ⟨r, M', e, hA', hKL, hres⟩ := load_raw (m := m) hI.sb hI.sg hI.2.2.2.2.2.2.2.2.1 (hI.2.2.2.2.2.2.2.2.2.2 k k0 k1) k0 (by omega) h7 hm
  exact ⟨r, M', e, hKL.ib hI (by omega) hA', hKL, hres⟩
