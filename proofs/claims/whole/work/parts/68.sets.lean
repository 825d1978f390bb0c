/-! the nets that are set -/
def NS (N M : Mem) (st one oth way : Int) (T : Int → Int → Int → Int → Prop) : Prop := M.2 = N.2 ∧ (∀ a, a ≠ 8 → a ≠ 9 → M.1 a = N.1 a) ∧ SB M ∧ (M.1 8 2 = st ∧ M.1 8 3 = one ∧ M.1 8 4 = oth ∧ M.1 8 5 = way) ∧ (∀ i, 0 ≤ i → i < 864 → 0 ≤ M.1 9 i ∧ M.1 9 i < 2 ^ st.toNat) ∧ ∀ s x y, 0 ≤ s → s < 6 → 0 ≤ x → x < 12 → 0 ≤ y → y < 12 → (¬ 1 ≤ rkC N s → x = 0) → (¬ 2 ≤ rkC N s → y = 0) → ∀ q, 0 ≤ q → (bt (M.1 9 (cel (rkC N s) s x y 12)) q ↔ T s x y q)
theorem NI.cq {A M : Mem} {st : Nat} {T T' : Int → Int → Int → Int → Prop} (h : NI A M st T) (e : ∀ s x y q, 0 ≤ s → s < 6 → 0 ≤ q → (T s x y q ↔ T' s x y q)) : NI A M st T' := ⟨h.1, h.2.1, h.2.2.1, fun s x y a b c d f g k l q q0 => (h.2.2.2 s x y a b c d f g k l q q0).trans (e s x y q a b q0)⟩
/-- only the net has changed -/
def Nf (N A : Mem) : Prop := A.2 = N.2 ∧ (∀ a, a ≠ 8 → a ≠ 9 → A.1 a = N.1 a) ∧ SB A
theorem Nf.rk {N A : Mem} (h : Nf N A) : rkC A = rkC N := by
  funext s
  unfold rkC
  rw [h.2.1 1 (by decide) (by decide), h.2.1 2 (by decide) (by decide)]
theorem Nf.sg {N A : Mem} (h : Nf N A) (hg : SgOk N) : SgOk A := by
  unfold SgOk
  rw [h.2.1 1 (by decide) (by decide), h.2.1 2 (by decide) (by decide)]
  exact hg
theorem Nf.mch {N A : Mem} (h : Nf N A) {p : Int} (hp : p = 50 ∨ 100 ≤ p) : mch A p = mch N p := by
  unfold Pilot.CTreeTonguesLaw_law_r3355_3c53dc.mch
  rw [h.rk, h.2.1 p (by omega) (by omega), h.2.1 (p + 1) (by omega) (by omega), h.2.1 (p + 2) (by omega) (by omega), h.2.1 (p + 3) (by omega) (by omega), h.2.1 (p + 4) (by omega) (by omega), h.2.1 (p + 5) (by omega) (by omega)]
theorem Nf.mok {N A : Mem} (h : Nf N A) {p : Int} (q : MOK N p) : MOK A p := by
  obtain ⟨hMS, hp, hW, hf⟩ := q
  have e : A.1 p = N.1 p := h.2.1 p (by clear hMS; omega) (by clear hMS; omega)
  refine ⟨?_, hp, ?_, ?_⟩
  · unfold MS
    rw [h.1, e]
    exact hMS
  · rw [h.2.1 1 (by decide) (by decide), h.rk, h.mch hp]
    exact hW
  · rw [e]; exact hf
theorem NI.ns {N A M : Mem} {st : Int} {one oth way : Int} {T : Int → Int → Int → Int → Prop} (hN : Nf N A) (h : NI A M st.toNat T) (h8 : A.1 8 2 = st ∧ A.1 8 3 = one ∧ A.1 8 4 = oth ∧ A.1 8 5 = way) : NS N M st one oth way T := by
  refine ⟨h.1.trans hN.1, fun a q1 q2 => (h.2.1 a q2).trans (hN.2.1 a q1 q2), h.sb hN.2.2, ?_, h.2.2.1, ?_⟩
  · rw [h.2.1 8 (by decide)]; exact h8
  · rw [← hN.rk]; exact h.2.2.2
theorem nbegin_ok {N : Mem} {st fin way : Int} (hB : SB N) : ∃ A, D_Net_begin 8 st fin way N = some A ∧ Nf N A ∧ (A.1 8 2 = st ∧ A.1 8 3 = fin ∧ A.1 8 4 = 0 ∧ A.1 8 5 = way) ∧ ∀ i, 0 ≤ i → i < 864 → A.1 9 i = 0 := by
  have ef := fill_ok (M := N) (a := 9) (n := 864) hB.n_.2.1 (by decide) 0
  have hSc : SB (sc N 9 (fun i => if 0 ≤ i ∧ i < (864 : Nat) then 0 else N.1 9 i)) := SB_sc hB (fun k => by unfold stp; omega)
  refine ⟨up (up (up (up (sc N 9 (fun i => if 0 ≤ i ∧ i < (864 : Nat) then 0 else N.1 9 i)) 8 2 st) 8 3 fin) 8 4 0) 8 5 way, ?_, ⟨?_, fun a q1 q2 => ?_, ?_⟩, ⟨?_, ?_, ?_, ?_⟩, fun i i0 i1 => ?_⟩
  · unfold D_Net_begin
    simp [-Option.bind_some, -Option.bind_none, gf, pf, rd, wt, ck, ln, lt, bz, nq, up_1, up_2, obs, obn, hB.n_, ef, sc_2]
  · rw [up_2, up_2, up_2, up_2, sc_2]
  · rw [up_n q1, up_n q1, up_n q1, up_n q1, sc_n q2]
  · exact SB_up (SB_up (SB_up (SB_up hSc (by decide)) (by decide)) (by decide)) (by decide)
  · simp [-Option.bind_some, -Option.bind_none, gf, pf, rd, wt, ck, ln, lt, bz, nq, up_1, up_2, obs, obn]
  · simp [-Option.bind_some, -Option.bind_none, gf, pf, rd, wt, ck, ln, lt, bz, nq, up_1, up_2, obs, obn]
  · simp [-Option.bind_some, -Option.bind_none, gf, pf, rd, wt, ck, ln, lt, bz, nq, up_1, up_2, obs, obn]
  · simp [-Option.bind_some, -Option.bind_none, gf, pf, rd, wt, ck, ln, lt, bz, nq, up_1, up_2, obs, obn]
  · rw [up_n (by decide), up_n (by decide), up_n (by decide), up_n (by decide), sc_1, if_pos rfl, if_pos ⟨i0, by omega⟩]
theorem NI.z {A : Mem} {st : Nat} (hz : ∀ i, 0 ≤ i → i < 864 → A.1 9 i = 0) : NI A A st (fun _ _ _ _ => False) := by
  have hp : (0 : Int) < 2 ^ st := by rw [← p2i]; have := Nat.pow_pos (n := st) (show 0 < 2 by decide); omega
  refine ⟨rfl, fun _ _ => rfl, fun i i0 i1 => by rw [hz i i0 i1]; exact ⟨Int.le_refl 0, hp⟩, fun s x y a b c d f g k l q q0 => ?_⟩
  have cr := cel_r12 (r := rkC A s) (s := s) (k1 := x) (k2 := y) ⟨a, b⟩ (fun _ => ⟨c, d⟩) (fun _ => ⟨f, g⟩)
  rw [hz _ cr.1 cr.2]
  exact ⟨fun w => absurd w (bt_zero q), fun w => w.elim⟩
/-- what one sign does in a machine -/
def WE (A : Mem) (p base s1 s a b q : Int) : Prop := ∃ x0 y0, Arg (rkC A) (A.1 p 10) s x0 y0 ∧ (1 ≤ rkC A s → a = base + x0) ∧ (2 ≤ rkC A s → b = base + y0) ∧ q = base + mT (mch A p) s1 x0 y0
theorem EE.we {A M : Mem} {st : Nat} {T : Int → Int → Int → Int → Prop} {p base s s1 : Int} (hM : MOK A p) (hs1 : 0 ≤ s1 ∧ s1 < A.1 1 1) (er : rkC A s1 = rkC A s) (b0 : 0 ≤ base) (hb6 : base ≤ 6) (h : NI A M st (EE A T base s (A.1 p 10) (ES A p base s1))) : NI A M st (fun s' a b q => T s' a b q ∨ (s' = s ∧ WE A p base s1 s a b q)) := by
  have k6 : 0 ≤ A.1 p 10 ∧ A.1 p 10 ≤ 6 := hM.2.2.1.1
  have key : ∀ x0 y0 q, Arg (rkC A) (A.1 p 10) s x0 y0 → 0 ≤ q → (bt (ES A p base s1 x0 y0) q ↔ q = base + mT (mch A p) s1 x0 y0) := by
    intro x0 y0 q hA q0
    have tr := hM.2.2.1.2 s1 x0 y0 hs1.1 hs1.2 (arg_rk er hA)
    have st' : mN (mch A p) = A.1 p 10 := rfl
    rw [st'] at tr
    exact bt_shl (by omega) (by omega) q0
  refine h.cq (fun s' a b q s0 s6 q0 => ⟨fun z => ?_, fun z => ?_⟩)
  · rcases z with z | ⟨e, x0, y0, hA, w1, w2, w3⟩
    · exact Or.inl z
    · exact Or.inr ⟨e, x0, y0, hA, w1, w2, (key x0 y0 q hA q0).mp w3⟩
  · rcases z with z | ⟨e, x0, y0, hA, w1, w2, w3⟩
    · exact Or.inl z
    · exact Or.inr ⟨e, x0, y0, hA, w1, w2, (key x0 y0 q hA q0).mpr w3⟩
theorem WE.nf {N A : Mem} (h : Nf N A) {p : Int} (hp : p = 50 ∨ 100 ≤ p) : WE A p = WE N p := by
  funext base s1 s a b q
  unfold WE
  rw [h.rk, h.mch hp, h.2.1 p (by omega) (by omega)]
theorem setOne_ok {N : Mem} {p fin way : Int} (hB : SB N) (hg : SgOk N) (hM : MOK N p) : OkM (D_Net_setOne 8 p fin way N) (fun M => NS N M (N.1 p 10) fin 0 way (fun s a b q => (0 ≤ s ∧ s < N.1 1 1) ∧ WE N p 0 s s a b q)) := by
  have k6 : 0 ≤ N.1 p 10 ∧ N.1 p 10 ≤ 6 := hM.2.2.1.1
  have hp := hM.2.1
  obtain ⟨A, eA, hN, h8, hz⟩ := nbegin_ok (st := N.1 p 10) (fin := fin) (way := way) hB
  have hMA := hN.mok hM
  have hgA := hN.sg hg
  have en : A.1 1 1 = N.1 1 1 := by rw [hN.2.1 1 (by decide) (by decide)]
  have n0 := hg.1
  have n6 := hg.2.1
  have ap : A.1 p 10 = N.1 p 10 := by rw [hN.2.1 p (by omega) (by omega)]
  unfold D_Net_setOne
  simp [-Option.bind_some, -Option.bind_none, gf, pf, rd, wt, ck, ln, lt, bz, nq, up_1, up_2, obs, obn, hM.1, hB.n_, eA]
  refine lq1 (fun n v M' => L_Net_setOne_13 (fun m13 => some m13) 8 p n v M') (fun s M' => 0 ≤ s ∧ s ≤ N.1 1 1 ∧ NI A M' (N.1 p 10).toNat (fun s' a b q => (0 ≤ s' ∧ s' < s) ∧ WE A p 0 s' s' a b q)) (fun s => (N.1 1 1 - s).toNat) (fun o => OkM o _) ?_ ⟨Int.le_refl 0, n0, (NI.z hz).c (fun s a b q => ⟨fun z => z.elim, fun z => by omega⟩)⟩ (by have := FU_eq; omega)
  intro n s M ⟨s0, s1, hI⟩ ih
  show OkM (L_Net_setOne_13 _ 8 p (n + 1) s M) _
  have hBM := hI.sb hN.2.2
  have eM : M.1 1 1 = N.1 1 1 := by rw [hI.2.1 1 (by decide)]; exact en
  rw [L_Net_setOne_13]
  by_cases hs : N.1 1 1 ≤ s
  · have : s = N.1 1 1 := by omega
    subst this
    simp [-Option.bind_some, -Option.bind_none, gf, pf, rd, wt, ck, ln, lt, bz, nq, up_1, up_2, obs, obn, hBM.n_, hBM.s_, eM]
    rw [WE.nf hN hp] at hI
    exact OkM.i (hI.ns hN h8)
  · have e1 : wr (s + 1) = s + 1 := wr_eq (by omega) (by omega)
    obtain ⟨M2, ee, hI2⟩ := enter_ok (base := 0) (s := s) (s1 := s) hN.2.2 hgA hMA (st := (N.1 p 10).toNat) (by omega) ⟨s0, by omega⟩ ⟨s0, by omega⟩ rfl (by decide) (by omega) (by decide) hI
    simp [-Option.bind_some, -Option.bind_none, gf, pf, rd, wt, ck, ln, lt, bz, nq, up_1, up_2, obs, obn, hBM.n_, hBM.s_, eM, hs, ee, e1]
    refine ih (s + 1) M2 ⟨by omega, by omega, (EE.we hMA ⟨s0, by omega⟩ rfl (by decide) (by decide) hI2).c (fun s' a b q => ⟨fun z => ?_, fun z => ?_⟩)⟩ (by omega)
    · rcases z with z | ⟨e, z⟩
      · exact ⟨by omega, z.2⟩
      · rw [← e] at z; exact ⟨by omega, z⟩
    · by_cases e : s' = s
      · refine Or.inr ⟨e, ?_⟩
        rw [← e]; exact z.2
      · exact Or.inl ⟨by omega, z.2⟩
theorem setBoth_ok {N : Mem} {p p' way : Int} (hB : SB N) (hg : SgOk N) (hM : MOK N p) (hM' : MOK N p') : OkM (D_Net_setBoth 8 p p' way N) (fun M => NS N M (6 + N.1 p' 10) (N.1 p 11) (ishl (N.1 p' 11) 6) way (fun s a b q => (0 ≤ s ∧ s < N.1 1 1) ∧ (WE N p 0 s s a b q ∨ WE N p' 6 s s a b q))) := by
  have k6 : 0 ≤ N.1 p 10 ∧ N.1 p 10 ≤ 6 := hM.2.2.1.1
  have k6' : 0 ≤ N.1 p' 10 ∧ N.1 p' 10 ≤ 6 := hM'.2.2.1.1
  have hp := hM.2.1
  have hp' := hM'.2.1
  obtain ⟨A0, eA, hN0, h80, hz0⟩ := nbegin_ok (st := 6 + N.1 p' 10) (fin := N.1 p 11) (way := way) hB
  have ew : wr (6 + N.1 p' 10) = 6 + N.1 p' 10 := wr_eq (by omega) (by omega)
  have q0 : A0.1 p' 11 = N.1 p' 11 := by rw [hN0.2.1 p' (by omega) (by omega)]
  have hN : Nf N (up A0 8 4 (ishl (N.1 p' 11) 6)) := ⟨by rw [up_2]; exact hN0.1, fun a a1 a2 => by rw [up_n a1]; exact hN0.2.1 a a1 a2, SB_up hN0.2.2 (by decide)⟩
  have h8 : (up A0 8 4 (ishl (N.1 p' 11) 6)).1 8 2 = 6 + N.1 p' 10 ∧ (up A0 8 4 (ishl (N.1 p' 11) 6)).1 8 3 = N.1 p 11 ∧ (up A0 8 4 (ishl (N.1 p' 11) 6)).1 8 4 = ishl (N.1 p' 11) 6 ∧ (up A0 8 4 (ishl (N.1 p' 11) 6)).1 8 5 = way := by
    refine ⟨?_, ?_, ?_, ?_⟩
    · rw [up_1, if_neg (by decide)]; exact h80.1
    · rw [up_1, if_neg (by decide)]; exact h80.2.1
    · rw [up_1, if_pos ⟨rfl, rfl⟩]
    · rw [up_1, if_neg (by decide)]; exact h80.2.2.2
  have hz : ∀ i, 0 ≤ i → i < 864 → (up A0 8 4 (ishl (N.1 p' 11) 6)).1 9 i = 0 := fun i a b => by rw [up_n (by decide)]; exact hz0 i a b
  have hM0' : MS A0 p' := (hN0.mok hM').1
  unfold D_Net_setBoth
  simp [-Option.bind_some, -Option.bind_none, gf, pf, rd, wt, ck, ln, lt, bz, nq, up_1, up_2, obs, obn, hM.1, hM'.1, hB.n_, ew, eA, hM0', q0, hN0.2.2.n_]
  generalize up A0 8 4 (ishl (N.1 p' 11) 6) = A at *
  have hMA := hN.mok hM
  have hMA' := hN.mok hM'
  have hgA := hN.sg hg
  have en : A.1 1 1 = N.1 1 1 := by rw [hN.2.1 1 (by decide) (by decide)]
  have n0 := hg.1
  have n6 := hg.2.1
  have ap : A.1 p 10 = N.1 p 10 := by rw [hN.2.1 p (by omega) (by omega)]
  have ap' : A.1 p' 10 = N.1 p' 10 := by rw [hN.2.1 p' (by omega) (by omega)]
  refine lq1 (fun n v M' => L_Net_setBoth_30 (fun m30 => some m30) 8 p p' n v M') (fun s M' => 0 ≤ s ∧ s ≤ N.1 1 1 ∧ NI A M' (6 + N.1 p' 10).toNat (fun s' a b q => (0 ≤ s' ∧ s' < s) ∧ (WE A p 0 s' s' a b q ∨ WE A p' 6 s' s' a b q))) (fun s => (N.1 1 1 - s).toNat) (fun o => OkM o _) ?_ ⟨Int.le_refl 0, n0, (NI.z hz).c (fun s a b q => ⟨fun z => z.elim, fun z => by omega⟩)⟩ (by have := FU_eq; omega)
  intro n s M ⟨s0, s1, hI⟩ ih
  show OkM (L_Net_setBoth_30 _ 8 p p' (n + 1) s M) _
  have hBM := hI.sb hN.2.2
  have eM : M.1 1 1 = N.1 1 1 := by rw [hI.2.1 1 (by decide)]; exact en
  rw [L_Net_setBoth_30]
  by_cases hs : N.1 1 1 ≤ s
  · have : s = N.1 1 1 := by omega
    subst this
    simp [-Option.bind_some, -Option.bind_none, gf, pf, rd, wt, ck, ln, lt, bz, nq, up_1, up_2, obs, obn, hBM.n_, hBM.s_, eM]
    rw [WE.nf hN hp, WE.nf hN hp'] at hI
    exact OkM.i (hI.ns hN h8)
  · have e1 : wr (s + 1) = s + 1 := wr_eq (by omega) (by omega)
    obtain ⟨M2, ee, hI2⟩ := enter_ok (base := 0) (s := s) (s1 := s) hN.2.2 hgA hMA (st := (6 + N.1 p' 10).toNat) (by omega) ⟨s0, by omega⟩ ⟨s0, by omega⟩ rfl (by decide) (by omega) (by decide) hI
    have hI2' := EE.we hMA ⟨s0, by omega⟩ rfl (by decide) (by decide) hI2
    have hBM2 := hI2.sb hN.2.2
    obtain ⟨M3, ee3, hI3⟩ := enter_ok (base := 6) (s := s) (s1 := s) hN.2.2 hgA hMA' (st := (6 + N.1 p' 10).toNat) (by omega) ⟨s0, by omega⟩ ⟨s0, by omega⟩ rfl (by decide) (by omega) (by decide) hI2'
    simp [-Option.bind_some, -Option.bind_none, gf, pf, rd, wt, ck, ln, lt, bz, nq, up_1, up_2, obs, obn, hBM.n_, hBM.s_, eM, hs, ee, hBM2.n_, ee3, e1]
    refine ih (s + 1) M3 ⟨by omega, by omega, (EE.we hMA' ⟨s0, by omega⟩ rfl (by decide) (by decide) hI3).c (fun s' a b q => ⟨fun z => ?_, fun z => ?_⟩)⟩ (by omega)
    · rcases z with (z | ⟨e, z⟩) | ⟨e, z⟩
      · exact ⟨by omega, z.2⟩
      · rw [← e] at z; exact ⟨by omega, Or.inl z⟩
      · rw [← e] at z; exact ⟨by omega, Or.inr z⟩
    · by_cases e : s' = s
      · rcases z.2 with w | w
        · rw [e] at w; exact Or.inl (Or.inr ⟨e, w⟩)
        · rw [e] at w; exact Or.inr ⟨e, w⟩
      · exact Or.inl (Or.inl ⟨by omega, z.2⟩)
/-! renaming -/
def mpf (map s : Int) : Int := iand (ishr map (3 * s)) 7
def MapOk (N : Mem) (map : Int) : Prop := ∀ s, 0 ≤ s → s < N.1 1 1 → (0 ≤ mpf map s ∧ mpf map s < N.1 1 1) ∧ rkC N (mpf map s) = rkC N s
theorem mapped_ok {M : Mem} {map s : Int} (s0 : 0 ≤ s) (s6 : s < 6) (a : Int) : D_Signs_mapped a map s M = some (mpf map s, M) := by
  unfold D_Signs_mapped mpf
  rw [wr_eq (by omega) (by omega)]
theorem setRenamed_ok {N : Mem} {p map : Int} (hB : SB N) (hg : SgOk N) (hM : MOK N p) (hm : MapOk N map) : OkM (D_Net_setRenamed 8 p map N) (fun M => NS N M (N.1 p 10) (N.1 p 11) 0 10 (fun s a b q => ∃ t, (0 ≤ t ∧ t < N.1 1 1) ∧ s = mpf map t ∧ WE N p 0 t s a b q)) := by
  have k6 : 0 ≤ N.1 p 10 ∧ N.1 p 10 ≤ 6 := hM.2.2.1.1
  have hp := hM.2.1
  obtain ⟨A, eA, hN, h8, hz⟩ := nbegin_ok (st := N.1 p 10) (fin := N.1 p 11) (way := 10) hB
  have hMA := hN.mok hM
  have hgA := hN.sg hg
  have en : A.1 1 1 = N.1 1 1 := by rw [hN.2.1 1 (by decide) (by decide)]
  have n0 := hg.1
  have n6 := hg.2.1
  have ap : A.1 p 10 = N.1 p 10 := by rw [hN.2.1 p (by omega) (by omega)]
  unfold D_Net_setRenamed
  simp [-Option.bind_some, -Option.bind_none, gf, pf, rd, wt, ck, ln, lt, bz, nq, up_1, up_2, obs, obn, hM.1, hB.n_, eA]
  refine lq1 (fun n v M' => L_Net_setRenamed_16 (fun m16 => some m16) 8 p map n v M') (fun s M' => 0 ≤ s ∧ s ≤ N.1 1 1 ∧ NI A M' (N.1 p 10).toNat (fun s' a b q => ∃ t, (0 ≤ t ∧ t < s) ∧ s' = mpf map t ∧ WE A p 0 t s' a b q)) (fun s => (N.1 1 1 - s).toNat) (fun o => OkM o _) ?_ ⟨Int.le_refl 0, n0, (NI.z hz).c (fun s a b q => ⟨fun z => z.elim, fun ⟨t, z, _⟩ => by omega⟩)⟩ (by have := FU_eq; omega)
  intro n s M ⟨s0, s1, hI⟩ ih
  show OkM (L_Net_setRenamed_16 _ 8 p map (n + 1) s M) _
  have hBM := hI.sb hN.2.2
  have eM : M.1 1 1 = N.1 1 1 := by rw [hI.2.1 1 (by decide)]; exact en
  rw [L_Net_setRenamed_16]
  by_cases hs : N.1 1 1 ≤ s
  · have : s = N.1 1 1 := by omega
    subst this
    simp [-Option.bind_some, -Option.bind_none, gf, pf, rd, wt, ck, ln, lt, bz, nq, up_1, up_2, obs, obn, hBM.n_, hBM.s_, eM]
    rw [WE.nf hN hp] at hI
    exact OkM.i (hI.ns hN h8)
  · have e1 : wr (s + 1) = s + 1 := wr_eq (by omega) (by omega)
    have mo := hm s s0 (by omega)
    have rr : rkC A s = rkC A (mpf map s) := by rw [hN.rk]; exact mo.2.symm
    have mp := mapped_ok (M := M) (map := map) s0 (by omega) 1
    obtain ⟨M2, ee, hI2⟩ := enter_ok (base := 0) (s := mpf map s) (s1 := s) hN.2.2 hgA hMA (st := (N.1 p 10).toNat) (by omega) ⟨mo.1.1, by omega⟩ ⟨s0, by omega⟩ rr (by decide) (by omega) (by decide) hI
    simp [-Option.bind_some, -Option.bind_none, gf, pf, rd, wt, ck, ln, lt, bz, nq, up_1, up_2, obs, obn, hBM.n_, hBM.s_, eM, hs, mp, ee, e1]
    refine ih (s + 1) M2 ⟨by omega, by omega, (EE.we hMA ⟨s0, by omega⟩ rr (by decide) (by decide) hI2).c (fun s' a b q => ⟨fun z => ?_, fun z => ?_⟩)⟩ (by omega)
    · rcases z with ⟨t, z1, z2⟩ | ⟨e, z⟩
      · exact ⟨t, by omega, z2⟩
      · exact ⟨s, by omega, e, by rw [e]; exact z⟩
    · obtain ⟨t, z1, z2, z3⟩ := z
      by_cases e : t = s
      · rw [e] at z2 z3
        exact Or.inr ⟨z2, by rw [← z2]; exact z3⟩
      · exact Or.inl ⟨t, by omega, z2, z3⟩
theorem setBack_ok {N : Mem} {p map : Int} (hB : SB N) (hg : SgOk N) (hM : MOK N p) (hm : MapOk N map) : OkM (D_Net_setBack 8 p map N) (fun M => NS N M (N.1 p 10) (N.1 p 11) 0 10 (fun s a b q => (0 ≤ s ∧ s < N.1 1 1) ∧ WE N p 0 (mpf map s) s a b q)) := by
  have k6 : 0 ≤ N.1 p 10 ∧ N.1 p 10 ≤ 6 := hM.2.2.1.1
  have hp := hM.2.1
  obtain ⟨A, eA, hN, h8, hz⟩ := nbegin_ok (st := N.1 p 10) (fin := N.1 p 11) (way := 10) hB
  have hMA := hN.mok hM
  have hgA := hN.sg hg
  have en : A.1 1 1 = N.1 1 1 := by rw [hN.2.1 1 (by decide) (by decide)]
  have n0 := hg.1
  have n6 := hg.2.1
  have ap : A.1 p 10 = N.1 p 10 := by rw [hN.2.1 p (by omega) (by omega)]
  unfold D_Net_setBack
  simp [-Option.bind_some, -Option.bind_none, gf, pf, rd, wt, ck, ln, lt, bz, nq, up_1, up_2, obs, obn, hM.1, hB.n_, eA]
  refine lq1 (fun n v M' => L_Net_setBack_16 (fun m16 => some m16) 8 p map n v M') (fun s M' => 0 ≤ s ∧ s ≤ N.1 1 1 ∧ NI A M' (N.1 p 10).toNat (fun s' a b q => (0 ≤ s' ∧ s' < s) ∧ WE A p 0 (mpf map s') s' a b q)) (fun s => (N.1 1 1 - s).toNat) (fun o => OkM o _) ?_ ⟨Int.le_refl 0, n0, (NI.z hz).c (fun s a b q => ⟨fun z => z.elim, fun z => by omega⟩)⟩ (by have := FU_eq; omega)
  intro n s M ⟨s0, s1, hI⟩ ih
  show OkM (L_Net_setBack_16 _ 8 p map (n + 1) s M) _
  have hBM := hI.sb hN.2.2
  have eM : M.1 1 1 = N.1 1 1 := by rw [hI.2.1 1 (by decide)]; exact en
  rw [L_Net_setBack_16]
  by_cases hs : N.1 1 1 ≤ s
  · have : s = N.1 1 1 := by omega
    subst this
    simp [-Option.bind_some, -Option.bind_none, gf, pf, rd, wt, ck, ln, lt, bz, nq, up_1, up_2, obs, obn, hBM.n_, hBM.s_, eM]
    rw [WE.nf hN hp] at hI
    exact OkM.i (hI.ns hN h8)
  · have e1 : wr (s + 1) = s + 1 := wr_eq (by omega) (by omega)
    have mo := hm s s0 (by omega)
    have rr : rkC A (mpf map s) = rkC A s := by rw [hN.rk]; exact mo.2
    have mp := mapped_ok (M := M) (map := map) s0 (by omega) 1
    obtain ⟨M2, ee, hI2⟩ := enter_ok (base := 0) (s := s) (s1 := mpf map s) hN.2.2 hgA hMA (st := (N.1 p 10).toNat) (by omega) ⟨s0, by omega⟩ ⟨mo.1.1, by omega⟩ rr (by decide) (by omega) (by decide) hI
    simp [-Option.bind_some, -Option.bind_none, gf, pf, rd, wt, ck, ln, lt, bz, nq, up_1, up_2, obs, obn, hBM.n_, hBM.s_, eM, hs, mp, ee, e1]
    refine ih (s + 1) M2 ⟨by omega, by omega, (EE.we hMA ⟨mo.1.1, by omega⟩ rr (by decide) (by decide) hI2).c (fun s' a b q => ⟨fun z => ?_, fun z => ?_⟩)⟩ (by omega)
    · rcases z with z | ⟨e, z⟩
      · exact ⟨by omega, z.2⟩
      · rw [← e] at z; exact ⟨by omega, z⟩
    · by_cases e : s' = s
      · refine Or.inr ⟨e, ?_⟩
        rw [← e]; exact z.2
      · exact Or.inl ⟨by omega, z.2⟩
