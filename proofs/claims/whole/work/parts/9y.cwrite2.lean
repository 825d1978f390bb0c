/-! writing the tree of a number: the class's search and recursion -/
/-- where the search ends -/
noncomputable def HIT (w : Int → Int → Int → Int → Int → Mem → Option (Int × Mem)) (p z lv s f l : Int) (M : Mem) : Option (Int × Mem) := (gf M 60 0 4 1).bind fun g70 => (ck M g70 4 5).bind fun _ => (D_Row_add g70 s M).bind fun x75 => (ck x75 60 0 4).bind fun _ => (D_Census_writeParts w 60 p s z f lv l x75).bind fun x88 => some (x88.1, x88.2)
theorem w36_lp {n : Int} {rk : Int → Int} {m : Mch} {p lv z : Int} {W : Int → Int} {M : Mem} (h : CSt n rk m p M) (hw : WOK (mN m) W) (hl : AtL lv (mN m) W M) (l0 : 0 ≤ lv) (l1 : lv ≤ 39) (z1 : 1 ≤ z) (z2 : z ≤ 40) (w : Int → Int → Int → Int → Int → Mem → Option (Int × Mem)) (k : Mem → Option (Int × Mem)) (P : Option (Int × Mem) → Prop) {s' f' l' : Int} (hp : ∀ M', CWR (lv * 6 + 6) [] M M' → (1 ≤ rk s' → AtL (lv + 1) (mN m) (w1P rk m (kC n rk m) W s' z f') M') → P (HIT w p z lv s' f' l' M')) : ∀ (q : Nat) (s f l : Int) (n1 n2 : Nat) (M' : Mem), pk n rk (fun s f => shP rk m (kC n rk m) W s z f) z q s f l = some (s', f', l') → CWR (lv * 6 + 6) [] M M' → 0 ≤ s → lst rk s z ≤ f → (0 ≤ l ∧ l < FAR) → (mst rk s z - f + 1).toNat < n1 → (n - s).toNat < n2 → P (L_Census_write_36 w (fun w6_36 m36 => L_Census_write_15 w k 60 p z lv n2 w6_36 (wr (s + 1)) m36) 60 p z lv s n1 l f M') := by
  obtain ⟨hW, hr, n6⟩ := h.mw
  have N6 := hW.1
  intro q
  induction q with
  | zero => intro s f l n1 n2 M' e; unfold pk at e; cases e
  | succ q ih =>
    intro s f l n1 n2 M' e hc s0 f0 lr hn1 hn2
    unfold pk at e
    by_cases q0 : n ≤ s
    · rw [if_pos q0] at e; cases e
    rw [if_neg q0] at e
    cases n1 with
    | zero => omega
    | succ n1 =>
    have hM' := h.c hc
    have hB' := hM'.1.1
    have ck0 : ck M' 60 0 4 = some () := by simp [ck, hB'.c_]
    have mo := mostFirst_ok hM' (s := s) z1 z2
    rw [L_Census_write_36]
    dsimp only
    rw [ck0, obs, mo, obs]
    dsimp only
    by_cases qf : mst rk s z < f
    · rw [if_pos qf] at e
      rw [if_pos qf]
      have ws : wr (s + 1) = s + 1 := wr_eq (by omega) (by omega)
      cases n2 with
      | zero => omega
      | succ n2 =>
      have g0 : gf M' 60 0 4 0 = some 1 := by simp [gf, hB'.c_]
      have g1 : gf M' 1 5 3 1 = some n := by rw [← hM'.2.1]; simp [gf, hB'.s_]
      rw [ws, L_Census_write_15]
      dsimp only
      rw [g0, obs, g1, obs]
      by_cases qn : n ≤ s + 1
      · cases q with
        | zero => unfold pk at e; cases e
        | succ q => unfold pk at e; rw [if_pos qn] at e; cases e
      · rw [if_neg qn, ck0, obs, leastFirst_ok hM' z1 z2, obs]
        have b := lst_b (hr (s + 1)) z1 z2
        exact ih (s + 1) (lst rk (s + 1) z) l FU n2 M' e hc (by omega) (Int.le_refl _) lr (by have := FU_eq; omega) (by omega)
    · rw [if_neg qf] at e
      rw [if_neg qf, ck0, obs]
      have mz := mst_lt (hr s) z1
      have lb := (lst_b (hr s) z1 z2).2
      obtain ⟨r, M2, d2, a1, a2, a3⟩ := shareQ_ok (s := s) (f := f) hM' hw (hl.c hc N6.2 (Int.le_refl _)) l0 l1 s0 (by omega) z1 z2 (by omega) (by omega)
      have hc2 : CWR (lv * 6 + 6) [] M M2 := hc.tr a2 (Int.le_refl _)
      have nn := shP_nn (z := z) (f := f) hW hr hw s0 (show s < n by omega)
      rw [← a1] at nn
      rw [d2, obs]
      dsimp only
      by_cases ql : l < shP rk m (kC n rk m) W s z f
      · rw [if_pos ql] at e
        rw [if_neg (fun u => by have := lc_ge.mp u; omega)]
        simp only [Option.some.injEq, Prod.mk.injEq] at e
        obtain ⟨x1, x2, x3⟩ := e
        subst x1 x2 x3
        exact hp M2 hc2 a3
      · rw [if_neg ql] at e
        rw [if_pos (lc_ge.mpr (by omega))]
        have wl1 : wl (l - r) = l - r := wl_eq (by rw [FAR_e] at *; omega) (by rw [FAR_e] at *; omega)
        have wf : wr (f + 1) = f + 1 := wr_eq (by omega) (by omega)
        rw [wl1, wf]
        unfold lt
        dsimp only
        rw [a1]
        rw [a1] at nn
        exact ih s (f + 1) _ n1 n2 M2 e hc2 s0 (by omega) (by omega) (by omega) hn2
/-- the class writes the tree -/
theorem write_ok {n : Int} {rk : Int → Int} {m : Mch} {p : Int} : ∀ (j : Nat) {M : Mem} {W : Int → Int} {z k c r lv : Int} {l : List Int} {N : Nat}, CSt n rk m p M → WOK (mN m) W → AtL lv (mN m) W M → 0 ≤ lv → lv + z ≤ 40 → (0 ≤ k ∧ k < FAR) → WT n rk m j W z k c r l → j ≤ N → 0 ≤ M.1 3 4 → M.1 3 4 + ln' l ≤ 120 → OkV (D_Census_write N 60 p z lv k M) (fun c' M' => c' = c ∧ CWR (lv * 6 + 6) l M M' ∧ M'.1 60 3 = r) := by
  intro j
  induction j with
  | zero => intro M W z k c r lv l N _ _ _ _ _ _ hT; exact hT.elim
  | succ j ih =>
    intro M W z k c r lv l N h hw hl l0 lz kr hT jN rl0 rl1
    obtain ⟨hW, hr, n6⟩ := h.mw
    have N6 := hW.1
    have hW2 := hW.2
    obtain ⟨⟨z1, cr, rr, ll⟩, s, f, k', ep, ⟨sr, fr, k0', k1'⟩, hcases⟩ := hT
    have rs := hr s
    cases N with
    | zero => omega
    | succ N =>
    have hB := h.1.1
    have sh := shP_nn (z := z) (f := f) hW hr hw sr.1 sr.2
    have hlen : ln' l = z := ll
    have wl5 : wr (lv + 1) = lv + 1 := wr_eq (by omega) (by omega)
    show OkV (B_Census_write (D_Census_write N) 60 p z lv k M) _
    unfold B_Census_write
    rw [if_pos (by omega)]
    have g0 : gf M 60 0 4 0 = some 1 := by simp [gf, hB.c_]
    have g1 : gf M 1 5 3 1 = some n := by rw [← h.2.1]; simp [gf, hB.s_]
    have ck0 : ck M 60 0 4 = some () := by simp [ck, hB.c_]
    have eF : FU = (FU - 1) + 1 := by have := FU_eq; omega
    rw [eF, L_Census_write_15]
    dsimp only
    rw [g0, obs, g1, obs, if_neg (by omega), ck0, obs, leastFirst_ok h z1 (by omega), obs]
    have b := lst_b (hr 0) z1 (show z ≤ 40 by omega)
    refine w36_lp h hw hl l0 (by omega) z1 (by omega) (D_Census_write N) _ (fun o => OkV o (fun c' M' => c' = c ∧ CWR (lv * 6 + 6) l M M' ∧ M'.1 60 3 = r)) (fun M1 hc1 hA1 => ?_) 400 0 (lst rk 0 z) k FU (FU - 1) M ep (CWR.rf _ hB) (Int.le_refl 0) (Int.le_refl _) kr (by have := FU_eq; omega) (by have := FU_eq; omega)
    -- the sign is found
    have h1 := h.c hc1
    have hB1 := h1.1.1
    have e34 : M1.1 3 4 = M.1 3 4 := by rw [hc1.2.2.2.2.1, ln'_0]; omega
    obtain ⟨M2, d2, A2⟩ := radd_ok (x := s) hB1 (by omega) (by omega)
    have c12 := A2.cw hB1 (lv * 6 + 6)
    have c02 : CWR (lv * 6 + 6) [s] M M2 := hc1.tr c12 (Int.le_refl _)
    have h2 := h.c c02
    have hB2 := h2.1.1
    have e2 : M2.1 3 4 = M.1 3 4 + 1 := by rw [c02.2.2.2.2.1, ln'_s, ln'_0]; omega
    have gr : gf M1 60 0 4 1 = some 3 := by simp [gf, hB1.c_]
    have ckr : ck M1 3 4 5 = some () := by simp [ck, hB1.r_]
    have ck2 : ck M2 60 0 4 = some () := by simp [ck, hB2.c_]
    unfold HIT
    rw [gr, obs, ckr, obs, d2, obs, ck2, obs]
    -- the parts
    have g02 : gf M2 60 0 4 0 = some 1 := by simp [gf, hB2.c_]
    have ck12 : ck M2 1 5 3 = some () := by simp [ck, hB2.s_]
    have rko := rankOf_ok hB2.s_ h2.1.2.1.2.1 s
    rw [h2.2.2.1] at rko
    have ep3 : pf M2 60 0 4 3 k' = some (up M2 60 3 k') := by simp [pf, hB2.c_]
    have c23 := up_cw hB2 k' (lv * 6 + 12)
    have e603 : (up M2 60 3 k').1 60 3 = k' := by rw [up_1, if_pos ⟨rfl, rfl⟩]
    unfold D_Census_writeParts
    rw [g02, obs, ck12, obs, rko, obs, ep3, obs]
    dsimp only
    generalize up M2 60 3 k' = M3 at *
    have c03 : CWR (lv * 6 + 6) [s] M M3 := by have := c02.tr c23 (by omega); exact this
    have c13 : CWR (lv * 6 + 12) [s] M1 M3 := by have := (A2.cw hB1 (lv * 6 + 12)).tr c23 (Int.le_refl _); exact this
    have h3 := h.c c03
    have hB3 := h3.1.1
    have ck3 : ck M3 60 0 4 = some () := by simp [ck, hB3.c_]
    have e3 : M3.1 3 4 = M.1 3 4 + 1 := by rw [c03.2.2.2.2.1, ln'_s, ln'_0]; omega
    -- a step at the end
    have stp : ∀ {M' : Mem} {T : List Int} (x y : Int), CWR (lv * 6 + 6) T M M' → Arg rk (mN m) s x y → ck M' p 1 14 = some () ∧ D_Machine_step p s x y M' = some (mT m s x y, M') := by
      intro M' T x y hc hA
      have h' := h.c hc
      have ms := h'.1.2.2.1.1
      have st := step_ok (M := M') (p := p) (s := s) (x := x) (y := y) (c := mN m) h'.1.1 h'.1.2.1 ms N6.2 ⟨sr.1, by omega⟩ (by rw [h'.2.2.1]; exact hA)
      rw [h'.2.2.2.1] at st
      exact ⟨by simp [ck, ms], st⟩
    rcases hcases with ⟨q, ec, er, el⟩ | ⟨q, c1, l1, t1, ec, el⟩ | ⟨q, c1, r1, l1, c2, l2, t1, t2, ec, el⟩
    · rw [if_pos (by omega), obs, if_pos (by omega), obs]
      dsimp only
      obtain ⟨ckp, st⟩ := stp 0 0 c03 (argx (fun w => by omega) (fun w => by omega) (fun _ => rfl) (fun _ => rfl))
      rw [ckp, obs, st, obs, obs]
      exact OkV.i ⟨ec.symm, by rw [el]; exact c03, by rw [e603, er]⟩
    · have a1 := t1.ar
      have w1 : WOK (mN m) (w1P rk m (kC n rk m) W s z f) := fun x x0 x1 => w1P_r hW kC_r hw sr.1 sr.2 (by omega) rs.2 x0 x1
      have ll1 : ln' l = 1 + ln' l1 := by rw [el, ln'_s]
      have mz := mst_lt (hr s) z1
      obtain ⟨cc, M4, d4, x1, x2, x3⟩ := ih (lv := lv + 1) (N := N) h3 w1 ((hA1 (by omega)).c c13 N6.2 (by omega)) (by omega) (by omega) ⟨k0', by omega⟩ t1 (by omega) (by omega) (by omega)
      subst x1
      have c34 : CWR (lv * 6 + 6) l1 M3 M4 := ⟨x2.1, x2.2.1, x2.2.2.1, x2.2.2.2.1, x2.2.2.2.2.1, x2.2.2.2.2.2.1, fun i w => x2.2.2.2.2.2.2.1 i (by omega), x2.2.2.2.2.2.2.2⟩
      have c04 := c03.tr c34 (Int.le_refl _)
      rw [if_neg (by omega), ck3, obs, wl5, d4, obs, obs, if_pos (by omega), obs]
      dsimp only
      obtain ⟨ckp, st⟩ := stp cc 0 c04 (argx (fun w => a1.2.1) (fun w => by omega) (fun w => by omega) (fun _ => rfl))
      rw [ckp, obs, st, obs, obs]
      exact OkV.i ⟨ec.symm, by rw [el]; exact c04, x3⟩
    · have a1 := t1.ar
      have a2 := t2.ar
      have w1 : WOK (mN m) (w1P rk m (kC n rk m) W s z f) := fun x x0 x1 => w1P_r hW kC_r hw sr.1 sr.2 (by omega) rs.2 x0 x1
      have ll1 : ln' l = 1 + (ln' l1 + ln' l2) := by rw [el, ln'_s, ln'_a]
      have nn2 := ln'_nn l2
      have mz := mst_lt (hr s) z1
      obtain ⟨cc, M4, d4, x1, x2, x3⟩ := ih (lv := lv + 1) (N := N) h3 w1 ((hA1 (by omega)).c c13 N6.2 (by omega)) (by omega) (by omega) ⟨k0', by omega⟩ t1 (by omega) (by omega) (by omega)
      subst x1
      have c34 : CWR (lv * 6 + 6) l1 M3 M4 := ⟨x2.1, x2.2.1, x2.2.2.1, x2.2.2.2.1, x2.2.2.2.2.1, x2.2.2.2.2.2.1, fun i w => x2.2.2.2.2.2.2.1 i (by omega), x2.2.2.2.2.2.2.2⟩
      have c04 := c03.tr c34 (Int.le_refl _)
      have h4 := h.c c04
      have hB4 := h4.1.1
      have ck4 : ck M4 60 0 4 = some () := by simp [ck, hB4.c_]
      obtain ⟨M5, d5, y1, y2, y3⟩ := weighSeconds_ok (lv := lv) (s := s) (x := cc) h4 (hl.c c04 N6.2 (Int.le_refl _)) l0 (by omega) sr.1 sr.2 q a1.2.1.1 a1.2.1.2
      have c05 := c04.tr y1 (Int.le_refl _)
      rw [List.append_nil] at c05
      have h5 := h.c c05
      have hB5 := h5.1.1
      have ck5 : ck M5 60 0 4 = some () := by simp [ck, hB5.c_]
      have g53 : gf M5 60 0 4 3 = some r1 := by
        rw [← x3, ← y3]
        simp [gf, hB5.c_]
      have w2 : WOK (mN m) (fun y => W (mT m s cc y)) := by
        intro y y0 y1
        have t := hW2 s cc y sr.1 sr.2 (argx (fun _ => a1.2.1) (fun _ => ⟨y0, y1⟩) (fun w => by omega) (fun w => by omega))
        exact hw _ t.1 t.2
      have w1c := w1 cc a1.2.1.1 a1.2.1.2
      have wz : wr (z - 1) = z - 1 := wr_eq (by omega) (by omega)
      have wzf : wr (z - 1 - f) = z - 1 - f := wr_eq (by omega) (by omega)
      have e5 : M5.1 3 4 = M.1 3 4 + (1 + ln' l1) := by rw [c05.2.2.2.2.1, ln'_a, ln'_s, ln'_0]; omega
      have nn1 := ln'_nn l1
      have f1 : 1 ≤ f := a1.1
      obtain ⟨cd, M6, d6, u1, u2, u3⟩ := ih (lv := lv + 1) (N := N) h5 w2 y2 (by omega) (by omega) ⟨a1.2.2.1.1, by have := a1.2.2.1.2; omega⟩ t2 (by omega) (by omega) (by omega)
      subst u1
      have c56 : CWR (lv * 6 + 6) l2 M5 M6 := ⟨u2.1, u2.2.1, u2.2.2.1, u2.2.2.2.1, u2.2.2.2.2.1, u2.2.2.2.2.2.1, fun i w => u2.2.2.2.2.2.2.1 i (by omega), u2.2.2.2.2.2.2.2⟩
      have c06 := c05.tr c56 (Int.le_refl _)
      rw [if_neg (by omega), ck3, obs, wl5, d4, obs, obs, if_neg (by omega)]
      dsimp only
      rw [ck4, obs, d5, obs, g53, obs, ck5, obs, wz, wzf, d6, obs, obs]
      dsimp only
      obtain ⟨ckp, st⟩ := stp cc cd c06 (argx (fun w => a1.2.1) (fun w => a2.2.1) (fun w => by omega) (fun w => by omega))
      rw [ckp, obs, st, obs, obs]
      exact OkV.i ⟨ec.symm, by rw [el]; exact c06, u3⟩
