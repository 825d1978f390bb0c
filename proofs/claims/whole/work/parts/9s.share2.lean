/-! shares: the class -/
/-- weights of one level have changed -/
def W61 (v k : Int) (M M' : Mem) : Prop := M'.2 = M.2 ∧ (∀ a, a ≠ 61 → M'.1 a = M.1 a) ∧ ∀ i, ¬ (v ≤ i ∧ i < v + k) → M'.1 61 i = M.1 61 i
theorem W61.sb {v k : Int} {M M' : Mem} (h : W61 v k M M') (hB : SB M) : SB M' := SB_c hB h.1 (fun a k s => by rw [h.2.1 a (by unfold stp at s; omega)])
theorem w1P_r {rk : Int → Int} {n : Int} {m : Mch} {kk : Int → Int → Int} {w : Int → Int} (hW : MW n rk m) (hr : ∀ z c, 0 ≤ kk z c ∧ kk z c ≤ FAR) (hw : WOK (mN m) w) {s z f x : Int} (s0 : 0 ≤ s) (s1 : s < n) (r1 : 1 ≤ rk s) (r2 : rk s ≤ 2) (x0 : 0 ≤ x) (x1 : x < mN m) : 0 ≤ w1P rk m kk w s z f x ∧ w1P rk m kk w s z f x ≤ FAR := by
  unfold w1P
  by_cases q : rk s = 1
  · rw [if_pos q]
    have t := hW.2 s x 0 s0 s1 (argx (fun _ => ⟨x0, x1⟩) (fun w => by omega) (fun w => by omega) (fun _ => rfl))
    exact hw _ t.1 t.2
  · rw [if_neg q]
    unfold secP
    refine ssum_r (fun y y0 y1 => ?_)
    have t := hW.2 s x y s0 s1 (argx (fun _ => ⟨x0, x1⟩) (fun _ => ⟨y0, by omega⟩) (fun w => by omega) (fun w => by omega))
    exact (sat_r (Int.mul_nonneg (hr _ _).1 (hw _ t.1 t.2).1)).1
def SHP (M : Mem) (p s z f v : Int) (kk : Int → Int → Int) (r : Int) (M' : Mem) : Prop := r = shP (rkC M) (mch M p) kk (fun c => M.1 61 (v + c)) s z f ∧ (0 ≤ r ∧ r ≤ FAR) ∧ W61 (v + 6) 6 M M' ∧ SB M' ∧ (1 ≤ rkC M s → ∀ x, 0 ≤ x → x < M.1 p 10 → M'.1 61 (v + 6 + x) = w1P (rkC M) (mch M p) kk (fun c => M.1 61 (v + c)) s z f x)
theorem share_ok {M : Mem} {p s z f lv : Int} {kk : Int → Int → Int} (h : CEN M p kk) (s0 : 0 ≤ s) (s1 : s < M.1 1 1) (l0 : 0 ≤ lv) (l1 : lv ≤ 39) (z0 : 1 ≤ z) (z1 : z ≤ 40) (f0 : 0 ≤ f) (f1 : f < z) (hw : WOK (M.1 p 10) (fun c => M.1 61 (lv * 6 + c))) : OkV (D_Census_share 60 p s z f lv M) (fun r M' => SHP M p s z f (lv * 6) kk r M') := by
  have h' := h
  obtain ⟨hB, hg, hM, hk, hr⟩ := h
  have k6 : 0 ≤ M.1 p 10 ∧ M.1 p 10 ≤ 6 := hM.2.2.1.1
  have n6 := hg.2.1
  have rg := hg.rk s
  have w6 : wr (lv * 6) = lv * 6 := wr_eq (by omega) (by omega)
  have w7 : wr (lv * 6 + 6) = lv * 6 + 6 := wr_eq (by omega) (by omega)
  have g0 : gf M 60 0 4 0 = some 1 := by simp [gf, hB.c_]
  have ck1 : ck M 1 5 3 = some () := by simp [ck, hB.s_]
  have rko := rankOf_ok hB.s_ n6 s
  have ms := hM.1
  have ckp : ck M p 1 14 = some () := by simp [ck, ms]
  have g2 : gf M 60 0 4 2 = some 61 := by simp [gf, hB.c_]
  have l61 : M.2.1 61 = (11, 246) := by simp [hB.c_]
  clear ms
  unfold D_Census_share lt
  rw [w6]
  dsimp only
  rw [g0, obs, ck1, obs, rko, obs]
  dsimp only
  have wid : W61 (lv * 6 + 6) 6 M M := ⟨rfl, fun _ _ => rfl, fun _ _ => rfl⟩
  by_cases r0 : rkC M s = 0
  · rw [if_pos r0]
    by_cases zz : z = 1
    · rw [if_pos zz]
      have hA : Arg (rkC M) (M.1 p 10) s 0 0 := argx (fun w => by omega) (fun w => by omega) (fun _ => rfl) (fun _ => rfl)
      have st := step_ok (M := M) (p := p) (s := s) (x := 0) (y := 0) (c := M.1 p 10) hB hg hM.1 k6.2 ⟨s0, by omega⟩ hA
      have t : 0 ≤ mT (mch M p) s 0 0 ∧ mT (mch M p) s 0 0 < M.1 p 10 := hM.2.2.1.2 s 0 0 s0 s1 hA
      have w3 : wr (lv * 6 + mT (mch M p) s 0 0) = lv * 6 + mT (mch M p) s 0 0 := wr_eq (by omega) (by omega)
      have eV : rd M 11 61 (lv * 6 + mT (mch M p) s 0 0) = some (M.1 61 (lv * 6 + mT (mch M p) s 0 0)) := rd_v l61 (by omega) (by omega)
      simp only [g2, obs, ckp, st, w3, eV]
      refine OkV.i ⟨?_, hw _ t.1 t.2, wid, hB, fun q => by omega⟩
      unfold shP
      rw [if_pos r0, if_pos zz]
    · rw [if_neg zz]
      refine OkV.i ⟨?_, by rw [FAR_e]; decide, wid, hB, fun q => by omega⟩
      unfold shP
      rw [if_pos r0, if_neg zz]
  · rw [if_neg r0, w7]
    have r1 : 1 ≤ rkC M s := by omega
    refine lq2 (n := FU) (a := 0) (b := 0) (M := M) (fun n u x N => L_Census_share_56 (fun w8_56 m56 => some (w8_56, m56)) 60 p s z f (lv * 6) (lv * 6 + 6) n u x N) (fun u x N => (0 ≤ x ∧ x ≤ M.1 p 10) ∧ W61 (lv * 6 + 6) 6 M N ∧ (∀ y, 0 ≤ y → y < x → N.1 61 (lv * 6 + 6 + y) = w1P (rkC M) (mch M p) kk (fun c => M.1 61 (lv * 6 + c)) s z f y) ∧ u = ssum x.toNat (fun x => sat (kk f x * w1P (rkC M) (mch M p) kk (fun c => M.1 61 (lv * 6 + c)) s z f x))) (fun u x => (M.1 p 10 - x).toNat) (fun o => OkV o (fun r M' => SHP M p s z f (lv * 6) kk r M')) ?_ ⟨⟨Int.le_refl 0, k6.1⟩, wid, fun y a b => by omega, rfl⟩ (by have := FU_eq; omega)
    intro n u x N ⟨xr, hWN, hy, eu⟩ ih
    show OkV (L_Census_share_56 (fun w8_56 m56 => some (w8_56, m56)) 60 p s z f (lv * 6) (lv * 6 + 6) (n + 1) u x N) _
    have hBN := hWN.sb hB
    obtain ⟨hCN, ekN, emN, epN, c1N⟩ := h'.c hWN.1 (fun a _ _ _ q => hWN.2.1 a q) hBN
    have msN := hCN.2.2.1.1
    have g10 : gf N p 1 14 10 = some (M.1 p 10) := by rw [← epN]; simp [gf, msN]
    have g6 : gf N p 1 14 6 = some (p + 6) := by simp [gf, msN]
    have l6 : N.2.1 (p + 6) = (11, 246) := by simp [msN]
    have ckpN : ck N p 1 14 = some () := by simp [ck, msN]
    clear msN
    have g2N : gf N 60 0 4 2 = some 61 := by simp [gf, hBN.c_]
    have g0N : gf N 60 0 4 0 = some 1 := by simp [gf, hBN.c_]
    have ck60 : ck N 60 0 4 = some () := by simp [ck, hBN.c_]
    have ck1N : ck N 1 5 3 = some () := by simp [ck, hBN.s_]
    have l61N : N.2.1 61 = (11, 246) := by rw [hWN.1]; exact l61
    have rkoN := rankOf_ok hBN.s_ (by rw [c1N]; exact n6) s
    rw [ekN] at rkoN
    have ew : wr (x + 1) = x + 1 := wr_eq (by omega) (by omega)
    have wx : wr (lv * 6 + 6 + x) = lv * 6 + 6 + x := wr_eq (by omega) (by omega)
    have wf : wr (f * 6) = f * 6 := wr_eq (by omega) (by omega)
    have wfx : wr (f * 6 + x) = f * 6 + x := wr_eq (by omega) (by omega)
    have sr : ∀ j : Int, 0 ≤ j → j ≤ M.1 p 10 → 0 ≤ ssum j.toNat (fun x => sat (kk f x * w1P (rkC M) (mch M p) kk (fun c => M.1 61 (lv * 6 + c)) s z f x)) ∧ ssum j.toNat (fun x => sat (kk f x * w1P (rkC M) (mch M p) kk (fun c => M.1 61 (lv * 6 + c)) s z f x)) ≤ FAR := fun j j0 j1 => ssum_r (fun i i0 i1 => (sat_r (Int.mul_nonneg (hr f i).1 (w1P_r hM.2.2.1 hr hw s0 s1 r1 rg.2 i0 (by show i < M.1 p 10; omega)).1)).1)
    rw [L_Census_share_56]
    simp only [g10, obs]
    by_cases q : M.1 p 10 ≤ x
    · rw [if_pos q]
      have ex : x = M.1 p 10 := by omega
      refine OkV.i ⟨?_, ?_, hWN, hBN, fun _ y y0 y1 => hy y y0 (by omega)⟩
      · rw [eu, ex]
        unfold shP
        rw [if_neg r0]
        rfl
      · rw [eu]; exact sr x xr.1 xr.2
    · rw [if_neg q]
      have x1 : x < M.1 p 10 := by omega
      have ww : ∀ c, 0 ≤ c → c < M.1 p 10 → N.1 61 (lv * 6 + c) = M.1 61 (lv * 6 + c) := fun c _ _ => hWN.2.2 _ (by omega)
      have val : ∃ t, (if rkC M s = 1 then ((gf N 60 0 4 2).bind fun g87 => (ck N p 1 14).bind fun _ => (D_Machine_step p s x 0 N).bind fun x97 => (rd x97.2 11 g87 (wr (lv * 6 + x97.1))).bind fun e101 => some (e101, x97.2)) else ((ck N 60 0 4).bind fun _ => (D_Census_seconds 60 p s x (wr ((wr (z - 1)) - f)) (lv * 6) N).bind fun x118 => some (x118.1, x118.2))) = some (t, N) ∧ t = w1P (rkC M) (mch M p) kk (fun c => M.1 61 (lv * 6 + c)) s z f x := by
        by_cases q1 : rkC M s = 1
        · rw [if_pos q1]
          have hA : Arg (rkC M) (M.1 p 10) s x 0 := argx (fun _ => ⟨xr.1, x1⟩) (fun w => by omega) (fun w => by omega) (fun _ => rfl)
          have st := step_ok (M := N) (p := p) (s := s) (x := x) (y := 0) (c := M.1 p 10) hBN hCN.2.1 hCN.2.2.1.1 k6.2 ⟨s0, by omega⟩ (by rw [ekN]; exact hA)
          rw [emN] at st
          have t : 0 ≤ mT (mch M p) s x 0 ∧ mT (mch M p) s x 0 < M.1 p 10 := hM.2.2.1.2 s x 0 s0 s1 hA
          have w3 : wr (lv * 6 + mT (mch M p) s x 0) = lv * 6 + mT (mch M p) s x 0 := wr_eq (by omega) (by omega)
          have eV : rd N 11 61 (lv * 6 + mT (mch M p) s x 0) = some (M.1 61 (lv * 6 + mT (mch M p) s x 0)) := by rw [rd_v l61N (by omega) (by omega), ww _ t.1 t.2]
          refine ⟨M.1 61 (lv * 6 + mT (mch M p) s x 0), ?_, ?_⟩
          · simp only [g2N, obs, ckpN, st, w3, eV]
          · unfold w1P
            rw [if_pos q1]
        · rw [if_neg q1]
          have wz : wr (z - 1) = z - 1 := wr_eq (by omega) (by omega)
          have wzf : wr (z - 1 - f) = z - 1 - f := wr_eq (by omega) (by omega)
          have sc := seconds_ok (M := N) (p := p) (s := s) (x := x) (z := z - 1 - f) (v := lv * 6) hCN s0 (by rw [c1N]; exact s1) (by rw [ekN]; omega) xr.1 (by rw [epN]; exact x1) (by omega) (by omega) (by omega) (by omega) (fun c c0 c1 => by rw [epN] at c1; show 0 ≤ N.1 61 (lv * 6 + c) ∧ N.1 61 (lv * 6 + c) ≤ FAR; rw [ww c c0 c1]; exact hw c c0 c1)
          refine ⟨secP (mch N p) kk (fun c => N.1 61 (lv * 6 + c)) s x (z - 1 - f), ?_, ?_⟩
          · simp only [ck60, obs, wz, wzf, sc]
          · unfold w1P
            rw [if_neg q1, emN]
            unfold secP
            refine ssum_c (fun y y0 y1 => ?_)
            have t : 0 ≤ mT (mch M p) s x y ∧ mT (mch M p) s x y < M.1 p 10 := hM.2.2.1.2 s x y s0 s1 (argx (fun _ => ⟨xr.1, x1⟩) (fun _ => ⟨y0, by have : (y : Int) < ((mN (mch M p)).toNat : Int) := y1; have e : mN (mch M p) = M.1 p 10 := rfl; omega⟩) (fun w => by omega) (fun w => by omega))
            show sat (kk (z - 1 - f) y * N.1 61 (lv * 6 + mT (mch M p) s x y)) = sat (kk (z - 1 - f) y * M.1 61 (lv * 6 + mT (mch M p) s x y))
            rw [ww _ t.1 t.2]
      obtain ⟨t, et, ett⟩ := val
      have tr := w1P_r (z := z) (f := f) hM.2.2.1 hr hw s0 s1 r1 rg.2 xr.1 (show x < mN (mch M p) from x1)
      rw [← ett] at tr
      simp only [g2N, g0N, obs, ck1N, rkoN]
      simp only [g2N, obs] at et
      rw [et, obs]
      dsimp only
      have eW : wt N 11 61 (lv * 6 + 6 + x) t = some (up N 61 (lv * 6 + 6 + x) t) := wt_v l61N (by omega) (by omega)
      rw [wx, eW, obs]
      have hB2 : SB (up N 61 (lv * 6 + 6 + x) t) := SB_up hBN (by unfold stp; omega)
      have hW2 : W61 (lv * 6 + 6) 6 M (up N 61 (lv * 6 + 6 + x) t) := ⟨by rw [up_2]; exact hWN.1, fun a w => by rw [up_n w]; exact hWN.2.1 a w, fun i w => by rw [up_1, if_neg (by omega)]; exact hWN.2.2 i w⟩
      have y2 : ∀ y, 0 ≤ y → y < x + 1 → (up N 61 (lv * 6 + 6 + x) t).1 61 (lv * 6 + 6 + y) = w1P (rkC M) (mch M p) kk (fun c => M.1 61 (lv * 6 + c)) s z f y := fun y y0 y1 => by
        rw [up_1]
        by_cases w : y = x
        · rw [if_pos ⟨rfl, by omega⟩, w]; exact ett
        · rw [if_neg (by omega)]; exact hy y y0 (by omega)
      have eT := (y2 x xr.1 (by omega)).trans ett.symm
      have p6 : (up N 61 (lv * 6 + 6 + x) t).1 (p + 6) = N.1 (p + 6) := up_n (by have := hM.2.1; omega)
      have s6 : (up N 61 (lv * 6 + 6 + x) t).2 = N.2 := up_2 ..
      have gp : gf (up N 61 (lv * 6 + 6 + x) t) p 1 14 6 = some (p + 6) := by
        have ms2 := hCN.2.2.1.1
        have np : ¬ p = 61 := by have := hM.2.1; clear ms2; omega
        simp [gf, ms2, up_1, up_2, np]
      generalize up N 61 (lv * 6 + 6 + x) t = N2 at *
      have g2N2 : gf N2 60 0 4 2 = some 61 := by simp [gf, hB2.c_]
      have eR : rd N2 11 (p + 6) (f * 6 + x) = some (kk f x) := by rw [rd_v (n := 246) (by rw [s6]; exact l6) (by omega) (by omega), p6, hCN.2.2.2.1 f x f0 (by omega) xr.1 (by rw [epN]; exact x1)]
      have eV2 : rd N2 11 61 (lv * 6 + 6 + x) = some t := by rw [rd_v (n := 246) (by rw [s6]; exact l61N) (by omega) (by omega), eT]
      have kr := hr f x
      have tm := timesC_ok (M := N2) kr.1 kr.2 tr.1 tr.2
      have r3 := sat_r (Int.mul_nonneg kr.1 tr.1)
      have r4 := sr x xr.1 xr.2
      rw [← eu] at r4
      have pl := plusC_ok (M := N2) r4.1 r4.2 r3.1 r3.2
      simp only [gp, obs, wf, wfx, eR, g2N2, eV2, tm, pl, ew]
      refine ih _ (x + 1) N2 ⟨⟨by omega, by omega⟩, hW2, y2, ?_⟩ (by omega)
      rw [show (x + 1).toNat = x.toNat + 1 by omega, ssum_s, show ((x.toNat : Nat) : Int) = x by omega, eu, ett]
