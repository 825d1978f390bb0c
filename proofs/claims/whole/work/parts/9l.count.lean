/-! the counts: the class -/
theorem cf_c {n : Int} {rk : Int → Int} {m : Mch} {t t' : Int → Int → Int} {z c : Int} (z1 : 1 ≤ z) (h : ∀ z' c', 0 ≤ z' → z' < z → 0 ≤ c' → c' < mN m → t z' c' = t' z' c') : cf n rk m t z c = cf n rk m t' z c := by
  unfold cf
  refine sumN_c (fun s s0 s1 => ?_)
  by_cases r0 : rk s = 0
  · rw [if_pos r0, if_pos r0]
  · rw [if_neg r0, if_neg r0]
    by_cases r1 : rk s = 1
    · rw [if_pos r1, if_pos r1]
      refine sumN_c (fun x x0 x1 => ?_)
      rw [h (z - 1) x (by omega) (by omega) x0 (by omega)]
    · rw [if_neg r1, if_neg r1]
      refine sumN_c (fun x x0 x1 => sumN_c (fun y y0 y1 => ?_))
      have : sumN (z - 2).toNat (fun i => t (i + 1) x * t (z - 2 - i) y) = sumN (z - 2).toNat (fun i => t' (i + 1) x * t' (z - 2 - i) y) := sumN_c (fun i i0 i1 => by rw [h (i + 1) x (by omega) (by omega) x0 (by omega), h (z - 2 - i) y (by omega) (by omega) y0 (by omega)])
      rw [this]
theorem ctab_st {n : Int} {rk : Int → Int} {m : Mch} {z c : Int} {k : Nat} (hz : z ≤ k) : ∀ (j : Nat), ctab n rk m (k + j) z c = ctab n rk m k z c := by
  intro j
  induction j with
  | zero => rfl
  | succ j ih =>
    show (if z = ((k + j : Nat) : Int) + 1 then cf n rk m (ctab n rk m (k + j)) z c else ctab n rk m (k + j) z c) = _
    rw [if_neg (by omega), ih]
theorem ctab_le {n : Int} {rk : Int → Int} {m : Mch} {z c : Int} {k k' : Nat} (hz : z ≤ k) (hk : k ≤ k') : ctab n rk m k' z c = ctab n rk m k z c := by
  obtain ⟨j, rfl⟩ : ∃ j, k' = k + j := ⟨k' - k, by omega⟩
  exact ctab_st hz j
theorem tC_eq {n : Int} {rk : Int → Int} {m : Mch} {z c : Int} (z1 : 1 ≤ z) (z2 : z ≤ 40) : tC n rk m z c = cf n rk m (tC n rk m) z c := by
  unfold tC
  rw [ctab_le (k := (z - 1).toNat + 1) (k' := 40) (by omega) (by omega)]
  show (if z = (((z - 1).toNat : Nat) : Int) + 1 then cf n rk m (ctab n rk m (z - 1).toNat) z c else _) = _
  rw [if_pos (by omega)]
  refine cf_c z1 (fun z' c' z0 z1' _ _ => ?_)
  exact (ctab_le (by omega) (by omega)).symm
theorem ctab_0 {n : Int} {rk : Int → Int} {m : Mch} {z c : Int} (hz : z ≤ 0) : ∀ k : Nat, ctab n rk m k z c = 0 := by
  intro k
  rw [ctab_le (k := 0) (by omega) (by omega)]
  rfl
theorem tC_0 {n : Int} {rk : Int → Int} {m : Mch} {z c : Int} (hz : z ≤ 0) : tC n rk m z c = 0 := ctab_0 hz 40
theorem cf_nn {n : Int} {rk : Int → Int} {m : Mch} {t : Int → Int → Int} (h : ∀ z c, 0 ≤ t z c) (z c : Int) : 0 ≤ cf n rk m t z c := by
  unfold cf
  refine sumN_nn (fun s _ _ => ?_)
  by_cases r0 : rk s = 0
  · rw [if_pos r0]; split <;> decide
  · rw [if_neg r0]
    by_cases r1 : rk s = 1
    · rw [if_pos r1]
      exact sumN_nn (fun x _ _ => by split; exact h _ _; exact Int.le_refl 0)
    · rw [if_neg r1]
      exact sumN_nn (fun x _ _ => sumN_nn (fun y _ _ => by split; exact sumN_nn (fun i _ _ => Int.mul_nonneg (h _ _) (h _ _)); exact Int.le_refl 0))
theorem ctab_nn {n : Int} {rk : Int → Int} {m : Mch} : ∀ (k : Nat) (z c : Int), 0 ≤ ctab n rk m k z c := by
  intro k
  induction k with
  | zero => intro z c; exact Int.le_refl 0
  | succ k ih =>
    intro z c
    show 0 ≤ (if z = (k : Int) + 1 then cf n rk m (ctab n rk m k) z c else ctab n rk m k z c)
    split
    · exact cf_nn ih z c
    · exact ih z c
theorem tC_nn {n : Int} {rk : Int → Int} {m : Mch} (z c : Int) : 0 ≤ tC n rk m z c := ctab_nn 40 z c
/-- while the class counts size z: cell c has A c -/
def CST (M : Mem) (p z : Int) (A : Int → Int) (M' : Mem) : Prop := M'.2 = M.2 ∧ (∀ a, a ≠ p + 6 → M'.1 a = M.1 a) ∧ (∀ i, ¬ (z * 6 ≤ i ∧ i < z * 6 + 6) → M'.1 (p + 6) i = M.1 (p + 6) i) ∧ ∀ c, 0 ≤ c → c < M.1 p 10 → 0 ≤ A c ∧ M'.1 (p + 6) (z * 6 + c) = sat (A c)
theorem CST.c {M : Mem} {p z : Int} {A A' : Int → Int} {M' : Mem} (h : CST M p z A M') (e : ∀ c, 0 ≤ c → c < M.1 p 10 → A c = A' c) : CST M p z A' M' := ⟨h.1, h.2.1, h.2.2.1, fun c c0 c1 => by rw [← e c c0 c1]; exact h.2.2.2 c c0 c1⟩
theorem CST.sb {M : Mem} {p z : Int} {A : Int → Int} {M' : Mem} (h : CST M p z A M') (hB : SB M) (hp : p = 50 ∨ 100 ≤ p) : SB M' := SB_c hB h.1 (fun a k s => by rw [h.2.1 a (by unfold stp at s; omega)])
theorem CST.same {M : Mem} {p z : Int} {A : Int → Int} {M' : Mem} (h : CST M p z A M') (hM : MOK M p) : M'.1 1 = M.1 1 ∧ M'.1 2 = M.1 2 ∧ rkC M' = rkC M ∧ mch M' p = mch M p ∧ M'.1 p = M.1 p ∧ MS M' p := by
  have hp := hM.2.1
  have c1 : M'.1 1 = M.1 1 := h.2.1 1 (by omega)
  have c2 : M'.1 2 = M.1 2 := h.2.1 2 (by omega)
  have ek : rkC M' = rkC M := rk_c c1 c2
  have e : M'.1 p = M.1 p := h.2.1 p (by omega)
  exact ⟨c1, c2, ek, mch_c ek (fun a a0 a1 => h.2.1 a (by omega)), e, MS.c hM.1 (fun k _ => by rw [e]) (fun a _ _ => by rw [h.1])⟩
theorem add_ok' {M : Mem} {p z d e : Int} {A : Int → Int} {M' : Mem} (h : CST M p z A M') (hM : MOK M p) (z0 : 1 ≤ z) (z1 : z ≤ 40) (d0 : 0 ≤ d) (d1 : d < M.1 p 10) (e0 : 0 ≤ e) : OkM (D_Census_add 60 p z d (sat e) M') (fun N => CST M p z (fun c => A c + (if d = c then e else 0)) N) := by
  obtain ⟨-, -, -, -, -, ms⟩ := h.same hM
  have k6 : 0 ≤ M.1 p 10 ∧ M.1 p 10 ≤ 6 := hM.2.2.1.1
  have g6 : gf M' p 1 14 6 = some (p + 6) := by simp [gf, ms]
  have l6 : M'.2.1 (p + 6) = (11, 246) := by simp [ms]
  clear ms
  have w1 : wr (z * 6) = z * 6 := wr_eq (by omega) (by omega)
  have w2 : wr (z * 6 + d) = z * 6 + d := wr_eq (by omega) (by omega)
  have cd := h.2.2.2 d d0 d1
  have eR : rd M' 11 (p + 6) (z * 6 + d) = some (sat (A d)) := by rw [rd_v l6 (by omega) (by omega), cd.2]
  have r1 := sat_r cd.1
  have r2 := sat_r e0
  have pl := plusC_ok (M := M') r1.1 r1.2 r2.1 r2.2
  rw [sat_add cd.1 e0] at pl
  have eW : wt M' 11 (p + 6) (z * 6 + d) (sat (A d + e)) = some (up M' (p + 6) (z * 6 + d) (sat (A d + e))) := wt_v l6 (by omega) (by omega)
  unfold D_Census_add lt
  rw [w1, w2]
  dsimp only
  rw [g6, obs, obs, eR, obs, pl, obs]
  dsimp only
  rw [eW, obs]
  refine OkM.i ⟨by rw [up_2]; exact h.1, fun a w => by rw [up_n w]; exact h.2.1 a w, fun i w => ?_, fun c c0 c1 => ?_⟩
  · rw [up_1, if_neg (by omega)]; exact h.2.2.1 i w
  · have := h.2.2.2 c c0 c1
    show 0 ≤ A c + (if d = c then e else 0) ∧ (up M' (p + 6) (z * 6 + d) (sat (A d + e))).1 (p + 6) (z * 6 + c) = sat (A c + (if d = c then e else 0))
    by_cases q : d = c
    · subst q
      rw [if_pos rfl, up_1, if_pos ⟨rfl, rfl⟩]
      exact ⟨by omega, rfl⟩
    · rw [if_neg q, up_1, if_neg (by omega)]
      exact ⟨by omega, by rw [show A c + 0 = A c by omega]; exact this.2⟩
/-- the sizes below z are counted -/
def BEL (M : Mem) (p z : Int) (t : Int → Int → Int) : Prop := ∀ z' c, 0 ≤ z' → z' < z → 0 ≤ c → c < M.1 p 10 → M.1 (p + 6) (z' * 6 + c) = sat (t z' c)
/-- what sign s brings without pairs -/
def smp (n : Int) (rk : Int → Int) (m : Mch) (t : Int → Int → Int) (z s c : Int) : Int := if rk s = 0 then (if z = 1 ∧ mT m s 0 0 = c then 1 else 0) else if rk s = 1 then sumN (mN m).toNat (fun x => if mT m s x 0 = c then t (z - 1) x else 0) else 0
theorem cs50_lp {M : Mem} {p z s : Int} {t : Int → Int → Int} {A : Int → Int} (hB : SB M) (hg : SgOk M) (hM : MOK M p) (hbl : BEL M p z t) (tn : ∀ z c, 0 ≤ t z c) (z0 : 1 ≤ z) (z1 : z ≤ 40) (s0 : 0 ≤ s) (s1 : s < M.1 1 1) (k : Mem → Option Mem) (P : Option Mem → Prop) (h2 : ∀ N, CST M p z (fun c => A c + (if rkC M s = 1 then sumN (M.1 p 10).toNat (fun x => if mT (mch M p) s x 0 = c then t (z - 1) x else 0) else 0)) N → P (k N)) {M0 : Mem} (h0 : CST M p z A M0) : P (L_Census_countSimple_50 k 60 p z s (rkC M s) FU 0 M0) := by
  have hp := hM.2.1
  have k6 : 0 ≤ M.1 p 10 ∧ M.1 p 10 ≤ 6 := hM.2.2.1.1
  by_cases r1 : rkC M s = 1
  · rw [r1]
    refine lq1 (n := FU) (a := 0) (M := M0) (fun n v M' => L_Census_countSimple_50 k 60 p z s 1 n v M') (fun v M' => (0 ≤ v ∧ v ≤ M.1 p 10) ∧ CST M p z (fun c => A c + sumN v.toNat (fun x => if mT (mch M p) s x 0 = c then t (z - 1) x else 0)) M') (fun v => (M.1 p 10 - v).toNat) P ?_ ⟨⟨Int.le_refl 0, k6.1⟩, h0.c (fun c _ _ => by show A c = A c + sumN 0 _; show A c = A c + 0; omega)⟩ (by have := FU_eq; omega)
    intro n v M' ⟨vr, hI⟩ ih
    show P (L_Census_countSimple_50 k 60 p z s 1 (n + 1) v M')
    obtain ⟨c1, c2, ek, em, ep, ms⟩ := hI.same hM
    have hB' := hI.sb hB hp
    have g10 : gf M' p 1 14 10 = some (M.1 p 10) := by rw [← ep]; simp [gf, ms]
    have g6 : gf M' p 1 14 6 = some (p + 6) := by simp [gf, ms]
    have l6 : M'.2.1 (p + 6) = (11, 246) := by simp [ms]
    have ckp : ck M' p 1 14 = some () := by simp [ck, ms]
    have ck60 : ck M' 60 0 4 = some () := by simp [ck, hB'.c_]
    have ew : wr (v + 1) = v + 1 := wr_eq (by omega) (by omega)
    rw [L_Census_countSimple_50]
    simp only [if_true, g10, obs]
    by_cases q : M.1 p 10 ≤ v
    · simp only [q, if_true, obs]
      refine h2 M' (hI.c (fun c _ _ => ?_))
      rw [if_pos r1, show v = M.1 p 10 by omega]
    · simp only [q, if_false, obs]
      rw [if_neg (by decide)]
      have n6 := hg.2.1
      have hA : Arg (rkC M) (M.1 p 10) s v 0 := argx (fun _ => ⟨vr.1, by omega⟩) (fun w => by omega) (fun w => by omega) (fun _ => rfl)
      have st := step_ok (M := M') (p := p) (s := s) (x := v) (y := 0) (c := M.1 p 10) hB' (by unfold SgOk; rw [c1, c2]; exact hg) ms k6.2 ⟨s0, by omega⟩ (by rw [ek]; exact hA)
      clear ms
      rw [em] at st
      have rg := hM.2.2.1.2 s v 0 s0 s1 hA
      have w0 : wr (z - 1) = z - 1 := wr_eq (by omega) (by omega)
      have w1 : wr ((z - 1) * 6) = (z - 1) * 6 := wr_eq (by omega) (by omega)
      have w2 : wr ((z - 1) * 6 + v) = (z - 1) * 6 + v := wr_eq (by omega) (by omega)
      have eR : rd M' 11 (p + 6) ((z - 1) * 6 + v) = some (sat (t (z - 1) v)) := by rw [rd_v l6 (by omega) (by omega), hI.2.2.1 _ (by omega), hbl (z - 1) v (by omega) (by omega) vr.1 (by omega)]
      simp only [ckp, obs, st, g6, w0, w1, w2, eR, ck60]
      obtain ⟨N, eN, hN⟩ := add_ok' (d := mT (mch M p) s v 0) hI hM z0 z1 rg.1 rg.2 (tn (z - 1) v)
      rw [eN, obs, ew]
      refine ih (v + 1) N ⟨⟨by omega, by omega⟩, hN.c (fun c _ _ => ?_)⟩ (by omega)
      rw [show (v + 1).toNat = v.toNat + 1 by omega, sumN_s, show ((v.toNat : Nat) : Int) = v by omega]
      omega
  · obtain ⟨fu, efu⟩ : ∃ fu, FU = fu + 1 := ⟨99999, FU_eq⟩
    rw [efu, L_Census_countSimple_50]
    simp only [r1, if_false, obs, if_true]
    refine h2 M0 (h0.c (fun c _ _ => ?_))
    rw [if_neg r1]; omega
theorem countSimple_ok {M : Mem} {p z : Int} {t : Int → Int → Int} (hB : SB M) (hg : SgOk M) (hM : MOK M p) (hbl : BEL M p z t) (tn : ∀ z c, 0 ≤ t z c) (z0 : 1 ≤ z) (z1 : z ≤ 40) (h0 : CST M p z (fun _ => 0) M) : OkM (D_Census_countSimple 60 p z M) (fun N => CST M p z (fun c => sumN (M.1 1 1).toNat (fun s => smp (M.1 1 1) (rkC M) (mch M p) t z s c)) N) := by
  have hp := hM.2.1
  have k6 : 0 ≤ M.1 p 10 ∧ M.1 p 10 ≤ 6 := hM.2.2.1.1
  have n0 := hg.1
  have n6 := hg.2.1
  unfold D_Census_countSimple
  refine lq1 (n := FU) (a := 0) (M := M) (fun n v M' => L_Census_countSimple_2 (fun m2 => some m2) 60 p z n v M') (fun v M' => (0 ≤ v ∧ v ≤ M.1 1 1) ∧ CST M p z (fun c => sumN v.toNat (fun s => smp (M.1 1 1) (rkC M) (mch M p) t z s c)) M') (fun v => (M.1 1 1 - v).toNat) (fun o => OkM o (fun N => CST M p z (fun c => sumN (M.1 1 1).toNat (fun s => smp (M.1 1 1) (rkC M) (mch M p) t z s c)) N)) ?_ ⟨⟨Int.le_refl 0, n0⟩, h0⟩ (by have := FU_eq; omega)
  intro n v M' ⟨vr, hI⟩ ih
  show OkM (L_Census_countSimple_2 (fun m2 => some m2) 60 p z (n + 1) v M') _
  obtain ⟨c1, c2, ek, em, ep, ms⟩ := hI.same hM
  have hB' := hI.sb hB hp
  have g0 : gf M' 60 0 4 0 = some 1 := by simp [gf, hB'.c_]
  have gn : gf M' 1 5 3 1 = some (M.1 1 1) := by rw [← c1]; simp [gf, hB'.s_]
  have ck1 : ck M' 1 5 3 = some () := by simp [ck, hB'.s_]
  have ck60 : ck M' 60 0 4 = some () := by simp [ck, hB'.c_]
  have ckp : ck M' p 1 14 = some () := by simp [ck, ms]
  have rko := rankOf_ok hB'.s_ (by rw [c1]; exact n6) v
  rw [ek] at rko
  have ew : wr (v + 1) = v + 1 := wr_eq (by omega) (by omega)
  rw [L_Census_countSimple_2]
  simp only [g0, obs, gn]
  by_cases q : M.1 1 1 ≤ v
  · rw [if_pos q]
    exact OkM.i (hI.c (fun c _ _ => by rw [show v = M.1 1 1 by omega]))
  · rw [if_neg q]
    simp only [ck1, obs, rko]
    have rest : ∀ (B : Int → Int) (M1 : Mem), CST M p z B M1 → (∀ c, 0 ≤ c → c < M.1 p 10 → B c + (if rkC M v = 1 then sumN (M.1 p 10).toNat (fun x => if mT (mch M p) v x 0 = c then t (z - 1) x else 0) else 0) = sumN (v + 1).toNat (fun s => smp (M.1 1 1) (rkC M) (mch M p) t z s c)) → OkM (L_Census_countSimple_50 (fun m50 => L_Census_countSimple_2 (fun m2 => some m2) 60 p z n (wr (v + 1)) m50) 60 p z v (rkC M v) FU 0 M1) (fun N => CST M p z (fun c => sumN (M.1 1 1).toNat (fun s => smp (M.1 1 1) (rkC M) (mch M p) t z s c)) N) := by
      intro B M1 h1 e
      refine cs50_lp hB hg hM hbl tn z0 z1 vr.1 (by omega) _ (fun o => OkM o (fun N => CST M p z (fun c => sumN (M.1 1 1).toNat (fun s => smp (M.1 1 1) (rkC M) (mch M p) t z s c)) N)) (fun N hN => ?_) h1
      rw [ew]
      exact ih (v + 1) N ⟨⟨by omega, by omega⟩, hN.c e⟩ (by omega)
    have sN : ∀ c, sumN (v + 1).toNat (fun s => smp (M.1 1 1) (rkC M) (mch M p) t z s c) = sumN v.toNat (fun s => smp (M.1 1 1) (rkC M) (mch M p) t z s c) + smp (M.1 1 1) (rkC M) (mch M p) t z v c := fun c => by rw [show (v + 1).toNat = v.toNat + 1 by omega, sumN_s, show ((v.toNat : Nat) : Int) = v by omega]
    have emN : mN (mch M p) = M.1 p 10 := rfl
    by_cases r0 : rkC M v = 0
    · rw [if_pos r0]
      by_cases zz : z = 1
      · rw [if_pos zz]
        have hA : Arg (rkC M) (M.1 p 10) v 0 0 := argx (fun w => by omega) (fun w => by omega) (fun _ => rfl) (fun _ => rfl)
        have st := step_ok (M := M') (p := p) (s := v) (x := 0) (y := 0) (c := M.1 p 10) hB' (by unfold SgOk; rw [c1, c2]; exact hg) ms k6.2 ⟨vr.1, by omega⟩ (by rw [ek]; exact hA)
        clear ms
        rw [em] at st
        have rg := hM.2.2.1.2 v 0 0 vr.1 (by omega) hA
        obtain ⟨N, eN, hN⟩ := add_ok' (d := mT (mch M p) v 0 0) (e := 1) hI hM z0 z1 rg.1 rg.2 (by decide)
        rw [show sat 1 = 1 from sat_i (by rw [FAR_e]; decide)] at eN
        simp only [ckp, obs, st, ck60, eN]
        refine rest _ N hN (fun c _ _ => ?_)
        have es : smp (M.1 1 1) (rkC M) (mch M p) t z v c = (if mT (mch M p) v 0 0 = c then 1 else 0) := by
          unfold smp
          rw [if_pos r0]
          by_cases w : mT (mch M p) v 0 0 = c
          · rw [if_pos w, if_pos ⟨zz, w⟩]
          · rw [if_neg w, if_neg (fun u => w u.2)]
        rw [sN c, es, if_neg (show ¬ rkC M v = 1 by omega)]
        omega
      · rw [if_neg zz]
        simp only [obs]
        refine rest _ M' hI (fun c _ _ => ?_)
        have es : smp (M.1 1 1) (rkC M) (mch M p) t z v c = 0 := by
          unfold smp
          rw [if_pos r0, if_neg (fun u => zz u.1)]
        rw [sN c, es, if_neg (show ¬ rkC M v = 1 by omega)]
    · rw [if_neg r0]
      simp only [obs]
      refine rest _ M' hI (fun c _ _ => ?_)
      have es : smp (M.1 1 1) (rkC M) (mch M p) t z v c = (if rkC M v = 1 then sumN (M.1 p 10).toNat (fun x => if mT (mch M p) v x 0 = c then t (z - 1) x else 0) else 0) := by
        unfold smp
        rw [if_neg r0]
        rfl
      rw [sN c, es]
