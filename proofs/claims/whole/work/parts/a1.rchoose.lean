/-! laying: the choice -/
def LFT (l : Int) (M M' : Mem) : Prop := M'.2 = M.2 ∧ (∀ a, a ≠ 62 → M'.1 a = M.1 a) ∧ (∀ k, k ≠ 52 → M'.1 62 k = M.1 62 k) ∧ M'.1 62 52 = l ∧ SB M'
theorem LFT.rw {l : Int} {M M' : Mem} (h : LFT l M M') (v d : Int) : RWR v d [] M M' := ⟨h.1, fun a x _ _ => h.2.1 a x, fun k _ x _ => h.2.2.1 k x, by rw [h.2.1 64 (by decide)]; rfl, by rw [h.2.2.1 3 (by decide), ln'_0]; omega, fun i _ => by rw [h.2.1 94 (by decide)], fun a i x _ _ => by rw [h.2.1 a (by omega)], h.2.2.2.2⟩
def CHO (d s v l : Int) (M M' : Mem) : Prop := M'.2 = M.2 ∧ (∀ a, a ≠ 62 → a ≠ 96 → a ≠ 97 → M'.1 a = M.1 a) ∧ (∀ k, k ≠ 52 → M'.1 62 k = M.1 62 k) ∧ M'.1 62 52 = l ∧ (∀ i, i ≠ d → M'.1 96 i = M.1 96 i ∧ M'.1 97 i = M.1 97 i) ∧ M'.1 96 d = s ∧ M'.1 97 d = v ∧ SB M'
theorem c57_lp {n : Int} {rk : Int → Int} {m : Mch} {d z : Int} {W : Int → Int} {M : Mem} (h : RSt n rk m M) (hw : WOK (mN m) W) (hl : AtR d (mN m) W M) (d0 : 0 ≤ d) (d1 : d ≤ 40) (z1 : 1 ≤ z) (z2 : z ≤ 40) (k : Mem → Option Mem) {s' f' l' : Int} : ∀ (q : Nat) (s f i l : Int) (n1 n2 : Nat) (M' : Mem), pk n rk (fun s f => shP rk m (kC n rk m) W s z f) z q s f l = some (s', f', l') → LFT l M M' → 0 ≤ s → lst rk s z ≤ f → f = (if rk s = 1 then z - 1 + i else i) → (0 ≤ l ∧ l < FAR) → (mst rk s z - f + 1).toNat < n1 → (n - s).toNat < n2 → OkM (L_M_choose_57 (fun m57 => L_M_choose_9 k 62 d z n2 (wr (s + 1)) m57) 62 d z s (if rk s = 2 then z - 2 else 0) n1 i M') (fun M'' => CHO d s' (if rk s' = 2 then z - 1 - f' else 0) l' M M'') := by
  obtain ⟨hW, hr, n6, eN⟩ := h.mw
  have N6 := hW.1
  intro q
  induction q with
  | zero => intro s f i l n1 n2 M' e; unfold pk at e; cases e
  | succ q ih =>
    intro s f i l n1 n2 M' e hc s0 f0 fi lr hn1 hn2
    unfold pk at e
    by_cases q0 : n ≤ s
    · rw [if_pos q0] at e; cases e
    rw [if_neg q0] at e
    have rs := hr s
    cases n1 with
    | zero => omega
    | succ n1 =>
    have hM' := h.c (hc.rw 1000 1000)
    have hB' := hM'.sb
    have ck0 : ck M' 62 9 54 = some () := by simp [ck, hB'.m_]
    have hfi : mst rk s z < f ↔ (if rk s = 2 then z - 2 else 0) < i := by
      unfold mst lst
      by_cases q2 : rk s = 2
      · rw [if_pos q2, if_pos q2, fi, if_neg (by omega)]
      · rw [if_neg q2, if_neg q2]
        by_cases q1 : rk s = 1
        · rw [if_neg (by omega), if_pos q1, fi, if_pos q1]; omega
        · rw [if_pos (by omega), fi, if_neg q1]
    rw [L_M_choose_57]
    dsimp only
    by_cases qf : mst rk s z < f
    · rw [if_pos qf] at e
      rw [if_pos (hfi.mp qf)]
      have ws : wr (s + 1) = s + 1 := wr_eq (by omega) (by omega)
      cases n2 with
      | zero => omega
      | succ n2 =>
      have g0 : gf M' 62 9 54 0 = some n := by
        have : M'.1 62 0 = n := by rw [hM'.1.2.1.2.1]; exact hM'.2.1
        rw [← this]; simp [gf, hB'.m_]
      rw [ws, L_M_choose_9]
      dsimp only
      rw [g0, obs]
      by_cases qn : n ≤ s + 1
      · cases q with
        | zero => unfold pk at e; cases e
        | succ q => unfold pk at e; rw [if_pos qn] at e; cases e
      · have rk1 := hM'.rk_ (s := s + 1) (by omega) (by omega)
        have wz : wr (z - 2) = z - 2 := wr_eq (by omega) (by omega)
        have r2 := hr (s + 1)
        have b := lst_b (hr (s + 1)) z1 z2
        rw [if_neg qn, rk1.1, obs, rk1.2, obs]
        have t1 : (if rk (s + 1) = 2 then (some 1) else (some 0) : Option Int) = some (if rk (s + 1) = 2 then 1 else 0) := by split <;> rfl
        have t2 : (if rk (s + 1) = 2 then (some (wr (z - 2))) else (some 0) : Option Int) = some (if rk (s + 1) = 2 then z - 2 else 0) := by rw [wz]; split <;> rfl
        rw [t1, obs, obs, rk1.2, obs, t2, obs]
        refine ih (s + 1) (lst rk (s + 1) z) (if rk (s + 1) = 2 then 1 else 0) l FU n2 M' e hc (by omega) (Int.le_refl _) ?_ lr (by have := FU_eq; omega) (by omega)
        unfold lst
        by_cases u2 : rk (s + 1) = 2
        · rw [if_neg (by omega), if_neg (by omega), if_neg (by omega), if_pos u2]
        · rw [if_neg u2]
          by_cases u1 : rk (s + 1) = 1
          · rw [if_neg (by omega), if_pos u1, if_pos u1]; omega
          · rw [if_pos (by omega), if_neg u1]
    · rw [if_neg qf] at e
      have qi := fun w => qf (hfi.mpr w)
      rw [if_neg qi, ck0, obs]
      have ir : rk s = 2 → 1 ≤ i ∧ i ≤ z - 2 := by
        intro q2
        rw [if_pos q2] at qi
        rw [if_neg (by omega)] at fi
        unfold lst at f0
        rw [if_neg (by omega), if_neg (by omega)] at f0
        omega
      have i0 : rk s ≠ 2 → i = 0 := by
        intro q2
        rw [if_neg q2] at qi
        unfold lst at f0
        by_cases q1 : rk s = 1
        · rw [if_pos q1] at fi
          rw [if_neg (by omega), if_pos q1] at f0
          omega
        · rw [if_neg q1] at fi
          rw [if_pos (by omega)] at f0
          omega
      have ff : f = if rk s = 1 then z - 1 else i := by
        by_cases q1 : rk s = 1
        · rw [if_pos q1] at fi ⊢
          have := i0 (by omega)
          omega
        · rw [if_neg q1] at fi ⊢; exact fi
      have wq' := weighQ_ok hM' hw (hl.c (hc.rw 1000 1000) N6.2 (by omega)) d0 (by omega) s0 (show s < n by omega) z1 z2 ir ff
      have nn := shP_nn (z := z) (f := f) hW hr hw s0 (show s < n by omega)
      have g52 : gf M' 62 9 54 52 = some l := by rw [← hc.2.2.2.1]; simp [gf, hB'.m_]
      rw [wq', obs]
      dsimp only
      rw [g52, obs]
      by_cases ql : l < shP rk m (kC n rk m) W s z f
      · rw [if_pos ql] at e
        rw [if_neg (fun u => by have := lc_ge.mp u; omega)]
        simp only [Option.some.injEq, Prod.mk.injEq] at e
        obtain ⟨x1, x2, x3⟩ := e
        subst x1 x2 x3
        have g48 : gf M' 62 9 54 48 = some 96 := by simp [gf, hB'.m_]
        have wt1 : wt M' 10 96 d s = some (up M' 96 d s) := wt_v (n := 42) (by simp [hB'.m_]) d0 (by omega)
        have hB2 : SB (up M' 96 d s) := SB_up hB' (by unfold stp; omega)
        have g49 : gf (up M' 96 d s) 62 9 54 49 = some 97 := by simp [gf, hB2.m_]
        have g1 : gf (up M' 96 d s) 62 9 54 1 = some 63 := by simp [gf, hB2.m_]
        have r63 : rd (up M' 96 d s) 10 63 s = some (rk s) := by
          rw [rd_v (n := 6) (by simp [hB2.m_]) s0 (by omega), up_n (by decide)]
          have := hM'.1.2.1.2.2 s s0 (by rw [hM'.2.1]; omega)
          rw [this, hM'.2.2.1]
        have wz : wr (z - 1) = z - 1 := wr_eq (by omega) (by omega)
        have wzi : rk s = 2 → wr (z - 1 - i) = z - 1 - i := fun q2 => wr_eq (by have := ir q2; omega) (by have := ir q2; omega)
        have t1 : (if rk s = 2 then (some (wr ((wr (z - 1)) - i))) else (some 0) : Option Int) = some (if rk s = 2 then z - 1 - f else 0) := by
          by_cases q2 : rk s = 2
          · rw [if_pos q2, if_pos q2, wz, wzi q2, ff, if_neg (by omega)]
          · rw [if_neg q2, if_neg q2]
        generalize (if rk s = 2 then z - 1 - f else 0) = vv at *
        have wt2 : wt (up M' 96 d s) 10 97 d vv = some (up (up M' 96 d s) 97 d vv) := wt_v (n := 42) (by simp [hB2.m_]) d0 (by omega)
        have hB3 : SB (up (up M' 96 d s) 97 d vv) := SB_up hB2 (by unfold stp; omega)
        rw [g48, obs, wt1, obs, g49, obs, g1, obs, r63, obs, t1, obs, wt2, obs]
        refine ⟨_, rfl, by rw [up_2, up_2]; exact hc.1, fun a x y w => by rw [up_n w, up_n y]; exact hc.2.1 a x, fun k x => by rw [up_n (by decide), up_n (by decide)]; exact hc.2.2.1 k x, by rw [up_n (by decide), up_n (by decide)]; exact hc.2.2.2.1, fun j x => ⟨?_, ?_⟩, ?_, ?_, hB3⟩
        · rw [up_n (by decide), up_1, if_neg (fun w => x w.2), hc.2.1 96 (by decide)]
        · rw [up_1, if_neg (fun w => x w.2), up_n (by decide), hc.2.1 97 (by decide)]
        · rw [up_n (by decide), up_1, if_pos ⟨rfl, rfl⟩]
        · rw [up_1, if_pos ⟨rfl, rfl⟩]
      · rw [if_neg ql] at e
        rw [if_pos (lc_ge.mpr (by omega))]
        generalize shP rk m (kC n rk m) W s z f = r at *
        have wl1 : wl (l - r) = l - r := wl_eq (by rw [FAR_e] at *; omega) (by rw [FAR_e] at *; omega)
        have wi : wr (i + 1) = i + 1 := wr_eq (by by_cases q2 : rk s = 2; have := ir q2; omega; have := i0 q2; omega) (by by_cases q2 : rk s = 2; have := ir q2; omega; have := i0 q2; omega)
        have p52 : pf M' 62 9 54 52 (l - r) = some (up M' 62 52 (l - r)) := by simp [pf, hB'.m_]
        rw [obs, wl1, p52, obs, wi]
        refine ih s (f + 1) (i + 1) (l - r) n1 n2 _ e ⟨by rw [up_2]; exact hc.1, fun a x => by rw [up_n x]; exact hc.2.1 a x, fun k x => by rw [up_1, if_neg (fun w => x w.2)]; exact hc.2.2.1 k x, by rw [up_1, if_pos ⟨rfl, rfl⟩], SB_up hB' (by unfold stp; omega)⟩ s0 (by omega) ?_ (by omega) (by omega) hn2
        rw [fi]
        split <;> omega
theorem choose_ok {n : Int} {rk : Int → Int} {m : Mch} {d z l s f l' : Int} {W : Int → Int} {M : Mem} (h : RSt n rk m M) (hw : WOK (mN m) W) (hl : AtR d (mN m) W M) (d0 : 0 ≤ d) (d1 : d ≤ 40) (z1 : 1 ≤ z) (z2 : z ≤ 40) (ez : M.1 95 d = z) (el : M.1 62 52 = l) (lr : 0 ≤ l ∧ l < FAR) (hp : pick n rk m W z l = some (s, f, l')) (n0 : 0 < n) : OkM (D_M_choose 62 d M) (fun M' => CHO d s (if rk s = 2 then z - 1 - f else 0) l' M M') := by
  obtain ⟨hW, hr, n6, eN⟩ := h.mw
  have hB := h.sb
  have g47 : gf M 62 9 54 47 = some 95 := by simp [gf, hB.m_]
  have r95 : rd M 10 95 d = some z := by rw [rd_v (n := 42) (by simp [hB.m_]) d0 (by omega), ez]
  have g0 : gf M 62 9 54 0 = some n := by
    have : M.1 62 0 = n := by rw [h.1.2.1.2.1]; exact h.2.1
    rw [← this]; simp [gf, hB.m_]
  unfold D_M_choose
  rw [g47, obs, r95, obs]
  have eF : FU = (FU - 1) + 1 := by have := FU_eq; omega
  have rk1 := h.rk_ (s := 0) (Int.le_refl 0) n0
  have wz : wr (z - 2) = z - 2 := wr_eq (by omega) (by omega)
  have r2 := hr 0
  have b := lst_b (hr 0) z1 z2
  rw [eF, L_M_choose_9]
  dsimp only
  rw [g0, obs, if_neg (by omega), rk1.1, obs, rk1.2, obs]
  have t1 : (if rk 0 = 2 then (some 1) else (some 0) : Option Int) = some (if rk 0 = 2 then 1 else 0) := by split <;> rfl
  have t2 : (if rk 0 = 2 then (some (wr (z - 2))) else (some 0) : Option Int) = some (if rk 0 = 2 then z - 2 else 0) := by rw [wz]; split <;> rfl
  rw [t1, obs, obs, rk1.2, obs, t2, obs]
  refine c57_lp h hw hl d0 d1 z1 z2 _ 400 0 (lst rk 0 z) (if rk 0 = 2 then 1 else 0) l FU (FU - 1) M hp ⟨rfl, fun _ _ => rfl, fun _ _ => rfl, el, hB⟩ (Int.le_refl 0) (Int.le_refl _) ?_ lr (by have := FU_eq; omega) (by have := FU_eq; omega)
  unfold lst
  by_cases u2 : rk 0 = 2
  · rw [if_neg (by omega), if_neg (by omega), if_neg (by omega), if_pos u2]
  · rw [if_neg u2]
    by_cases u1 : rk 0 = 1
    · rw [if_neg (by omega), if_pos u1, if_pos u1]; omega
    · rw [if_pos (by omega), if_neg u1]
