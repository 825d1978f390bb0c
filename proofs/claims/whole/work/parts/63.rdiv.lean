/-! the reference: dividing the keys -/
def Dv (r : Int) (q : Int → Int → Prop) (n i : Int) (L W : Int → Int) : Prop := (0 ≤ n ∧ n ≤ 6) ∧ (0 ≤ i ∧ i ≤ r) ∧ (∀ c, 0 ≤ c → c < n → 0 ≤ L c ∧ L c < i ∧ W (L c) = c) ∧ (∀ c c', 0 ≤ c → c < c' → c' < n → ¬ q (L c') (L c)) ∧ ∀ i', 0 ≤ i' → i' < i → 0 ≤ W i' ∧ W i' < n ∧ q i' (L (W i'))
def Big (r : Int) (q : Int → Int → Prop) (L : Int → Int) : Prop := (∀ c, 0 ≤ c → c < 7 → 0 ≤ L c ∧ L c < r) ∧ ∀ c c', 0 ≤ c → c < c' → c' < 7 → ¬ q (L c') (L c)
theorem Dv.old {r : Int} {q : Int → Int → Prop} {n i : Int} {L W : Int → Int} (h : Dv r q n i L W) (hi : i < r) {c : Int} (c0 : 0 ≤ c) (c1 : c < n) (hq : q i (L c)) : Dv r q n (i + 1) L (ud W i c) := by
  obtain ⟨a1, a2, a3, a4, a5⟩ := h
  refine ⟨a1, by omega, fun c' b0 b1 => ?_, a4, fun i' b0 b1 => ?_⟩
  · have := a3 c' b0 b1
    rw [ud_n (by omega)]
    exact ⟨this.1, by omega, this.2.2⟩
  · by_cases e : i' = i
    · subst e; rw [ud_s]; exact ⟨c0, c1, hq⟩
    · rw [ud_n e]; exact a5 i' b0 (by omega)
theorem Dv.new {r : Int} {q : Int → Int → Prop} {n i : Int} {L W : Int → Int} (h : Dv r q n i L W) (hi : i < r) (n5 : n < 6) (hr : q i i) (hq : ∀ c, 0 ≤ c → c < n → ¬ q i (L c)) : Dv r q (n + 1) (i + 1) (ud L n i) (ud W i n) := by
  obtain ⟨a1, a2, a3, a4, a5⟩ := h
  refine ⟨by omega, by omega, fun c' b0 b1 => ?_, fun c c' b0 b1 b2 => ?_, fun i' b0 b1 => ?_⟩
  · by_cases e : c' = n
    · subst e; rw [ud_s, ud_s]; exact ⟨a2.1, by omega, rfl⟩
    · rw [ud_n e]
      have := a3 c' b0 (by omega)
      rw [ud_n (show L c' ≠ i by omega)]
      exact ⟨this.1, by omega, this.2.2⟩
  · rw [ud_n (show c ≠ n by omega)]
    by_cases e : c' = n
    · subst e; rw [ud_s]; exact hq c b0 b1
    · rw [ud_n e]; exact a4 c c' b0 b1 (by omega)
  · by_cases e : i' = i
    · subst e; rw [ud_s, ud_s]; exact ⟨a1.1, by omega, hr⟩
    · rw [ud_n e]
      have := a5 i' b0 (by omega)
      rw [ud_n (show W i' ≠ n by omega)]
      exact ⟨this.1, by omega, this.2.2⟩
theorem Dv.big {r : Int} {q : Int → Int → Prop} {n i : Int} {L W : Int → Int} (h : Dv r q n i L W) (hi : i < r) (n6 : n = 6) (hq : ∀ c, 0 ≤ c → c < n → ¬ q i (L c)) : Big r q (ud L n i) := by
  obtain ⟨a1, a2, a3, a4, a5⟩ := h
  refine ⟨fun c b0 b1 => ?_, fun c c' b0 b1 b2 => ?_⟩
  · by_cases e : c = n
    · subst e; rw [ud_s]; omega
    · rw [ud_n e]; have := a3 c b0 (by omega); omega
  · rw [ud_n (show c ≠ n by omega)]
    by_cases e : c' = n
    · subst e; rw [ud_s]; exact hq c b0 b1
    · rw [ud_n e]; exact a4 c c' b0 b1 (by omega)
/-- what the search for a part tells -/
def H15 (A M : Mem) (v1 : Int) (q : Int → Int → Prop) : Prop := ∀ M' n i, KG A M' → M'.1 82 = M.1 82 → (0 ≤ n ∧ n ≤ 6) → (0 ≤ i ∧ i < A.1 62 26) → (∀ c, 0 ≤ c → c < n → 0 ≤ M'.1 84 c ∧ M'.1 84 c < A.1 62 26) → ∀ (P : Option (Int × Mem) → Prop) (k : Int → Mem → Option (Int × Mem)), (∀ c, 0 ≤ c → c ≤ n → (∀ c', 0 ≤ c' → c' < c → ¬ q i (M'.1 84 c')) → (c < n → q i (M'.1 84 c)) → P (k c M')) → P (L_M_divide_15 k 62 v1 n i FU 0 M')
theorem h15_fin {N A M : Mem} {nx : Int → Int → Int → Int} {fn : Int → Int} (R : RA N nx fn) (h : KF N nx A) : H15 A M 1 (fun i j => fn (A.1 80 i) = fn (A.1 80 j)) := by
  intro M' n i hG e82 hn hi hL P k hk
  have m := R.m (h.1.tr hG.1)
  have hS := m.1.m_
  have r := h.2.1.1
  have i5 : i < 512 := by omega
  have f1 := R.2.2.2.1 M' (h.1.tr hG.1) (A.1 80 i) (h.2.1.2.1 i hi.1 hi.2).1
  refine lq1 (fun n' v M' => L_M_divide_15 k 62 1 n i n' v M') (fun c M'' => M'' = M' ∧ 0 ≤ c ∧ c ≤ n ∧ ∀ c', 0 ≤ c' → c' < c → ¬ fn (A.1 80 i) = fn (A.1 80 (M'.1 84 c'))) (fun c => (n - c).toNat) P ?_ ⟨rfl, Int.le_refl 0, hn.1, fun c' a b => by omega⟩ (by have := FU_eq; omega)
  intro n' c M'' ⟨hM, c0, c1, hc⟩ ih
  subst hM
  show P (L_M_divide_15 k 62 1 n i (n' + 1) c M'')
  rw [L_M_divide_15]
  by_cases q : n ≤ c
  · simp [-Option.bind_some, -Option.bind_none, gf, pf, rd, wt, ck, ln, lt, bz, nq, up_1, up_2, obs, obn, q]
    exact hk c c0 c1 hc (fun w => by omega)
  · have e1 : wr (c + 1) = c + 1 := wr_eq (by omega) (by omega)
    have lc := hL c c0 (by omega)
    have c5 : c < 512 := by omega
    have l5 : M''.1 84 c < 512 := by omega
    have f2 := R.2.2.2.1 M'' (h.1.tr hG.1) (A.1 80 (M''.1 84 c)) (h.2.1.2.1 _ lc.1 lc.2).1
    rw [← hG.2.2.1] at f1 f2
    by_cases w : fn (M''.1 80 i) = fn (M''.1 80 (M''.1 84 c))
    · simp [-Option.bind_some, -Option.bind_none, gf, pf, rd, wt, ck, ln, lt, bz, nq, up_1, up_2, obs, obn, q, hS, hi, i5, f1, c0, c5, lc, l5, f2, w]
      exact hk c c0 c1 hc (fun _ => by rw [← hG.2.2.1]; exact w)
    · simp [-Option.bind_some, -Option.bind_none, gf, pf, rd, wt, ck, ln, lt, bz, nq, up_1, up_2, obs, obn, q, hS, hi, i5, f1, c0, c5, lc, l5, f2, w, e1]
      refine ih (c + 1) M'' ⟨rfl, by omega, by omega, fun c' a b => ?_⟩ (by omega)
      by_cases e : c' = c
      · rw [e, ← hG.2.2.1]; exact w
      · exact hc c' a (by omega)
theorem h15_like {N A M : Mem} {nx : Int → Int → Int → Int} {fn : Int → Int} (R : RA N nx fn) (h : KF N nx A) : H15 A M 0 (fun i j => Lk N A (M.1 82) i j) := by
  intro M' n i hG e82 hn hi hL P k hk
  have m := R.m (h.1.tr hG.1)
  have hS := m.1.m_
  have r := h.2.1.1
  refine lq1 (fun n' v M' => L_M_divide_15 k 62 0 n i n' v M') (fun c M'' => M'' = M' ∧ 0 ≤ c ∧ c ≤ n ∧ ∀ c', 0 ≤ c' → c' < c → ¬ Lk N A (M.1 82) i (M'.1 84 c')) (fun c => (n - c).toNat) P ?_ ⟨rfl, Int.le_refl 0, hn.1, fun c' a b => by omega⟩ (by have := FU_eq; omega)
  intro n' c M'' ⟨hM, c0, c1, hc⟩ ih
  subst hM
  show P (L_M_divide_15 k 62 0 n i (n' + 1) c M'')
  rw [L_M_divide_15]
  by_cases q : n ≤ c
  · simp [-Option.bind_some, -Option.bind_none, gf, pf, rd, wt, ck, ln, lt, bz, nq, up_1, up_2, obs, obn, q]
    exact hk c c0 c1 hc (fun w => by omega)
  · have e1 : wr (c + 1) = c + 1 := wr_eq (by omega) (by omega)
    have lc := hL c c0 (by omega)
    have c5 : c < 512 := by omega
    obtain ⟨t, et, ht⟩ : ∃ t, D_M_areLike 62 i (M''.1 84 c) M'' = some (t, M'') ∧ ((t = 1 ∧ Lk N A (M.1 82) i (M''.1 84 c)) ∨ (t = 0 ∧ ¬ Lk N A (M.1 82) i (M''.1 84 c))) := by
      refine areLike_ok R h hG hi lc (fun o => ∃ t, o = some (t, M'') ∧ ((t = 1 ∧ Lk N A (M.1 82) i (M''.1 84 c)) ∨ (t = 0 ∧ ¬ Lk N A (M.1 82) i (M''.1 84 c)))) (fun w => ?_) (fun w => ?_)
      · rw [e82] at w; exact ⟨1, rfl, Or.inl ⟨rfl, w⟩⟩
      · rw [e82] at w; exact ⟨0, rfl, Or.inr ⟨rfl, w⟩⟩
    rcases ht with ⟨ht, w⟩ | ⟨ht, w⟩
    · subst ht
      simp [-Option.bind_some, -Option.bind_none, gf, pf, rd, wt, ck, ln, lt, bz, nq, up_1, up_2, obs, obn, q, hS, c0, c5, et]
      exact hk c c0 c1 hc (fun _ => w)
    · subst ht
      simp [-Option.bind_some, -Option.bind_none, gf, pf, rd, wt, ck, ln, lt, bz, nq, up_1, up_2, obs, obn, q, hS, c0, c5, et, e1]
      refine ih (c + 1) M'' ⟨rfl, by omega, by omega, fun c' a b => ?_⟩ (by omega)
      by_cases e : c' = c
      · rw [e]; exact w
      · exact hc c' a (by omega)
def KG2 (A M : Mem) : Prop := KG A M ∧ F76 A M
theorem KG2.rf (A : Mem) : KG2 A A := ⟨KG.rf A, fun _ _ _ => rfl⟩
theorem KG2.up {A M : Mem} (h : KG2 A M) {a k v : Int} (ha : 82 ≤ a ∧ a ≤ 84) : KG2 A (up M a k v) := ⟨h.1.up (by omega), h.2.up (by omega)⟩
theorem div4_lp {N A M : Mem} {nx : Int → Int → Int → Int} {fn : Int → Int} {v1 : Int} {q : Int → Int → Prop} (R : RA N nx fn) (h : KF N nx A) (hG : KG2 A M) (h15 : H15 A M v1 q) (hr : ∀ i, q i i) (P : Option (Int × Mem) → Prop) (k : Int → Mem → Option (Int × Mem)) (h7 : ∀ M', KG2 A M' → Big (A.1 62 26) q (M'.1 84) → P (some (7, M'))) (hk : ∀ n M', KG2 A M' → Dv (A.1 62 26) q n (A.1 62 26) (M'.1 84) (M'.1 83) → P (k n M')) : P (L_M_divide_4 k 62 v1 FU 0 0 M) := by
  have r := h.2.1.1
  refine lq2 (fun n a b M' => L_M_divide_4 k 62 v1 n a b M') (fun n i M' => KG2 A M' ∧ M'.1 82 = M.1 82 ∧ Dv (A.1 62 26) q n i (M'.1 84) (M'.1 83)) (fun n i => (A.1 62 26 - i).toNat) P ?_ ⟨hG, rfl, by omega, by omega, fun c a b => by omega, fun c c' a b d => by omega, fun i' a b => by omega⟩ (by have := FU_eq; omega)
  intro n0 n i M' ⟨hG', e82, hD⟩ ih
  show P (L_M_divide_4 k 62 v1 (n0 + 1) n i M')
  have m := R.m (h.1.tr hG'.1.1)
  have hS := m.1.m_
  have hD0 := hD
  obtain ⟨a1, a2, a3, a4, a5⟩ := hD
  rw [L_M_divide_4]
  by_cases hi : A.1 62 26 ≤ i
  · simp [-Option.bind_some, -Option.bind_none, gf, pf, rd, wt, ck, ln, lt, bz, nq, up_1, up_2, obs, obn, hS, hG'.1.2.1, hi]
    have : i = A.1 62 26 := by omega
    subst this
    exact hk n M' hG' hD0
  · simp [-Option.bind_some, -Option.bind_none, gf, pf, rd, wt, ck, ln, lt, bz, nq, up_1, up_2, obs, obn, hS, hG'.1.2.1, hi]
    have e1 : wr (i + 1) = i + 1 := wr_eq (by omega) (by omega)
    have e2 : wr (n + 1) = n + 1 := wr_eq (by omega) (by omega)
    have i5 : i < 512 := by omega
    refine h15 M' n i hG'.1 e82 a1 ⟨a2.1, by omega⟩ (fun c b0 b1 => by have := a3 c b0 b1; omega) P _ (fun c c0 c1 hn hq => ?_)
    by_cases ec : c = n
    · subst ec
      have c5 : c < 512 := by omega
      by_cases c6 : c < 6
      · have e3 : c + 1 ≤ 6 := by omega
        simp [-Option.bind_some, -Option.bind_none, gf, pf, rd, wt, ck, ln, lt, bz, nq, up_1, up_2, obs, obn, hS, a1, c5, e2, e3, a2, i5, e1]
        refine ih (c + 1) (i + 1) _ ⟨(hG'.up (by omega)).up (by omega), by simp [up_f, e82], ?_⟩ (by omega)
        have w := hD0.new (by omega) c6 (hr i) hn
        simpa [up_f] using w
      · have e3 : ¬ c + 1 ≤ 6 := by omega
        have e7 : c = 6 := by omega
        simp [-Option.bind_some, -Option.bind_none, gf, pf, rd, wt, ck, ln, lt, bz, nq, up_1, up_2, obs, obn, hS, a1, c5, e2, e3]
        rw [show c + 1 = 7 by omega]
        refine h7 _ (hG'.up (by omega)) ?_
        have w := hD0.big (by omega) e7 hn
        simpa [up_f] using w
    · simp [-Option.bind_some, -Option.bind_none, gf, pf, rd, wt, ck, ln, lt, bz, nq, up_1, up_2, obs, obn, ec, hS, a2, i5, e1]
      refine ih n (i + 1) _ ⟨hG'.up (by omega), by simp [up_f, e82], ?_⟩ (by omega)
      have w := hD0.old (by omega) c0 (by omega) (hq (by omega))
      simpa [up_f] using w
theorem Dv.c {r : Int} {q : Int → Int → Prop} {n : Int} {L W W' : Int → Int} (h : Dv r q n r L W) (e : ∀ i, 0 ≤ i → i < r → W' i = W i) : Dv r q n r L W' := by
  obtain ⟨a1, a2, a3, a4, a5⟩ := h
  refine ⟨a1, a2, fun c b0 b1 => ?_, a4, fun i' b0 b1 => ?_⟩
  · have := a3 c b0 b1
    rw [e _ this.1 this.2.1]; exact this
  · rw [e i' b0 b1]; exact a5 i' b0 b1
theorem divide_ok {N A M : Mem} {nx : Int → Int → Int → Int} {fn : Int → Int} {v1 : Int} {q : Int → Int → Prop} (R : RA N nx fn) (h : KF N nx A) (hG : KG2 A M) (h15 : H15 A M v1 q) (hr : ∀ i, q i i) : OkV (D_M_divide 62 v1 M) (fun t M' => KG2 A M' ∧ ((t = 7 ∧ Big (A.1 62 26) q (M'.1 84)) ∨ Dv (A.1 62 26) q t (A.1 62 26) (M'.1 84) (M'.1 82))) := by
  unfold D_M_divide
  refine div4_lp R h hG h15 hr (fun o => OkV o _) _ (fun M' hG' hB => OkV.i ⟨hG', Or.inl ⟨rfl, hB⟩⟩) (fun n M1 hG1 hD1 => ?_)
  have r := h.2.1.1
  refine lq1 (fun n' v M' => L_M_divide_118 (fun m118 => some (n, m118)) 62 n n' v M') (fun i M' => 0 ≤ i ∧ i ≤ A.1 62 26 ∧ KG2 A M' ∧ M'.1 84 = M1.1 84 ∧ M'.1 83 = M1.1 83 ∧ ∀ j, 0 ≤ j → j < i → M'.1 82 j = M1.1 83 j) (fun i => (A.1 62 26 - i).toNat) (fun o => OkV o (fun t M' => KG2 A M' ∧ ((t = 7 ∧ Big (A.1 62 26) q (M'.1 84)) ∨ Dv (A.1 62 26) q t (A.1 62 26) (M'.1 84) (M'.1 82)))) ?_ ⟨Int.le_refl 0, r.1, hG1, rfl, rfl, fun j a b => by omega⟩ (by have := FU_eq; omega)
  intro n' i M' ⟨i0, i1, hG', e84, e83, he⟩ ih
  show OkV (L_M_divide_118 _ 62 n (n' + 1) i M') _
  have hS := (R.m (h.1.tr hG'.1.1)).1.m_
  rw [L_M_divide_118]
  by_cases hi : A.1 62 26 ≤ i
  · simp [-Option.bind_some, -Option.bind_none, gf, pf, rd, wt, ck, ln, lt, bz, nq, up_1, up_2, obs, obn, hS, hG'.1.2.1, hi]
    refine OkV.i ⟨hG', Or.inr ?_⟩
    rw [e84]
    exact hD1.c (fun j a b => he j a (by omega))
  · have e1 : wr (i + 1) = i + 1 := wr_eq (by omega) (by omega)
    have i5 : i < 512 := by omega
    simp [-Option.bind_some, -Option.bind_none, gf, pf, rd, wt, ck, ln, lt, bz, nq, up_1, up_2, obs, obn, hS, hG'.1.2.1, hi, i0, i5, e1]
    refine ih (i + 1) _ ⟨by omega, by omega, hG'.up (by omega), by simp [up_f, e84], by simp [up_f, e83], fun j a b => ?_⟩ (by omega)
    rw [up_1]
    by_cases e : j = i
    · rw [if_pos ⟨rfl, e⟩, e, e83]
    · rw [if_neg (fun w => e w.2)]; exact he j a (by omega)
