/-! the row: whether it is a tree -/
/-- the size of the tree at i, from those behind it -/
def sv (rk : Int → Int) (L : Int) (nm S : Int → Int) (i : Int) : Int := if rk (nm i) ≤ 0 then 1 else if L ≤ i + 1 ∨ S (i + 1) = 0 then 0 else if rk (nm i) ≤ 1 then 1 + S (i + 1) else if L ≤ i + 1 + S (i + 1) ∨ S (i + 1 + S (i + 1)) = 0 then 0 else 1 + S (i + 1) + S (i + 1 + S (i + 1))
/-- S has the sizes from q on -/
def SPN (rk : Int → Int) (L q : Int) (nm S : Int → Int) : Prop := ∀ i, q ≤ i → i < L → S i = sv rk L nm S i
theorem SPN.r {rk : Int → Int} {L q : Int} {nm S : Int → Int} (h : SPN rk L q nm S) (q0 : 0 ≤ q) : ∀ (k : Nat) (i : Int), L - i = k → q ≤ i → i < L → 0 ≤ S i ∧ i + S i ≤ L := by
  intro k
  induction k using Nat.strongRecOn with
  | _ k ih =>
    intro i hk hq hi
    have hr : ∀ j, i < j → j < L → 0 ≤ S j ∧ j + S j ≤ L := fun j a b => ih (L - j).toNat (by omega) j (by omega) (by omega) b
    rw [h i hq hi]
    unfold sv
    by_cases c0 : rk (nm i) ≤ 0
    · rw [if_pos c0]; omega
    · rw [if_neg c0]
      by_cases c1 : L ≤ i + 1 ∨ S (i + 1) = 0
      · rw [if_pos c1]; omega
      · rw [if_neg c1]
        have r1 := hr (i + 1) (by omega) (by omega)
        by_cases c2 : rk (nm i) ≤ 1
        · rw [if_pos c2]; omega
        · rw [if_neg c2]
          by_cases c3 : L ≤ i + 1 + S (i + 1) ∨ S (i + 1 + S (i + 1)) = 0
          · rw [if_pos c3]; omega
          · rw [if_neg c3]
            have r2 := hr (i + 1 + S (i + 1)) (by omega) (by omega)
            omega
theorem SPN.b {rk : Int → Int} {L q : Int} {nm S : Int → Int} (h : SPN rk L q nm S) (q0 : 0 ≤ q) {i : Int} (hq : q ≤ i) (hi : i < L) : 0 ≤ S i ∧ i + S i ≤ L := h.r q0 (L - i).toNat i (by omega) hq hi
/-- within a tree all places begin trees -/
theorem SPN.nz {rk : Int → Int} {L q : Int} {nm S : Int → Int} (h : SPN rk L q nm S) (q0 : 0 ≤ q) : ∀ (k : Nat) (i : Int), L - i = k → q ≤ i → i < L → S i ≠ 0 → ∀ j, i ≤ j → j < i + S i → S j ≠ 0 := by
  intro k
  induction k using Nat.strongRecOn with
  | _ k ih =>
    intro i hk hq hi hn j j0 j1
    by_cases e : j = i
    · rw [e]; exact hn
    · have hs := h i hq hi
      unfold sv at hs
      by_cases c0 : rk (nm i) ≤ 0
      · rw [if_pos c0] at hs; omega
      · rw [if_neg c0] at hs
        by_cases c1 : L ≤ i + 1 ∨ S (i + 1) = 0
        · rw [if_pos c1] at hs; omega
        · rw [if_neg c1] at hs
          have r1 := h.b q0 (i := i + 1) (by omega) (by omega)
          have n1 := ih (L - (i + 1)).toNat (by omega) (i + 1) (by omega) (by omega) (by omega) (by omega)
          by_cases c2 : rk (nm i) ≤ 1
          · rw [if_pos c2] at hs
            exact n1 j (by omega) (by omega)
          · rw [if_neg c2] at hs
            by_cases c3 : L ≤ i + 1 + S (i + 1) ∨ S (i + 1 + S (i + 1)) = 0
            · rw [if_pos c3] at hs; omega
            · rw [if_neg c3] at hs
              by_cases y : j < i + 1 + S (i + 1)
              · exact n1 j (by omega) y
              · exact ih (L - (i + 1 + S (i + 1))).toNat (by omega) (i + 1 + S (i + 1)) (by omega) (by omega) (by omega) (by omega) j (by omega) (by omega)
theorem sv_c {rk : Int → Int} {L : Int} {nm S S' : Int → Int} {i : Int} (h : ∀ j, i < j → j < L → S' j = S j) (hr : ∀ j, i < j → j < L → 0 ≤ S j) : sv rk L nm S' i = sv rk L nm S i := by
  unfold sv
  by_cases c0 : rk (nm i) ≤ 0
  · rw [if_pos c0, if_pos c0]
  · rw [if_neg c0, if_neg c0]
    by_cases l1 : L ≤ i + 1
    · rw [if_pos (Or.inl l1), if_pos (Or.inl l1)]
    · rw [h (i + 1) (by omega) (by omega)]
      by_cases c1 : L ≤ i + 1 ∨ S (i + 1) = 0
      · rw [if_pos c1, if_pos c1]
      · rw [if_neg c1, if_neg c1]
        by_cases c2 : rk (nm i) ≤ 1
        · rw [if_pos c2, if_pos c2]
        · rw [if_neg c2, if_neg c2]
          by_cases l2 : L ≤ i + 1 + S (i + 1)
          · rw [if_pos (Or.inl l2), if_pos (Or.inl l2)]
          · have := hr (i + 1) (by omega) (by omega)
            rw [h (i + 1 + S (i + 1)) (by omega) (by omega)]
theorem spanFrom_ok {M : Mem} {i : Int} (hB : SB M) (hg : SgOk M) (hL : 0 ≤ M.1 3 4 ∧ M.1 3 4 ≤ 120) (i0 : 0 ≤ i) (i1 : i < M.1 3 4) (hS : SPN (rkC M) (M.1 3 4) (i + 1) (M.1 4) (M.1 5)) : D_Row_spanFrom 3 i M = some (sv (rkC M) (M.1 3 4) (M.1 4) (M.1 5) i, M) := by
  have rg := hg.rk (M.1 4 i)
  have rko := rankOf_ok hB.s_ hg.2.1 (M.1 4 i)
  have i12 : i < 120 := by omega
  have e1 : wr (i + 1) = i + 1 := wr_eq (by omega) (by omega)
  obtain ⟨fu, efu⟩ : ∃ fu, FU = fu + 1 + 1 + 1 := ⟨99997, FU_eq⟩
  unfold D_Row_spanFrom
  simp [-Option.bind_some, -Option.bind_none, gf, pf, rd, wt, ck, ln, lt, bz, nq, up_1, up_2, obs, obn, e1, hB.r_, i0, i12, hB.s_, rko]
  rw [efu, L_Row_spanFrom_18]
  dsimp only
  unfold sv
  have w1 : wr (i + 1 - i) = 1 := by rw [show i + 1 - i = 1 by omega]; exact wr_eq (by decide) (by decide)
  by_cases c0 : rkC M (M.1 4 i) ≤ 0
  · rw [if_pos c0, if_pos c0, w1]
  · rw [if_neg c0, if_neg c0]
    by_cases l1 : M.1 3 4 ≤ i + 1
    · rw [if_pos (Or.inl l1)]
      simp [-Option.bind_some, -Option.bind_none, gf, pf, rd, wt, ck, ln, lt, bz, nq, up_1, up_2, obs, obn, hB.r_, l1]
    · have a0 : 0 ≤ i + 1 := by omega
      have a1 : i + 1 < 120 := by omega
      by_cases z1 : M.1 5 (i + 1) = 0
      · rw [if_pos (Or.inr z1)]
        simp [-Option.bind_some, -Option.bind_none, gf, pf, rd, wt, ck, ln, lt, bz, nq, up_1, up_2, obs, obn, hB.r_, l1, a0, a1, z1]
      · rw [if_neg (by omega)]
        have r1 := hS.b a0 (i := i + 1) (by omega) (by omega)
        have e2 : wr (i + 1 + M.1 5 (i + 1)) = i + 1 + M.1 5 (i + 1) := wr_eq (by omega) (by omega)
        have e3 : wr (rkC M (M.1 4 i) + (-1)) = rkC M (M.1 4 i) - 1 := wr_eq (by omega) (by omega)
        have w2 : wr (i + 1 + M.1 5 (i + 1) - i) = 1 + M.1 5 (i + 1) := by rw [wr_eq (by omega) (by omega)]; omega
        simp [-Option.bind_some, -Option.bind_none, gf, pf, rd, wt, ck, ln, lt, bz, nq, up_1, up_2, obs, obn, hB.r_, l1, a0, a1, z1, e2, e3]
        rw [L_Row_spanFrom_18]
        dsimp only
        by_cases c2 : rkC M (M.1 4 i) ≤ 1
        · rw [if_pos (show rkC M (M.1 4 i) - 1 ≤ 0 by omega), w2, if_pos c2]
        · rw [if_neg (show ¬ rkC M (M.1 4 i) - 1 ≤ 0 by omega), if_neg c2]
          by_cases l2 : M.1 3 4 ≤ i + 1 + M.1 5 (i + 1)
          · rw [if_pos (Or.inl l2)]
            simp [-Option.bind_some, -Option.bind_none, gf, pf, rd, wt, ck, ln, lt, bz, nq, up_1, up_2, obs, obn, hB.r_, l2]
          · have b0 : 0 ≤ i + 1 + M.1 5 (i + 1) := by omega
            have b1 : i + 1 + M.1 5 (i + 1) < 120 := by omega
            by_cases z2 : M.1 5 (i + 1 + M.1 5 (i + 1)) = 0
            · rw [if_pos (Or.inr z2)]
              simp [-Option.bind_some, -Option.bind_none, gf, pf, rd, wt, ck, ln, lt, bz, nq, up_1, up_2, obs, obn, hB.r_, l2, b0, b1, z2]
            · rw [if_neg (by omega)]
              have r2 := hS.b a0 (i := i + 1 + M.1 5 (i + 1)) (by omega) (by omega)
              have e4 : wr (i + 1 + M.1 5 (i + 1) + M.1 5 (i + 1 + M.1 5 (i + 1))) = i + 1 + M.1 5 (i + 1) + M.1 5 (i + 1 + M.1 5 (i + 1)) := wr_eq (by omega) (by omega)
              have e5 : wr (rkC M (M.1 4 i) - 1 + (-1)) = rkC M (M.1 4 i) - 1 + (-1) := wr_eq (by omega) (by omega)
              have w3 : wr (i + 1 + M.1 5 (i + 1) + M.1 5 (i + 1 + M.1 5 (i + 1)) - i) = 1 + M.1 5 (i + 1) + M.1 5 (i + 1 + M.1 5 (i + 1)) := by rw [wr_eq (by omega) (by omega)]; omega
              simp [-Option.bind_some, -Option.bind_none, gf, pf, rd, wt, ck, ln, lt, bz, nq, up_1, up_2, obs, obn, hB.r_, l2, b0, b1, z2, e4]
              rw [e5, L_Row_spanFrom_18]
              dsimp only
              rw [if_pos (by omega), w3]
/-- the class has looked whether the row is a tree -/
def ITP (M : Mem) (r : Int) (M' : Mem) : Prop := M'.2 = M.2 ∧ (∀ a, a ≠ 5 → M'.1 a = M.1 a) ∧ SB M' ∧ SPN (rkC M) (M.1 3 4) 0 (M.1 4) (M'.1 5) ∧ ((r = 1 ∧ 0 < M.1 3 4 ∧ M'.1 5 0 = M.1 3 4) ∨ (r = 0 ∧ ¬ (0 < M.1 3 4 ∧ M'.1 5 0 = M.1 3 4)))
theorem isTree_lp {M : Mem} (hB : SB M) (hg : SgOk M) (hL : 0 ≤ M.1 3 4 ∧ M.1 3 4 ≤ 120) (P : Option (Int × Mem) → Prop) (k : Mem → Option (Int × Mem)) (h2 : ∀ M', M'.2 = M.2 → (∀ a, a ≠ 5 → M'.1 a = M.1 a) → SB M' → SPN (rkC M) (M.1 3 4) 0 (M.1 4) (M'.1 5) → P (k M')) : P (L_Row_isTree_7 k 3 FU (M.1 3 4 - 1) M) := by
  refine lq1 (n := FU) (a := M.1 3 4 - 1) (M := M) (fun n v M' => L_Row_isTree_7 k 3 n v M') (fun v M' => -1 ≤ v ∧ v < M.1 3 4 ∧ M'.2 = M.2 ∧ (∀ a, a ≠ 5 → M'.1 a = M.1 a) ∧ SPN (rkC M) (M.1 3 4) (v + 1) (M.1 4) (M'.1 5)) (fun v => (v + 1).toNat) P ?_ ⟨by omega, by omega, rfl, fun _ _ => rfl, fun i a b => by omega⟩ (by have := FU_eq; omega)
  intro n v M' ⟨v0, v1, s2, o2, hS⟩ ih
  show P (L_Row_isTree_7 k 3 (n + 1) v M')
  have hB' : SB M' := SB_c hB s2 (fun a k s => by rw [o2 a (by unfold stp at s; omega)])
  have c3 : M'.1 3 = M.1 3 := o2 3 (by decide)
  have c4 : M'.1 4 = M.1 4 := o2 4 (by decide)
  have ek : rkC M' = rkC M := rk_c (o2 1 (by decide)) (o2 2 (by decide))
  rw [L_Row_isTree_7]
  by_cases q : v < 0
  · have e : v + 1 = 0 := by omega
    rw [e] at hS
    simp [-Option.bind_some, -Option.bind_none, gf, pf, rd, wt, ck, ln, lt, bz, nq, up_1, up_2, obs, obn, q]
    exact h2 M' s2 o2 hB' hS
  · have v00 : 0 ≤ v := by omega
    have v12 : v < 120 := by omega
    have e1 : wr (v + (-1)) = v - 1 := wr_eq (by omega) (by omega)
    have hg' : SgOk M' := by
      unfold SgOk
      rw [o2 1 (by decide), o2 2 (by decide)]
      exact hg
    have sf := spanFrom_ok (i := v) hB' hg' (by rw [c3]; exact hL) v00 (by rw [c3]; exact v1) (by rw [ek, c3, c4]; exact hS)
    rw [ek, c3, c4] at sf
    generalize hw : sv (rkC M) (M.1 3 4) (M.1 4) (M'.1 5) v = w at *
    have e1' : wr (v - 1) = v - 1 := wr_eq (by omega) (by omega)
    simp [-Option.bind_some, -Option.bind_none, gf, pf, rd, wt, ck, ln, lt, bz, nq, up_1, up_2, obs, obn, q, hB'.r_, sf, v00, v12]
    rw [e1]
    refine ih (v - 1) _ ⟨by omega, by omega, by rw [up_2]; exact s2, fun a z => by rw [up_n z]; exact o2 a z, fun i a b => ?_⟩ (by omega)
    have hr : ∀ j, v < j → j < M.1 3 4 → 0 ≤ M'.1 5 j := fun j a b => (hS.b (by omega) (i := j) (by omega) b).1
    have c5 : (up M' 5 v w).1 5 = ud (M'.1 5) v w := by rw [up_f, if_pos rfl]
    rw [c5]
    by_cases z : i = v
    · rw [z, ud_s, ← hw]
      exact (sv_c (fun j a b => ud_n (by omega)) hr).symm
    · rw [ud_n z, hS i (by omega) b]
      exact (sv_c (fun j a b => ud_n (by omega)) (fun j a b => hr j (by omega) b)).symm
theorem isTree_c {M : Mem} (hB : SB M) (hg : SgOk M) (hL : 0 ≤ M.1 3 4 ∧ M.1 3 4 ≤ 120) : OkV (D_Row_isTree 3 M) (fun r M' => ITP M r M') := by
  have e0 : wr (M.1 3 4 - 1) = M.1 3 4 - 1 := wr_eq (by omega) (by omega)
  have g4 : gf M 3 4 5 4 = some (M.1 3 4) := by simp [gf, hB.r_]
  unfold D_Row_isTree
  rw [g4, obs]
  unfold lt
  rw [e0]
  refine isTree_lp hB hg hL (fun o => OkV o (fun r M' => ITP M r M')) _ (fun M' s2 o2 hB' hS => ?_)
  have l4 : M'.1 3 4 = M.1 3 4 := by rw [o2 3 (by decide)]
  by_cases l : M.1 3 4 ≤ 0
  · simp [-Option.bind_some, -Option.bind_none, gf, pf, rd, wt, ck, ln, lt, bz, nq, up_1, up_2, obs, obn, hB'.r_, l4, l]
    exact OkV.i ⟨s2, o2, hB', hS, Or.inr ⟨rfl, by omega⟩⟩
  · by_cases z : M'.1 5 0 = M.1 3 4
    · simp [-Option.bind_some, -Option.bind_none, gf, pf, rd, wt, ck, ln, lt, bz, nq, up_1, up_2, obs, obn, hB'.r_, l4, l, z]
      exact OkV.i ⟨s2, o2, hB', hS, Or.inl ⟨rfl, by omega, z⟩⟩
    · simp [-Option.bind_some, -Option.bind_none, gf, pf, rd, wt, ck, ln, lt, bz, nq, up_1, up_2, obs, obn, hB'.r_, l4, l, z]
      exact OkV.i ⟨s2, o2, hB', hS, Or.inr ⟨rfl, fun w => z w.2⟩⟩
/-! the reference: a pile of trees -/
def Ch (S pile : Int → Int) (L : Int) : Nat → Int → Prop
  | 0, q => q = L
  | t + 1, q => q < L ∧ 1 ≤ S q ∧ pile t = S q ∧ Ch S pile L t (q + S q)
theorem Ch_s (S pile : Int → Int) (L : Int) (t : Nat) (q : Int) : Ch S pile L (t + 1) q = (q < L ∧ 1 ≤ S q ∧ pile t = S q ∧ Ch S pile L t (q + S q)) := rfl
theorem Ch.c {S pile pile' : Int → Int} {L : Int} : ∀ {t : Nat} {q : Int}, Ch S pile L t q → (∀ j : Nat, j < t → pile' j = pile j) → Ch S pile' L t q := by
  intro t
  induction t with
  | zero => intro q h _; exact h
  | succ t ih =>
    intro q h e
    rw [Ch_s] at h ⊢
    exact ⟨h.1, h.2.1, by rw [e t (by omega)]; exact h.2.2.1, ih h.2.2.2 (fun j hj => e j (by omega))⟩
theorem Ch.le {S pile : Int → Int} {L : Int} : ∀ {t : Nat} {q : Int}, Ch S pile L t q → q + t ≤ L := by
  intro t
  induction t with
  | zero => intro q h; have : q = L := h; omega
  | succ t ih =>
    intro q h
    rw [Ch_s] at h
    have := ih h.2.2.2
    omega
