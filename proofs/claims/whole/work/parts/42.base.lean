/-! small rows for the pure functions -/
theorem up_1 (M : Mem) (a k v a' k' : Int) : (up M a k v).1 a' k' = if a' = a ∧ k' = k then v else M.1 a' k' := Eq.trans rfl rfl
theorem up_2 (M : Mem) (a k v : Int) : (up M a k v).2 = M.2 := Eq.trans rfl rfl
theorem obs {α β : Type} (a : α) (f : α → Option β) : (some a).bind f = f a := Eq.trans rfl rfl
theorem obn {α β : Type} (f : α → Option β) : (none : Option α).bind f = none := Eq.trans rfl rfl
theorem wr_eq {z : Int} (h1 : -2147483648 ≤ z) (h2 : z < 2147483648) : wr z = z := wr_of ⟨h1, h2⟩
theorem wl_eq {z : Int} (h1 : -9223372036854775808 ≤ z) (h2 : z < 9223372036854775808) : wl z = z := wl_of ⟨h1, h2⟩

theorem lc_lt {x y : Int} : lc x y < 0 ↔ x < y := by unfold lc; split <;> (try split) <;> omega
theorem lc_le {x y : Int} : lc x y ≤ 0 ↔ x ≤ y := by unfold lc; split <;> (try split) <;> omega
theorem lc_gt {x y : Int} : 0 < lc x y ↔ y < x := by unfold lc; split <;> (try split) <;> omega
theorem lc_ge {x y : Int} : 0 ≤ lc x y ↔ y ≤ x := by unfold lc; split <;> (try split) <;> omega
theorem lc_eq {x y : Int} : lc x y = 0 ↔ x = y := by unfold lc; split <;> (try split) <;> omega
/-- the loop rule: an invariant and a measure that falls -/
theorem lp {σ R : Type} (F : Nat → σ → Option R) (I : σ → Prop) (μ : σ → Nat) (P : Option R → Prop) (hs : ∀ n s, I s → (∀ s', I s' → μ s' < μ s → P (F n s')) → P (F (n + 1) s)) : ∀ n s, I s → μ s < n → P (F n s) := by
  intro n
  induction n with
  | zero => intro s _ h; omega
  | succ n ih => intro s hI hμ; exact hs n s hI (fun s' h1 h2 => ih s' h1 (by omega))
theorem lq1 {R : Type} (F : Nat → Int → Mem → Option R) (I : Int → Mem → Prop) (μ : Int → Nat) (P : Option R → Prop) (hs : ∀ n a M, I a M → (∀ a' M', I a' M' → μ a' < μ a → P (F n a' M')) → P (F (n + 1) a M)) {n : Nat} {a : Int} {M : Mem} (hI : I a M) (hn : μ a < n) : P (F n a M) :=
  lp (fun n (s : Int × Mem) => F n s.1 s.2) (fun s => I s.1 s.2) (fun s => μ s.1) P (fun n s h ih => hs n s.1 s.2 h (fun a' M' h' h2 => ih (a', M') h' h2)) n (a, M) hI hn
theorem lq2 {R : Type} (F : Nat → Int → Int → Mem → Option R) (I : Int → Int → Mem → Prop) (μ : Int → Int → Nat) (P : Option R → Prop) (hs : ∀ n a b M, I a b M → (∀ a' b' M', I a' b' M' → μ a' b' < μ a b → P (F n a' b' M')) → P (F (n + 1) a b M)) {n : Nat} {a b : Int} {M : Mem} (hI : I a b M) (hn : μ a b < n) : P (F n a b M) :=
  lp (fun n (s : Int × Int × Mem) => F n s.1 s.2.1 s.2.2) (fun s => I s.1 s.2.1 s.2.2) (fun s => μ s.1 s.2.1) P (fun n s h ih => hs n s.1 s.2.1 s.2.2 h (fun a' b' M' h' h2 => ih (a', b', M') h' h2)) n (a, b, M) hI hn
theorem lq3 {R : Type} (F : Nat → Int → Int → Int → Mem → Option R) (I : Int → Int → Int → Mem → Prop) (μ : Int → Int → Int → Nat) (P : Option R → Prop) (hs : ∀ n a b c M, I a b c M → (∀ a' b' c' M', I a' b' c' M' → μ a' b' c' < μ a b c → P (F n a' b' c' M')) → P (F (n + 1) a b c M)) {n : Nat} {a b c : Int} {M : Mem} (hI : I a b c M) (hn : μ a b c < n) : P (F n a b c M) :=
  lp (fun n (s : Int × Int × Int × Mem) => F n s.1 s.2.1 s.2.2.1 s.2.2.2) (fun s => I s.1 s.2.1 s.2.2.1 s.2.2.2) (fun s => μ s.1 s.2.1 s.2.2.1) P (fun n s h ih => hs n s.1 s.2.1 s.2.2.1 s.2.2.2 h (fun a' b' c' M' h' h2 => ih (a', b', c', M') h' h2)) n (a, b, c, M) hI hn
/-- a counter from v up to hi -/
theorem lpU {R : Type} (F : Nat → Int → Mem → Option R) (I : Int → Mem → Prop) (hi : Int) (P : Option R → Prop) (hs : ∀ n v M, I v M → v < hi → (∀ M', I (v + 1) M' → P (F n (v + 1) M')) → P (F (n + 1) v M)) (hx : ∀ n v M, I v M → hi ≤ v → P (F (n + 1) v M)) {n : Nat} {v : Int} {M : Mem} (hI : I v M) (hn : hi - v < n) (h0 : 0 < n) : P (F n v M) := by
  refine lp (fun n (s : Int × Mem) => F n s.1 s.2) (fun s => I s.1 s.2) (fun s => (hi - s.1).toNat) P ?_ n (v, M) hI (by show (hi - v).toNat < n; omega)
  intro n s hI ih
  by_cases h : s.1 < hi
  · exact hs n s.1 s.2 hI h (fun M' h' => ih (s.1 + 1, M') h' (by show (hi - (s.1 + 1)).toNat < (hi - s.1).toNat; omega))
  · exact hx n s.1 s.2 hI (by omega)
/-- cell a is now f -/
def sc (M : Mem) (a : Int) (f : Int → Int) : Mem := (fun a' i => if a' = a then f i else M.1 a' i, M.2)
theorem sc_1 (M : Mem) (a : Int) (f : Int → Int) (a' k' : Int) : (sc M a f).1 a' k' = if a' = a then f k' else M.1 a' k' := Eq.trans rfl rfl
theorem sc_2 (M : Mem) (a : Int) (f : Int → Int) : (sc M a f).2 = M.2 := Eq.trans rfl rfl
theorem up_sc (M : Mem) (a k v : Int) : up M a k v = sc M a (fun i => if i = k then v else M.1 a i) := by
  unfold up sc
  congr 1
  funext a' k'
  by_cases h : a' = a
  · subst h; simp
  · simp [h]
theorem sc_sc (M : Mem) (a : Int) (f g : Int → Int) : sc (sc M a f) a g = sc M a g := by
  unfold sc
  congr 1
  funext a' k'
  by_cases h : a' = a <;> simp [h]
theorem sc_up (M : Mem) (a k v : Int) (f : Int → Int) : up (sc M a f) a k v = sc M a (fun i => if i = k then v else f i) := by
  rw [up_sc, sc_sc]
  congr 1
  funext i
  simp [sc]
theorem sc_id (M : Mem) (a : Int) : sc M a (M.1 a) = M := by
  unfold sc
  obtain ⟨c, s⟩ := M
  congr 1
  funext a' k'
  by_cases h : a' = a <;> simp [h]
theorem is2 {α : Type} {c : Prop} [Decidable c] {a b : α} : (if c then some a else some b) = some (if c then a else b) := by split <;> rfl
theorem ip2 {α : Type} {c : Prop} [Decidable c] {a b : α} {M : Mem} : (if c then (a, M) else (b, M)) = ((if c then a else b), M) := by split <;> rfl
/-! signs -/
def rkC (M : Mem) (s : Int) : Int := if 0 ≤ s ∧ s < M.1 1 1 then M.1 2 s else 0
theorem knows_ok {M : Mem} (h : SBS M) (s : Int) : D_Signs_knows 1 s M = some (if 0 ≤ s ∧ s < M.1 1 1 then 1 else 0, M) := by
  simp [-Option.bind_some, -Option.bind_none, gf, pf, rd, wt, ck, ln, lt, bz, nq, up_1, up_2, obs, obn, D_Signs_knows, h]
  by_cases h1 : s < 0
  · have : ¬ 0 ≤ s := by omega
    simp [h1, this]
  · have : 0 ≤ s := by omega
    by_cases h2 : M.1 1 1 ≤ s
    · have : ¬ s < M.1 1 1 := by omega
      simp [h1, h2, this]
    · have : s < M.1 1 1 := by omega
      simp [h1, h2, this]
theorem rankOf_ok {M : Mem} (h : SBS M) (hk : M.1 1 1 ≤ 6) (s : Int) : D_Signs_rankOf 1 s M = some (rkC M s, M) := by
  simp [-Option.bind_some, -Option.bind_none, gf, pf, rd, wt, ck, ln, lt, bz, nq, up_1, up_2, obs, obn, D_Signs_rankOf, rkC, h]
  by_cases h1 : s < 0
  · have : ¬ 0 ≤ s := by omega
    simp [h1, this]
  · have h0 : 0 ≤ s := by omega
    by_cases h2 : M.1 1 1 ≤ s
    · have : ¬ s < M.1 1 1 := by omega
      simp [h1, h2, this]
    · have h3 : s < M.1 1 1 := by omega
      have h4 : s < 6 := by omega
      simp [h1, h2, h3, h0, h4]
theorem choices_ok {M : Mem} (h : SBS M) (hk : M.1 1 1 ≤ 6) (s p a : Int) : D_Signs_choices 1 s p a M = some (if p < rkC M s then a else 1, M) := by
  simp [-Option.bind_some, -Option.bind_none, gf, pf, rd, wt, ck, ln, lt, bz, nq, up_1, up_2, obs, obn, D_Signs_choices, rankOf_ok h hk, h]
  by_cases h1 : rkC M s ≤ p
  · have : ¬ p < rkC M s := by omega
    simp [h1, this]
  · have : p < rkC M s := by omega
    simp [h1, this]
/-- where a table of width w has a sign and the numbers of its parts -/
def cel (r s x y w : Int) : Int := (s * w + (if 0 < r then x else 0)) * w + (if 1 < r then y else 0)
theorem cell_ok {M : Mem} (h : SBS M) (hk : M.1 1 1 ≤ 6) {s x y w : Int} (hs : 0 ≤ s ∧ s < 6) (hw : 0 ≤ w ∧ w ≤ 12) (hx : 0 < rkC M s → 0 ≤ x ∧ x < 20) (hy : 1 < rkC M s → 0 ≤ y ∧ y < 20) : D_Signs_cell 1 s x y w M = some (cel (rkC M s) s x y w, M) := by
  simp [-Option.bind_some, -Option.bind_none, gf, pf, rd, wt, ck, ln, lt, bz, nq, up_1, up_2, obs, obn, D_Signs_cell, rankOf_ok h hk, h]
  have e1 : (if rkC M s ≤ 0 then some 0 else some x) = some (if 0 < rkC M s then x else 0) := by
    by_cases q : rkC M s ≤ 0
    · rw [if_pos q, if_neg (by omega)]
    · rw [if_neg q, if_pos (by omega)]
  have e2 : (if rkC M s ≤ 1 then some 0 else some y) = some (if 1 < rkC M s then y else 0) := by
    by_cases q : rkC M s ≤ 1
    · rw [if_pos q, if_neg (by omega)]
    · rw [if_neg q, if_pos (by omega)]
  rw [e1, e2]
  have b1 : 0 ≤ (if 0 < rkC M s then x else 0) ∧ (if 0 < rkC M s then x else 0) < 20 := by
    split
    · exact hx (by assumption)
    · decide
  have b2 : 0 ≤ (if 1 < rkC M s then y else 0) ∧ (if 1 < rkC M s then y else 0) < 20 := by
    split
    · exact hy (by assumption)
    · decide
  unfold cel
  generalize (if 0 < rkC M s then x else 0) = x' at b1 ⊢
  generalize (if 1 < rkC M s then y else 0) = y' at b2 ⊢
  have c1 : 0 ≤ s * w ∧ s * w ≤ 5 * 12 := ⟨Int.mul_nonneg hs.1 hw.1, Int.mul_le_mul (by omega) hw.2 hw.1 (by omega)⟩
  have c2 : 0 ≤ (s * w + x') * w ∧ (s * w + x') * w ≤ 80 * 12 := ⟨Int.mul_nonneg (by omega) hw.1, Int.mul_le_mul (by omega) hw.2 hw.1 (by omega)⟩
  simp only [obs]
  rw [wr_eq (z := s * w) (by omega) (by omega), wr_eq (z := s * w + x') (by omega) (by omega), wr_eq (z := (s * w + x') * w) (by omega) (by omega), wr_eq (by omega) (by omega)]
/-! filling an array -/
theorem fill_ok {M : Mem} {a : Int} {n : Nat} (h : M.2.1 a = (10, n)) (hn : n < 90000) (v : Int) : D_Arr_fill_IIV a v M = some (sc M a (fun i => if 0 ≤ i ∧ i < n then v else M.1 a i)) := by
  simp [-Option.bind_some, -Option.bind_none, gf, pf, rd, wt, ck, ln, lt, bz, nq, up_1, up_2, obs, obn, D_Arr_fill_IIV, h]
  refine lpU (fun n' i M' => L_Arr_fill_IIV_5 (fun m5 => some m5) a v n n' i M') (fun i M' => 0 ≤ i ∧ i ≤ n ∧ M' = sc M a (fun j => if 0 ≤ j ∧ j < i then v else M.1 a j)) n (fun o => o = some (sc M a (fun i => if 0 ≤ i ∧ i < n then v else M.1 a i))) ?_ ?_ ?_ ?_ ?_
  · intro n' i M' ⟨h0, h1, hM⟩ hlt ih
    subst hM
    show L_Arr_fill_IIV_5 _ _ _ _ (n' + 1) i _ = _
    rw [L_Arr_fill_IIV_5]
    simp [-Option.bind_some, -Option.bind_none, gf, pf, rd, wt, ck, ln, lt, bz, nq, up_1, up_2, obs, obn, sc_2, h]
    have : ¬ (n : Int) ≤ i := by omega
    simp [this, h0, hlt]
    rw [wr_eq (by omega) (by omega)]
    refine ih _ ⟨by omega, by omega, ?_⟩
    rw [sc_up]
    congr 1
    funext j
    by_cases hj : j = i
    · subst hj; simp [h0]; omega
    · by_cases h2 : 0 ≤ j ∧ j < i
      · rw [if_neg hj, if_pos h2, if_pos (by omega)]
      · rw [if_neg hj, if_neg h2, if_neg (by omega)]
  · intro n' i M' ⟨h0, h1, hM⟩ hge
    subst hM
    show L_Arr_fill_IIV_5 _ _ _ _ (n' + 1) i _ = _
    simp only [L_Arr_fill_IIV_5, hge, if_true]
    rw [show i = n by omega]
  · refine ⟨by omega, by omega, ?_⟩
    have : (fun j => if 0 ≤ j ∧ j < 0 then v else M.1 a j) = M.1 a := by
      funext j
      rw [if_neg (by omega)]
    rw [this, sc_id]
  · have := FU_eq; omega
  · have := FU_eq; omega
