/-! first trees -/
/-- a row of numbers, written from l on -/
def wq (f : Int → Int) (l : Int) : List Int → Int → Int
  | [] => f
  | x :: xs => wq (ud f l x) (l + 1) xs
def ln' (xs : List Int) : Int := (xs.length : Int)
theorem ln'_0 : ln' [] = 0 := rfl
theorem ln'_s (x : Int) (xs : List Int) : ln' (x :: xs) = 1 + ln' xs := by unfold ln'; rw [List.length_cons]; omega
theorem ln'_a (xs ys : List Int) : ln' (xs ++ ys) = ln' xs + ln' ys := by unfold ln'; rw [List.length_append]; omega
theorem ln'_nn (xs : List Int) : 0 ≤ ln' xs := by unfold ln'; omega
theorem wq_a (xs ys : List Int) : ∀ (f : Int → Int) (l : Int), wq f l (xs ++ ys) = wq (wq f l xs) (l + ln' xs) ys := by
  induction xs with
  | nil => intro f l; rw [List.nil_append, ln'_0, show l + 0 = l by omega]; rfl
  | cons x xs ih =>
    intro f l
    rw [List.cons_append]
    show wq (ud f l x) (l + 1) (xs ++ ys) = wq (wq (ud f l x) (l + 1) xs) (l + ln' (x :: xs)) ys
    rw [ih, ln'_s, show l + 1 + ln' xs = l + (1 + ln' xs) by omega]
theorem wq_lo (xs : List Int) : ∀ (f : Int → Int) (l i : Int), i < l → wq f l xs i = f i := by
  induction xs with
  | nil => intro f l i _; rfl
  | cons x xs ih =>
    intro f l i h
    show wq (ud f l x) (l + 1) xs i = f i
    rw [ih _ _ _ (by omega), ud_n (by omega)]
theorem wq_in (xs : List Int) : ∀ (f g : Int → Int) (l i : Int), l ≤ i → i < l + ln' xs → wq f l xs i = wq g l xs i ∧ wq f l xs i ∈ xs := by
  induction xs with
  | nil => intro f g l i a b; rw [ln'_0] at b; omega
  | cons x xs ih =>
    intro f g l i a b
    rw [ln'_s] at b
    show wq (ud f l x) (l + 1) xs i = wq (ud g l x) (l + 1) xs i ∧ wq (ud f l x) (l + 1) xs i ∈ x :: xs
    by_cases q : i = l
    · rw [q, wq_lo _ _ _ _ (by omega), wq_lo _ _ _ _ (by omega), ud_s, ud_s]
      exact ⟨rfl, List.mem_cons_self⟩
    · have := ih (ud f l x) (ud g l x) (l + 1) i (by omega) (by omega)
      exact ⟨this.1, List.mem_cons_of_mem _ this.2⟩
/-- the first tree of a class -/
def fst_ (rk : Int → Int) (m : Mch) : Nat → Int → List Int
  | 0, _ => []
  | d + 1, c => mH m c :: ((if 1 ≤ rk (mH m c) then fst_ rk m d (m1 m c) else []) ++ (if 2 ≤ rk (mH m c) then fst_ rk m d (m2 m c) else []))
theorem fst_s (rk : Int → Int) (m : Mch) (d : Nat) (c : Int) : fst_ rk m (d + 1) c = mH m c :: ((if 1 ≤ rk (mH m c) then fst_ rk m d (m1 m c) else []) ++ (if 2 ≤ rk (mH m c) then fst_ rk m d (m2 m c) else [])) := rfl
/-- the parts come before -/
def HD (n : Int) (rk : Int → Int) (m : Mch) : Prop := ∀ c, 0 ≤ c → c < mN m → (0 ≤ mH m c ∧ mH m c < n) ∧ (1 ≤ rk (mH m c) → 0 ≤ m1 m c ∧ m1 m c < c) ∧ (2 ≤ rk (mH m c) → 0 ≤ m2 m c ∧ m2 m c < c)
theorem Num.hd {n : Int} {rk : Int → Int} {m : Mch} (h : Num n rk m) : HD n rk m := fun c a b => ⟨(h c a b).1, fun q => (h c a b).2.1.1 q, fun q => (h c a b).2.1.2.2.1 q⟩
theorem fst_st {n : Int} {rk : Int → Int} {m : Mch} (h : HD n rk m) : ∀ (d d' : Nat) (c : Int), 0 ≤ c → c < mN m → c < d → c < d' → fst_ rk m d c = fst_ rk m d' c := by
  intro d
  induction d with
  | zero => intro d' c a b q; omega
  | succ d ih =>
    intro d' c a b q q'
    cases d' with
    | zero => omega
    | succ d' =>
      have hc := h c a b
      rw [fst_s, fst_s]
      congr 1
      congr 1
      · by_cases w : 1 ≤ rk (mH m c)
        · rw [if_pos w, if_pos w]
          have := hc.2.1 w
          exact ih d' _ this.1 (by omega) (by omega) (by omega)
        · rw [if_neg w, if_neg w]
      · by_cases w : 2 ≤ rk (mH m c)
        · rw [if_pos w, if_pos w]
          have := hc.2.2 w
          exact ih d' _ this.1 (by omega) (by omega) (by omega)
        · rw [if_neg w, if_neg w]
theorem fst_q {n : Int} {rk : Int → Int} {m m' : Mch} (h : HD n rk m) (e : Eqm n rk m m') : ∀ (d : Nat) (c : Int), 0 ≤ c → c < mN m → fst_ rk m' d c = fst_ rk m d c := by
  intro d
  induction d with
  | zero => intro c a b; rfl
  | succ d ih =>
    intro c a b
    have hc := h c a b
    have ec := e.2.1 c a b
    rw [fst_s, fst_s, ← ec.2.1, ← ec.2.2.1, ← ec.2.2.2.1]
    congr 1
    congr 1
    · by_cases w : 1 ≤ rk (mH m c)
      · rw [if_pos w, if_pos w]
        have := hc.2.1 w
        exact ih _ this.1 (by omega)
      · rw [if_neg w, if_neg w]
    · by_cases w : 2 ≤ rk (mH m c)
      · rw [if_pos w, if_pos w]
        have := hc.2.2 w
        exact ih _ this.1 (by omega)
      · rw [if_neg w, if_neg w]
theorem fst_len (rk : Int → Int) (m : Mch) : ∀ (d : Nat) (c : Int), (fst_ rk m d c).length + 1 ≤ 2 ^ d := by
  intro d
  induction d with
  | zero => intro c; exact Nat.le_refl _
  | succ d ih =>
    intro c
    have a := ih (m1 m c)
    have b := ih (m2 m c)
    have p : 2 ^ (d + 1) = 2 ^ d * 2 := Nat.pow_succ 2 d
    rw [fst_s, List.length_cons, List.length_append, p]
    have l1 : (if 1 ≤ rk (mH m c) then fst_ rk m d (m1 m c) else []).length + 1 ≤ 2 ^ d := by
      by_cases w : 1 ≤ rk (mH m c)
      · rw [if_pos w]; exact a
      · rw [if_neg w]; have : ([] : List Int).length = 0 := rfl; omega
    have l2 : (if 2 ≤ rk (mH m c) then fst_ rk m d (m2 m c) else []).length + 1 ≤ 2 ^ d := by
      by_cases w : 2 ≤ rk (mH m c)
      · rw [if_pos w]; exact b
      · rw [if_neg w]; have : ([] : List Int).length = 0 := rfl; omega
    omega
theorem fst_63 (rk : Int → Int) (m : Mch) (c : Int) : ln' (fst_ rk m 6 c) ≤ 63 := by
  have := fst_len rk m 6 c
  unfold ln'
  have : (2 : Nat) ^ 6 = 64 := rfl
  omega
theorem fst_mem {n : Int} {rk : Int → Int} {m : Mch} (h : HD n rk m) : ∀ (d : Nat) (c : Int), 0 ≤ c → c < mN m → ∀ x, x ∈ fst_ rk m d c → 0 ≤ x ∧ x < n := by
  intro d
  induction d with
  | zero => intro c a b x hx; exact absurd hx List.not_mem_nil
  | succ d ih =>
    intro c a b x hx
    have hc := h c a b
    rw [fst_s] at hx
    rcases List.mem_cons.mp hx with e | hx
    · rw [e]; exact hc.1
    · rcases List.mem_append.mp hx with hx | hx
      · by_cases w : 1 ≤ rk (mH m c)
        · rw [if_pos w] at hx
          have := hc.2.1 w
          exact ih _ this.1 (by omega) x hx
        · rw [if_neg w] at hx; exact absurd hx List.not_mem_nil
      · by_cases w : 2 ≤ rk (mH m c)
        · rw [if_pos w] at hx
          have := hc.2.2 w
          exact ih _ this.1 (by omega) x hx
        · rw [if_neg w] at hx; exact absurd hx List.not_mem_nil
/-- numbers were added to the class's row -/
def ADD (T : List Int) (M M' : Mem) : Prop := M'.2 = M.2 ∧ (∀ a, a ≠ 3 → a ≠ 4 → M'.1 a = M.1 a) ∧ (∀ k, k ≠ 4 → M'.1 3 k = M.1 3 k) ∧ M'.1 4 = wq (M.1 4) (M.1 3 4) T ∧ M'.1 3 4 = M.1 3 4 + ln' T
theorem ADD.rf (M : Mem) : ADD [] M M := ⟨rfl, fun _ _ _ => rfl, fun _ _ => rfl, rfl, by rw [ln'_0]; omega⟩
theorem ADD.tr {T T' : List Int} {M M' M'' : Mem} (h : ADD T M M') (h' : ADD T' M' M'') : ADD (T ++ T') M M'' := by
  refine ⟨h'.1.trans h.1, fun a x y => (h'.2.1 a x y).trans (h.2.1 a x y), fun k x => (h'.2.2.1 k x).trans (h.2.2.1 k x), ?_, ?_⟩
  · rw [h'.2.2.2.1, h.2.2.2.1, h.2.2.2.2, wq_a]
  · rw [h'.2.2.2.2, h.2.2.2.2, ln'_a]; omega
theorem ADD.sb {T : List Int} {M M' : Mem} (h : ADD T M M') (hB : SB M) : SB M' := SB_c hB h.1 (fun a k s => by
  by_cases q : a = 3
  · subst q
    exact h.2.2.1 k (by unfold stp at s; omega)
  · rw [h.2.1 a q (by unfold stp at s; omega)])
theorem radd_ok {M : Mem} {x : Int} (hB : SB M) (l0 : 0 ≤ M.1 3 4) (l1 : M.1 3 4 < 120) : OkM (D_Row_add 3 x M) (fun M' => ADD [x] M M') := by
  have nl : ¬ 120 ≤ M.1 3 4 := by omega
  have ew : wr (M.1 3 4 + 1) = M.1 3 4 + 1 := wr_eq (by omega) (by omega)
  unfold D_Row_add
  simp [-Option.bind_some, -Option.bind_none, gf, pf, rd, wt, ck, ln, lt, bz, nq, up_1, up_2, obs, obn, hB.r_, nl, l0, l1, ew]
  refine ⟨_, rfl, by rw [up_2, up_2], fun a q r => by rw [up_n q, up_n r], fun k q => ?_, ?_, ?_⟩
  · rw [up_1, if_neg (fun z => q z.2), up_n (by decide)]
  · rw [up_n (by decide), up_f, if_pos rfl]; rfl
  · rw [up_1, if_pos ⟨rfl, rfl⟩]; rfl
theorem addFirst_ok {p : Int} : ∀ (d : Nat) {M : Mem} {c a n : Int} {N : Nat}, SB M → SgOk M → MOK M p → HD (M.1 1 1) (rkC M) (mch M p) → 0 ≤ c → c < M.1 p 10 → c < d → 0 ≤ a → a + d ≤ 6 → d ≤ N → 0 ≤ M.1 3 4 → M.1 3 4 + ln' (fst_ (rkC M) (mch M p) d c) ≤ 120 → OkM (D_Row_addFirstTree N 3 p c a M) (fun M' => ADD (fst_ (rkC M) (mch M p) d c) M M') := by
  intro d
  induction d with
  | zero => intro M c a n N _ _ _ _ c0 _ c1; omega
  | succ d ih =>
    intro M c a n N hB hg hM hH c0 c1 cd a0 ad dN l0 l1
    cases N with
    | zero => omega
    | succ N =>
    have ms := hM.1
    have k6 : 0 ≤ M.1 p 10 ∧ M.1 p 10 ≤ 6 := hM.2.2.1.1
    have hc := hasClass_ok (c := c) ms.1
    rw [if_pos ⟨c0, c1⟩] at hc
    have a6 : a < 6 := by clear ms; omega
    have c6 : c < 6 := by clear ms; omega
    have p100 := hM.2.1
    have hh := hH c c0 c1
    have ew : wr (a + 1) = a + 1 := wr_eq (by clear ms; omega) (by clear ms; omega)
    rw [fst_s, ln'_s, ln'_a] at l1
    have nn1 := ln'_nn (if 1 ≤ rkC M (mH (mch M p) c) then fst_ (rkC M) (mch M p) d (m1 (mch M p) c) else [])
    have nn2 := ln'_nn (if 2 ≤ rkC M (mH (mch M p) c) then fst_ (rkC M) (mch M p) d (m2 (mch M p) c) else [])
    have eH : mH (mch M p) c = M.1 (p + 2) c := rfl
    have e1 : m1 (mch M p) c = M.1 (p + 3) c := rfl
    have e2 : m2 (mch M p) c = M.1 (p + 4) c := rfl
    obtain ⟨M1, d1, A1⟩ := radd_ok (x := M.1 (p + 2) c) hB l0 (by clear ms; omega)
    have hB1 := A1.sb hB
    have s1 : M1.1 1 = M.1 1 := A1.2.1 1 (by decide) (by decide)
    have ek1 : rkC M1 = rkC M := rk_c s1 (A1.2.1 2 (by decide) (by decide))
    have hg1 : SgOk M1 := by unfold SgOk; rw [s1, A1.2.1 2 (by decide) (by decide)]; exact hg
    have L1 : M1.1 3 4 = M.1 3 4 + 1 := A1.2.2.2.2
    -- the same machine after additions
    have same : ∀ {T : List Int} {M' : Mem}, ADD T M M' → SB M' → M'.1 1 = M.1 1 ∧ rkC M' = rkC M ∧ SgOk M' ∧ MOK M' p ∧ mch M' p = mch M p := by
      intro T M' A' hB'
      have s : M'.1 1 = M.1 1 := A'.2.1 1 (by decide) (by decide)
      have s2 : M'.1 2 = M.1 2 := A'.2.1 2 (by decide) (by decide)
      have ek : rkC M' = rkC M := rk_c s s2
      exact ⟨s, ek, by unfold SgOk; rw [s, s2]; exact hg, hM.c (by rw [s]) ek (fun a a0 a1 => ⟨A'.2.1 a (by clear ms; omega) (by clear ms; omega), by rw [A'.1]⟩), mch_c ek (fun a a0 a1 => A'.2.1 a (by clear ms; omega) (by clear ms; omega))⟩
    have rko1 := rankOf_ok hB1.s_ (by rw [s1]; exact hg.2.1) (M.1 (p + 2) c)
    rw [ek1] at rko1
    have rg := hg.rk (M.1 (p + 2) c)
    rw [fst_s]
    show OkM (B_Row_addFirstTree (D_Row_addFirstTree N) 3 p c a M) _
    unfold B_Row_addFirstTree
    obtain ⟨-, -, -, mok1, em1⟩ := same A1 hB1
    have ms1 := mok1.1
    have q3 : M1.1 (p + 3) c = M.1 (p + 3) c := by rw [A1.2.1 _ (by clear ms ms1; omega) (by clear ms ms1; omega)]
    by_cases w1 : rkC M (M.1 (p + 2) c) ≤ 0
    · have z1 : ¬ 1 ≤ rkC M (mH (mch M p) c) := by rw [eH]; clear ms ms1; omega
      have z2 : ¬ 2 ≤ rkC M (mH (mch M p) c) := by rw [eH]; clear ms ms1; omega
      rw [if_neg z1, if_neg z2]
      have w2 : rkC M (M.1 (p + 2) c) ≤ 1 := by clear ms ms1; omega
      simp [-Option.bind_some, -Option.bind_none, gf, pf, rd, wt, ck, ln, lt, bz, nq, up_1, up_2, obs, obn, ms, hc, a6, c0, c6, hB.r_, d1, hB1.r_, hB1.s_, rko1, w1, w2]
      exact ⟨M1, rfl, A1⟩
    · have y1 : 1 ≤ rkC M (mH (mch M p) c) := by rw [eH]; clear ms ms1; omega
      rw [if_pos y1] at l1 nn1 ⊢
      have h1 := hh.2.1 y1
      rw [e1] at h1
      rw [e1] at l1
      obtain ⟨M2, d2, A2⟩ := ih (M := M1) (c := M.1 (p + 3) c) (a := a + 1) (n := 0) (N := N) hB1 hg1 mok1 (by rw [s1, ek1, em1]; exact hH) h1.1 (by rw [A1.2.1 _ (by clear ms ms1; omega) (by clear ms ms1; omega)]; clear ms ms1; omega) (by clear ms ms1; omega) (by clear ms ms1; omega) (by clear ms ms1; omega) (by clear ms ms1; omega) (by clear ms ms1; omega) (by rw [ek1, em1]; clear ms ms1; omega)
      rw [ek1, em1] at A2
      have A12 := A1.tr A2
      have hB2 := A2.sb hB1
      obtain ⟨s2, ek2, hg2, mok2, em2⟩ := same A12 hB2
      have ms2 := mok2.1
      have rko2 := rankOf_ok hB2.s_ (by rw [s2]; exact hg.2.1) (M.1 (p + 2) c)
      rw [ek2] at rko2
      by_cases w2 : rkC M (M.1 (p + 2) c) ≤ 1
      · have z2 : ¬ 2 ≤ rkC M (mH (mch M p) c) := by rw [eH]; clear ms ms1 ms2; omega
        rw [if_neg z2, List.append_nil]
        simp [-Option.bind_some, -Option.bind_none, gf, pf, rd, wt, ck, ln, lt, bz, nq, up_1, up_2, obs, obn, ms, hc, a6, c0, c6, hB.r_, d1, hB1.r_, hB1.s_, rko1, w1, ms1, q3, ew, d2, hB2.r_, hB2.s_, rko2, w2]
        exact ⟨M2, rfl, A12⟩
      · have y2 : 2 ≤ rkC M (mH (mch M p) c) := by rw [eH]; clear ms ms1 ms2; omega
        rw [if_pos y2] at l1 nn2 ⊢
        have h2 := hh.2.2 y2
        rw [e2] at h2
        rw [e2] at l1
        have q4 : M2.1 (p + 4) c = M.1 (p + 4) c := by rw [A12.2.1 _ (by clear ms ms1 ms2; omega) (by clear ms ms1 ms2; omega)]
        have L2 : M2.1 3 4 = M1.1 3 4 + ln' (fst_ (rkC M) (mch M p) d (M.1 (p + 3) c)) := A2.2.2.2.2
        obtain ⟨M3, d3, A3⟩ := ih (M := M2) (c := M.1 (p + 4) c) (a := a + 1) (n := 0) (N := N) hB2 hg2 mok2 (by rw [s2, ek2, em2]; exact hH) h2.1 (by rw [A12.2.1 _ (by clear ms ms1 ms2; omega) (by clear ms ms1 ms2; omega)]; clear ms ms1 ms2; omega) (by clear ms ms1 ms2; omega) (by clear ms ms1 ms2; omega) (by clear ms ms1 ms2; omega) (by clear ms ms1 ms2; omega) (by rw [e1] at nn1; clear ms ms1 ms2; omega) (by rw [ek2, em2]; clear ms ms1 ms2; omega)
        rw [ek2, em2] at A3
        simp [-Option.bind_some, -Option.bind_none, gf, pf, rd, wt, ck, ln, lt, bz, nq, up_1, up_2, obs, obn, ms, hc, a6, c0, c6, hB.r_, d1, hB1.r_, hB1.s_, rko1, w1, ms1, q3, ew, d2, hB2.r_, hB2.s_, rko2, w2, ms2, q4, d3]
        exact ⟨M3, rfl, by rw [show (mH (mch M p) c :: (fst_ (rkC M) (mch M p) d (m1 (mch M p) c) ++ fst_ (rkC M) (mch M p) d (m2 (mch M p) c))) = ([M.1 (p + 2) c] ++ fst_ (rkC M) (mch M p) d (M.1 (p + 3) c)) ++ fst_ (rkC M) (mch M p) d (M.1 (p + 4) c) from by rw [List.append_assoc]; rfl]; exact A12.tr A3⟩
