/-! the net: what signs make of sets -/
/-- the union of g 0 .. g (k-1) -/
def orN : Nat → (Int → Int) → Int
  | 0, _ => 0
  | k + 1, g => ior (orN k g) (g k)
theorem orN_ok {b : Nat} (hb : b ≤ 31) {g : Int → Int} : ∀ {k : Nat}, (∀ x : Int, 0 ≤ x → x < k → 0 ≤ g x ∧ g x < 2 ^ b) → (0 ≤ orN k g ∧ orN k g < 2 ^ b) ∧ ∀ q, bt (orN k g) q ↔ ∃ x : Int, 0 ≤ x ∧ x < k ∧ bt (g x) q := by
  intro k
  induction k with
  | zero =>
    intro _
    have hp : (0 : Int) < 2 ^ b := by rw [← p2i]; have := Nat.pow_pos (n := b) (show 0 < 2 by decide); omega
    exact ⟨⟨Int.le_refl 0, hp⟩, fun q => ⟨fun h => absurd h (bt_zero q), fun ⟨x, h0, h1, _⟩ => by omega⟩⟩
  | succ k ih =>
    intro h
    obtain ⟨r, e⟩ := ih (fun x h0 h1 => h x h0 (by omega))
    have hk := h k (by omega) (by omega)
    have hp : (2 : Int) ^ b ≤ 2147483648 := by
      rw [← p2i]
      have : 2 ^ b ≤ 2 ^ 31 := Nat.pow_le_pow_right (by decide) hb
      omega
    refine ⟨ior_r hb r.1 r.2 hk.1 hk.2, fun q => ?_⟩
    show bt (ior (orN k g) (g k)) q ↔ _
    rw [bt_or r.1 (by omega) hk.1 (by omega), e q]
    constructor
    · intro h
      rcases h with ⟨x, a, b, c⟩ | h
      · exact ⟨x, a, by omega, c⟩
      · exact ⟨k, by omega, by omega, h⟩
    · intro ⟨x, a, b, c⟩
      by_cases hx : x = k
      · right; rw [← hx]; exact c
      · left; exact ⟨x, a, by omega, c⟩
theorem orN_c {g g' : Int → Int} : ∀ {k : Nat}, (∀ x : Int, 0 ≤ x → x < k → g x = g' x) → orN k g = orN k g' := by
  intro k
  induction k with
  | zero => intro _; rfl
  | succ k ih =>
    intro h
    show ior (orN k g) (g k) = ior (orN k g') (g' k)
    rw [ih (fun x a b => h x a (by omega)), h k (by omega) (by omega)]
theorem ior_0 {z : Int} (h0 : 0 ≤ z) (h1 : z < 2147483648) : ior z 0 = z := by
  obtain ⟨a, rfl⟩ : ∃ a : Nat, z = a := ⟨z.toNat, by omega⟩
  rw [show (0 : Int) = ((0 : Nat) : Int) from rfl, ior_n (by omega) (by decide), Nat.or_zero]
theorem p12 {b : Nat} (h : b ≤ 12) : (2 : Int) ^ b ≤ 4096 := by
  rw [← p2i]
  have : 2 ^ b ≤ 2 ^ 12 := Nat.pow_le_pow_right (by decide) h
  omega
/-- the net: its states, its images within them -/
def NtOk (M : Mem) : Prop := 0 ≤ M.1 8 2 ∧ M.1 8 2 ≤ 12 ∧ (∀ i, 0 ≤ i → i < 864 → 0 ≤ M.1 9 i ∧ M.1 9 i < 2 ^ (M.1 8 2).toNat) ∧ (0 ≤ M.1 8 3 ∧ M.1 8 3 < 4096) ∧ (0 ≤ M.1 8 4 ∧ M.1 8 4 < 4096) ∧ 0 ≤ M.1 8 5 ∧ M.1 8 5 < 16
theorem NtOk.im {M : Mem} (h : NtOk M) {i : Int} (h0 : 0 ≤ i) (h1 : i < 864) : 0 ≤ M.1 9 i ∧ M.1 9 i < 4096 := by
  have := h.2.2.1 i h0 h1
  have := p12 (b := (M.1 8 2).toNat) (by have := h.2.1; omega)
  omega

/-- what a sign of rank 1 makes of a set -/
def imgA (M : Mem) (s set : Int) : Int := orN (M.1 8 2).toNat (fun x => if iand (ishr set x) 1 = 0 then 0 else M.1 9 ((s * 12 + x) * 12))
theorem imageAlone_ok {M : Mem} (hS : SBN M) (h : NtOk M) {s set : Int} (hs : 0 ≤ s ∧ s < 6) : D_Net_imageAlone 8 s set M = some (imgA M s set, M) := by
  unfold D_Net_imageAlone
  have hst := h.1
  have hst2 := h.2.1
  have hg : ∀ x : Int, 0 ≤ x → x < ((M.1 8 2).toNat : Int) → 0 ≤ (if iand (ishr set x) 1 = 0 then 0 else M.1 9 ((s * 12 + x) * 12)) ∧ (if iand (ishr set x) 1 = 0 then 0 else M.1 9 ((s * 12 + x) * 12)) < 2 ^ 12 := by
    intro x h0 h1
    split
    · decide
    · exact h.im (by omega) (by omega)
  refine lq2 (fun n z x M' => L_Net_imageAlone_5 (fun w3_5 m5 => some (w3_5, m5)) 8 s set n z x M') (fun z x M' => M' = M ∧ 0 ≤ x ∧ x ≤ M.1 8 2 ∧ z = orN x.toNat (fun x => if iand (ishr set x) 1 = 0 then 0 else M.1 9 ((s * 12 + x) * 12))) (fun _ x => (M.1 8 2 - x).toNat) (fun o => o = some (imgA M s set, M)) ?_ ⟨rfl, Int.le_refl 0, hst, rfl⟩ (by have := FU_eq; omega)
  intro n z x M' ⟨hM, h0, h1, hz⟩ ih
  subst hM
  show L_Net_imageAlone_5 _ _ _ _ (n + 1) z x M' = _
  rw [L_Net_imageAlone_5]
  simp [-Option.bind_some, -Option.bind_none, gf, pf, rd, wt, ck, ln, lt, bz, nq, up_1, up_2, obs, obn, hS]
  by_cases hx : M'.1 8 2 ≤ x
  · simp only [hx, if_true]
    have : x = M'.1 8 2 := by omega
    rw [hz, this]
    rfl
  · simp only [hx, if_false]
    have hor := (orN_ok (b := 12) (by decide) (k := x.toNat) (g := fun x => if iand (ishr set x) 1 = 0 then 0 else M'.1 9 ((s * 12 + x) * 12)) (fun y a b => hg y a (by omega))).1
    have hstep : orN (x + 1).toNat (fun x => if iand (ishr set x) 1 = 0 then 0 else M'.1 9 ((s * 12 + x) * 12)) = ior z (if iand (ishr set x) 1 = 0 then 0 else M'.1 9 ((s * 12 + x) * 12)) := by
      rw [show (x + 1).toNat = x.toNat + 1 by omega, hz]
      show ior _ (if iand (ishr set ((x.toNat : Nat) : Int)) 1 = 0 then 0 else M'.1 9 ((s * 12 + ((x.toNat : Nat) : Int)) * 12)) = _
      rw [show ((x.toNat : Nat) : Int) = x by omega]
    rw [wr_eq (z := s * 12) (by omega) (by omega), wr_eq (z := s * 12 + x) (by omega) (by omega), wr_eq (z := (s * 12 + x) * 12) (by omega) (by omega), wr_eq (z := x + 1) (by omega) (by omega)]
    by_cases hb : iand (ishr set x) 1 = 0
    · simp only [hb, if_true, obs]
      refine ih z (x + 1) M' ⟨rfl, by omega, by omega, ?_⟩ (by omega)
      rw [hstep, if_pos hb, ior_0 (by rw [hz]; exact hor.1) (by rw [hz]; have := hor.2; omega)]
    · have q1 : 0 ≤ (s * 12 + x) * 12 := by omega
      have q2 : (s * 12 + x) * 12 < 864 := by omega
      simp only [hb, if_false, q1, q2, and_self, if_true, obs]
      refine ih _ (x + 1) M' ⟨rfl, by omega, by omega, ?_⟩ (by omega)
      rw [hstep, if_neg hb]
/-- what a sign of rank 2 makes of a state as one part and a set as the other -/
def imgB (M : Mem) (s f x set : Int) : Int := orN (M.1 8 2).toNat (fun o => if iand (ishr set o) 1 = 0 then 0 else M.1 9 (s * 144 + (if f = 0 then o * 12 + x else x * 12 + o)))
theorem imgB_g {M : Mem} (h : NtOk M) {s f x set : Int} (hs : 0 ≤ s ∧ s < 6) (hx : 0 ≤ x ∧ x < 12) : ∀ o : Int, 0 ≤ o → o < ((M.1 8 2).toNat : Int) → 0 ≤ (if iand (ishr set o) 1 = 0 then 0 else M.1 9 (s * 144 + (if f = 0 then o * 12 + x else x * 12 + o))) ∧ (if iand (ishr set o) 1 = 0 then 0 else M.1 9 (s * 144 + (if f = 0 then o * 12 + x else x * 12 + o))) < 2 ^ 12 := by
  intro o h0 h1
  have := h.1
  have := h.2.1
  split
  · decide
  · refine h.im ?_ ?_ <;> split <;> omega
theorem image_ok {M : Mem} (hS : SBN M) (h : NtOk M) {s f x set : Int} (hs : 0 ≤ s ∧ s < 6) (hx : 0 ≤ x ∧ x < 12) : D_Net_image 8 s f x set M = some (imgB M s f x set, M) := by
  unfold D_Net_image lt
  have hst := h.1
  have hst2 := h.2.1
  have hg := imgB_g h (f := f) (set := set) hs hx
  rw [wr_eq (z := s * 12) (by omega) (by omega), wr_eq (z := s * 12 * 12) (by omega) (by omega)]
  refine lq2 (fun n z o M' => L_Net_image_15 (fun w6_15 m15 => some (w6_15, m15)) 8 f x set (s * 12 * 12) n z o M') (fun z o M' => M' = M ∧ 0 ≤ o ∧ o ≤ M.1 8 2 ∧ z = orN o.toNat (fun o => if iand (ishr set o) 1 = 0 then 0 else M.1 9 (s * 144 + (if f = 0 then o * 12 + x else x * 12 + o)))) (fun _ o => (M.1 8 2 - o).toNat) (fun r => r = some (imgB M s f x set, M)) ?_ ⟨rfl, Int.le_refl 0, hst, rfl⟩ (by have := FU_eq; omega)
  intro n z o M' ⟨hM, h0, h1, hz⟩ ih
  subst hM
  show L_Net_image_15 _ _ _ _ _ _ (n + 1) z o M' = _
  rw [L_Net_image_15]
  simp [-Option.bind_some, -Option.bind_none, gf, pf, rd, wt, ck, ln, lt, bz, nq, up_1, up_2, obs, obn, hS]
  by_cases ho : M'.1 8 2 ≤ o
  · simp only [ho, if_true]
    have : o = M'.1 8 2 := by omega
    rw [hz, this]
    rfl
  · simp only [ho, if_false]
    have hor := (orN_ok (b := 12) (by decide) (k := o.toNat) (g := fun o => if iand (ishr set o) 1 = 0 then 0 else M'.1 9 (s * 144 + (if f = 0 then o * 12 + x else x * 12 + o))) (fun y a b => hg y a (by omega))).1
    have hstep : orN (o + 1).toNat (fun o => if iand (ishr set o) 1 = 0 then 0 else M'.1 9 (s * 144 + (if f = 0 then o * 12 + x else x * 12 + o))) = ior z (if iand (ishr set o) 1 = 0 then 0 else M'.1 9 (s * 144 + (if f = 0 then o * 12 + x else x * 12 + o))) := by
      rw [show (o + 1).toNat = o.toNat + 1 by omega, hz]
      show ior _ (if iand (ishr set ((o.toNat : Nat) : Int)) 1 = 0 then 0 else M'.1 9 (s * 144 + (if f = 0 then ((o.toNat : Nat) : Int) * 12 + x else x * 12 + ((o.toNat : Nat) : Int)))) = _
      rw [show ((o.toNat : Nat) : Int) = o by omega]
    rw [wr_eq (z := o * 12) (by omega) (by omega), wr_eq (z := o * 12 + x) (by omega) (by omega), wr_eq (z := x * 12) (by omega) (by omega), wr_eq (z := x * 12 + o) (by omega) (by omega), wr_eq (z := o + 1) (by omega) (by omega)]
    by_cases hb : iand (ishr set o) 1 = 0
    · simp only [hb, if_true, obs]
      refine ih z (o + 1) M' ⟨rfl, by omega, by omega, ?_⟩ (by omega)
      rw [hstep, if_pos hb, ior_0 (by rw [hz]; exact hor.1) (by rw [hz]; have := hor.2; omega)]
    · have e1 : (if f = 0 then some (o * 12 + x) else some (x * 12 + o)) = some (if f = 0 then o * 12 + x else x * 12 + o) := by split <;> rfl
      simp only [hb, if_false, e1, obs]
      have b1 : 0 ≤ (if f = 0 then o * 12 + x else x * 12 + o) ∧ (if f = 0 then o * 12 + x else x * 12 + o) < 144 := by split <;> omega
      have e2 : s * 12 * 12 + (if f = 0 then o * 12 + x else x * 12 + o) = s * 144 + (if f = 0 then o * 12 + x else x * 12 + o) := by omega
      rw [e2, wr_eq (by omega) (by omega)]
      have q1 : 0 ≤ s * 144 + (if f = 0 then o * 12 + x else x * 12 + o) := by omega
      have q2 : s * 144 + (if f = 0 then o * 12 + x else x * 12 + o) < 864 := by omega
      simp only [q1, q2, and_self, if_true, obs]
      refine ih _ (o + 1) M' ⟨rfl, by omega, by omega, ?_⟩ (by omega)
      rw [hstep, if_neg hb]
theorem leafImage_ok {M : Mem} (hS : SBN M) {s : Int} (hs : 0 ≤ s ∧ s < 6) : D_Net_leafImage 8 s M = some (M.1 9 (s * 144), M) := by
  unfold D_Net_leafImage
  rw [wr_eq (z := s * 12) (by omega) (by omega), wr_eq (z := s * 12 * 12) (by omega) (by omega), show s * 12 * 12 = s * 144 by omega]
  have q1 : 0 ≤ s * 144 := by omega
  have q2 : s * 144 < 864 := by omega
  simp [-Option.bind_some, -Option.bind_none, gf, pf, rd, wt, ck, ln, lt, bz, nq, up_1, up_2, obs, obn, hS, q1, q2]
/-- whether a set is accepted: 1 or 0 -/
def acN (M : Mem) (set : Int) : Int := if iand (ishr (M.1 8 5) ((if iand set (M.1 8 3) = 0 then 0 else 1) + (if iand set (M.1 8 4) = 0 then 0 else 2))) 1 = 0 then 0 else 1
theorem accepts_ok {M : Mem} (hS : SBN M) (set : Int) : D_Net_accepts 8 set M = some (acN M set, M) := by
  unfold D_Net_accepts acN
  simp [-Option.bind_some, -Option.bind_none, gf, pf, rd, wt, ck, ln, lt, bz, nq, up_1, up_2, obs, obn, hS]
  have e1 : (if iand set (M.1 8 3) = 0 then some 0 else some 1) = some (if iand set (M.1 8 3) = 0 then 0 else (1 : Int)) := by split <;> rfl
  have e2 : (if iand set (M.1 8 4) = 0 then some 0 else some 2) = some (if iand set (M.1 8 4) = 0 then 0 else (2 : Int)) := by split <;> rfl
  rw [e1, e2]
  simp only [obs]
  have b1 : 0 ≤ (if iand set (M.1 8 3) = 0 then 0 else (1 : Int)) ∧ (if iand set (M.1 8 3) = 0 then 0 else (1 : Int)) ≤ 1 := by split <;> decide
  have b2 : 0 ≤ (if iand set (M.1 8 4) = 0 then 0 else (2 : Int)) ∧ (if iand set (M.1 8 4) = 0 then 0 else (2 : Int)) ≤ 2 := by split <;> decide
  rw [wr_eq (by omega) (by omega), is2, ip2]
/-! steps: unions of images, held for both halves of a set -/
abbrev SW (M : Mem) (p : Int) : Prop := M.2.1 p = (6, 2) ∧ M.2.1 (p + 1) = (10, 64) ∧ M.2.1 (p + 2) = (10, 64) ∧ M.1 p 0 = p + 1 ∧ M.1 p 1 = p + 2
def Fil (f : Int → Int) (k : Nat) (one : Int → Int) : Prop := ∀ set, 0 ≤ set → set < 2 ^ k → (0 ≤ f set ∧ f set < 4096) ∧ ∀ q, 0 ≤ q → (bt (f set) q ↔ ∃ x : Int, 0 ≤ x ∧ x < k ∧ bt set x ∧ bt (one x) q)
theorem Fil0 {f one : Int → Int} (h : f 0 = 0) : Fil f 0 one := by
  intro set h0 h1
  have : set = 0 := by have : (2 : Int) ^ 0 = 1 := rfl; omega
  subst this
  rw [h]
  exact ⟨by decide, fun q _ => ⟨fun b => absurd b (bt_zero q), fun ⟨x, a, b, _⟩ => by omega⟩⟩
theorem bt_add {s : Int} {k : Nat} (s0 : 0 ≤ s) (s1 : s < 2 ^ k) {x : Int} (x0 : 0 ≤ x) : bt (2 ^ k + s) x ↔ x = k ∨ bt s x := by
  obtain ⟨a, rfl⟩ : ∃ a : Nat, s = a := ⟨s.toNat, by omega⟩
  obtain ⟨i, rfl⟩ : ∃ i : Nat, x = i := ⟨x.toNat, by omega⟩
  rw [← p2i] at s1 ⊢
  have ha : a < 2 ^ k := by omega
  have e : ((2 ^ k : Nat) : Int) + (a : Int) = ((2 ^ k ||| a : Nat) : Int) := by
    have := Nat.two_pow_add_eq_or_of_lt ha 1
    rw [Nat.mul_one] at this
    rw [← this]
    simp
  rw [e]
  unfold bt
  rw [Int.toNat_natCast, Int.toNat_natCast, Int.toNat_natCast, Nat.testBit_or, Nat.testBit_two_pow]
  simp
  constructor
  · intro h
    rcases h with h | h
    · left; omega
    · right; exact h
  · intro h
    rcases h with h | h
    · left; omega
    · right; exact h
theorem FilS {f one : Int → Int} {k : Nat} (hk : k < 12) (h : Fil f k one) (ho : 0 ≤ one k ∧ one k < 4096) {b : Int} (hb : b = 2 ^ k) : Fil (fun i => if b ≤ i ∧ i < 2 * b then ior (f (i - b)) (one k) else f i) (k + 1) one := by
  subst hb
  intro set h0 h1
  have hp : (2 : Int) ^ (k + 1) = 2 * 2 ^ k := by rw [Int.pow_succ, Int.mul_comm]
  by_cases hs : set < 2 ^ k
  · obtain ⟨r, e⟩ := h set h0 hs
    dsimp only
    rw [if_neg (by omega)]
    refine ⟨r, fun q hq => ?_⟩
    rw [e q hq]
    constructor
    · intro ⟨x, a, b, c, d⟩; exact ⟨x, a, by omega, c, d⟩
    · intro ⟨x, a, b, c, d⟩
      have := bt_lt h0 hs c a
      exact ⟨x, a, this, c, d⟩
  · obtain ⟨r, e⟩ := h (set - 2 ^ k) (by omega) (by omega)
    dsimp only
    rw [if_pos (by omega)]
    refine ⟨ior_r (k := 12) (by decide) r.1 r.2 ho.1 ho.2, fun q hq => ?_⟩
    rw [bt_or r.1 (by omega) ho.1 (by omega), e q hq]
    have hset : ∀ x : Int, 0 ≤ x → (bt set x ↔ x = k ∨ bt (set - 2 ^ k) x) := fun x x0 => by
      have := bt_add (s := set - 2 ^ k) (k := k) (by omega) (by omega) x0
      rwa [show (2 : Int) ^ k + (set - 2 ^ k) = set by omega] at this
    constructor
    · intro h
      rcases h with ⟨x, a, b, c, d⟩ | h
      · exact ⟨x, a, by omega, (hset x a).mpr (Or.inr c), d⟩
      · exact ⟨k, by omega, by omega, (hset k (by omega)).mpr (Or.inl rfl), h⟩
    · intro ⟨x, a, b, c, d⟩
      rcases (hset x a).mp c with hx | hx
      · right; rw [← hx]; exact d
      · left; exact ⟨x, a, bt_lt (by omega) (by omega) hx a, hx, d⟩
theorem load_in (P : Option Mem → Prop) {M : Mem} {a b one : Int} {k : Mem → Option Mem} {v0 v1 v2 v3 v4 v5 : Int} (ha : M.2.1 a = (10, 64)) (hb : 0 ≤ b ∧ 2 * b ≤ 64) (hk : P (k (sc M a (fun i => if b ≤ i ∧ i < 2 * b then ior (M.1 a (i - b)) one else M.1 a i)))) : P (L_Step_load_85 k v0 v1 v2 v3 v4 v5 a b one FU 0 M) := by
  refine lq1 (fun n i M' => L_Step_load_85 k v0 v1 v2 v3 v4 v5 a b one n i M') (fun i M' => 0 ≤ i ∧ i ≤ b ∧ M' = sc M a (fun j => if b ≤ j ∧ j < b + i then ior (M.1 a (j - b)) one else M.1 a j)) (fun i => (b - i).toNat) P ?_ ⟨Int.le_refl 0, hb.1, ?_⟩ (by have := FU_eq; omega)
  · intro n i M' ⟨h0, h1, hM⟩ ih
    subst hM
    show P (L_Step_load_85 k v0 v1 v2 v3 v4 v5 a b one (n + 1) i _)
    rw [L_Step_load_85]
    by_cases hi : b ≤ i
    · simp only [hi, if_true]
      have : i = b := by omega
      subst this
      rwa [show i + i = 2 * i by omega]
    · simp only [hi, if_false]
      rw [wr_eq (z := b + i) (by omega) (by omega), wr_eq (z := i + 1) (by omega) (by omega)]
      have q1 : i < 64 := by omega
      have q2 : 0 ≤ b + i := by omega
      have q3 : b + i < 64 := by omega
      have q4 : ¬ (b ≤ i ∧ i < b + i) := by omega
      simp [rd, wt, sc_2, sc_1, ha, h0, q1, q2, q3, q4]
      refine ih (i + 1) _ ⟨by omega, by omega, ?_⟩ (by omega)
      rw [sc_up]
      congr 1
      funext j
      by_cases hj : j = b + i
      · rw [if_pos hj, if_pos (by omega), show j - b = i by omega]
      · rw [if_neg hj]
        by_cases h2 : b ≤ j ∧ j < b + i
        · rw [if_pos h2, if_pos (by omega)]
        · rw [if_neg h2, if_neg (by omega)]
  · rw [show (fun j => if b ≤ j ∧ j < b + 0 then ior (M.1 a (j - b)) one else M.1 a j) = M.1 a from funext fun j => by rw [if_neg (by omega)], sc_id]
theorem SBN_sc {M : Mem} (h : SBN M) {a : Int} {f : Int → Int} (ha : a ≠ 8) : SBN (sc M a f) := by
  have : ¬ (8 : Int) = a := fun e => ha e.symm
  simp [SBN, sc_1, sc_2, h, this]
theorem NtOk_sc {M : Mem} (h : NtOk M) {a : Int} {f : Int → Int} (ha : a ≠ 8) (hb : a ≠ 9) : NtOk (sc M a f) := by
  have e1 : ∀ i, (sc M a f).1 8 i = M.1 8 i := fun i => by rw [sc_1, if_neg (fun e => ha e.symm)]
  have e2 : ∀ i, (sc M a f).1 9 i = M.1 9 i := fun i => by rw [sc_1, if_neg (fun e => hb e.symm)]
  unfold NtOk
  simp only [e1, e2]
  exact h
theorem imgB_sc {M : Mem} {a : Int} {g : Int → Int} (ha : a ≠ 8) (hb : a ≠ 9) (s f x set : Int) : imgB (sc M a g) s f x set = imgB M s f x set := by
  have e1 : ∀ i, (sc M a g).1 8 i = M.1 8 i := fun i => by rw [sc_1, if_neg (fun e => ha e.symm)]
  have e2 : ∀ i, (sc M a g).1 9 i = M.1 9 i := fun i => by rw [sc_1, if_neg (fun e => hb e.symm)]
  unfold imgB
  simp only [e1, e2]
theorem imgB_r {M : Mem} (h : NtOk M) {s f x set : Int} (hs : 0 ≤ s ∧ s < 6) (hx : 0 ≤ x ∧ x < 12) : 0 ≤ imgB M s f x set ∧ imgB M s f x set < 4096 := (orN_ok (b := 12) (by decide) (imgB_g h hs hx)).1
theorem Fil_c {f g one : Int → Int} {k : Nat} (h : Fil f k one) (e : ∀ i, 0 ≤ i → i < 2 ^ k → g i = f i) : Fil g k one := fun set h0 h1 => by rw [e set h0 h1]; exact h set h0 h1
theorem Fil_0 {f one : Int → Int} {k : Nat} (h : Fil f k one) : f 0 = 0 := by
  obtain ⟨r, e⟩ := h 0 (Int.le_refl 0) (by rw [← p2i]; have := Nat.pow_pos (n := k) (show 0 < 2 by decide); omega)
  refine bt_ext (k := 12) r.1 r.2 (Int.le_refl 0) (by decide) (fun i i0 i1 => ?_)
  rw [e i i0]
  exact ⟨fun ⟨x, _, _, c, _⟩ => absurd c (bt_zero x), fun b => absurd b (bt_zero i)⟩
theorem one_ne_zero' : ((1 : Int) = 0) = False := by simp
theorem SW_sc {M : Mem} {p a : Int} {f : Int → Int} (h : SW M p) (ha : a ≠ p) : SW (sc M a f) p := by
  have : ¬ p = a := fun e => ha e.symm
  unfold SW at h ⊢
  simp only [sc_1, sc_2, this, if_false]
  exact h
theorem load_ok {M : Mem} {p s f set : Int} (hN : SBN M) (hW : SW M p) (h : NtOk M) (hp : 20 ≤ p) (l0 : M.1 (p + 1) 0 = 0) (r0 : M.1 (p + 2) 0 = 0) (hs : 0 ≤ s ∧ s < 6) (P : Option Mem → Prop) (hP : ∀ fl fh, Fil fl (min (M.1 8 2).toNat 6) (fun x => imgB M s f x set) → Fil fh ((M.1 8 2).toNat - 6) (fun x => imgB M s f (x + 6) set) → P (some (sc (sc M (p + 1) fl) (p + 2) fh))) : P (D_Step_load p 8 s f set M) := by
  unfold D_Step_load
  have hst := h.1
  have hst2 := h.2.1
  refine lq1 (fun n v M' => L_Step_load_3 (fun m3 => some m3) p 8 s f set n v M') (fun v M' => 0 ≤ v ∧ v ≤ M.1 8 2 ∧ ∃ fl fh, M' = sc (sc M (p + 1) fl) (p + 2) fh ∧ Fil fl (min v.toNat 6) (fun x => imgB M s f x set) ∧ Fil fh (v.toNat - 6) (fun x => imgB M s f (x + 6) set)) (fun v => (M.1 8 2 - v).toNat) P ?_ ⟨Int.le_refl 0, hst, M.1 (p + 1), M.1 (p + 2), ?_, Fil0 l0, Fil0 r0⟩ (by have := FU_eq; omega)
  · intro n v M' ⟨h0, h1, fl, fh, hM, F1, F2⟩ ih
    show P (L_Step_load_3 _ _ _ _ _ _ (n + 1) v _)
    have n5 : ¬ p + 1 = p + 2 := by omega
    have hN' : SBN M' := by rw [hM]; exact SBN_sc (SBN_sc hN (by omega)) (by omega)
    have hW' : SW M' p := by rw [hM]; exact SW_sc (SW_sc hW (by omega)) (by omega)
    have e8 : M'.1 8 2 = M.1 8 2 := by rw [hM, sc_1, sc_1, if_neg (by omega), if_neg (by omega)]
    by_cases hv : M.1 8 2 ≤ v
    · rw [L_Step_load_3]
      simp [-Option.bind_some, -Option.bind_none, gf, pf, rd, wt, ck, ln, lt, bz, nq, up_1, up_2, obs, obn, hN', e8, hv]
      have : v = M.1 8 2 := by omega
      subst this
      rw [hM]
      exact hP fl fh F1 F2
    · have hv12 : ¬ 12 ≤ v := by omega
      have him : D_Net_image 8 s f v set M' = some (imgB M s f v set, M') := by
        rw [hM, image_ok (SBN_sc (SBN_sc hN (by omega)) (by omega)) (NtOk_sc (NtOk_sc h (by omega) (by omega)) (by omega) (by omega)) hs ⟨h0, by omega⟩, imgB_sc (by omega) (by omega), imgB_sc (by omega) (by omega)]
      have hone := imgB_r h (f := f) (set := set) hs (x := v) ⟨h0, by omega⟩
      by_cases h6 : 6 ≤ v
      · have e54 : wr (v - 6) = v - 6 := wr_eq (by omega) (by omega)
        rw [L_Step_load_3]
        simp [-Option.bind_some, -Option.bind_none, gf, pf, rd, wt, ck, ln, lt, bz, nq, up_1, up_2, obs, obn, hN', e8, hv, hv12, h6, him, hW', e54]
        have hb := ishl1_r (k := v - 6) (j := 6) (by omega) (by omega) (by decide)
        have hb2 : ishl 1 (v - 6) = 2 ^ (v.toNat - 6) := by rw [ishl1 (by omega) (by omega), show (v - 6).toNat = v.toNat - 6 by omega]
        have hb3 : (2 : Int) ^ (v.toNat - 6) ≤ 32 := by
          rw [← p2i]
          have : 2 ^ (v.toNat - 6) ≤ 2 ^ 5 := Nat.pow_le_pow_right (by decide) (by omega)
          omega
        refine load_in P hW'.2.2.1 ⟨hb.1, by rw [hb2]; omega⟩ ?_
        rw [wr_eq (z := v + 1) (by omega) (by omega)]
        subst hM
        refine ih (v + 1) _ ⟨by omega, by omega, fl, _, sc_sc _ _ _ _, ?_, ?_⟩ (by omega)
        · rw [show min (v + 1).toNat 6 = min v.toNat 6 by omega]; exact F1
        · have F3 := FilS (k := v.toNat - 6) (one := fun x => imgB M s f (x + 6) set) (by omega) F2 (by rw [show ((v.toNat - 6 : Nat) : Int) + 6 = v by omega]; exact hone) hb2
          rw [show (v + 1).toNat - 6 = v.toNat - 6 + 1 by omega]
          refine Fil_c F3 (fun i _ _ => ?_)
          (try dsimp only)
          rw [show ((v.toNat - 6 : Nat) : Int) + 6 = v by omega]
          simp [sc_1]
      · rw [L_Step_load_3]
        simp [-Option.bind_some, -Option.bind_none, gf, pf, rd, wt, ck, ln, lt, bz, nq, up_1, up_2, obs, obn, hN', e8, hv, hv12, h6, him, hW']
        have hb := ishl1_r (k := v) (j := 6) (by omega) (by omega) (by decide)
        have hb2 : ishl 1 v = 2 ^ v.toNat := ishl1 (by omega) (by omega)
        have hb3 : (2 : Int) ^ v.toNat ≤ 32 := by
          rw [← p2i]
          have : 2 ^ v.toNat ≤ 2 ^ 5 := Nat.pow_le_pow_right (by decide) (by omega)
          omega
        refine load_in P hW'.2.1 ⟨hb.1, by rw [hb2]; omega⟩ ?_
        rw [wr_eq (z := v + 1) (by omega) (by omega)]
        subst hM
        have F3 := FilS (k := v.toNat) (one := fun x => imgB M s f x set) (by omega) (f := fl) (by rw [show min v.toNat 6 = v.toNat by omega] at F1; exact F1) (by rw [show ((v.toNat : Nat) : Int) = v by omega]; exact hone) hb2
        refine ih (v + 1) _ ⟨by omega, by omega, (fun i => if ishl 1 v ≤ i ∧ i < 2 * ishl 1 v then ior (fl (i - ishl 1 v)) (imgB M s f v set) else fl i), fh, ?_, ?_, ?_⟩ (by omega)
        · unfold sc
          congr 1
          funext a' i
          dsimp only
          by_cases q1 : a' = p + 1
          · have : ¬ a' = p + 2 := by omega
            simp [q1, n5]
          · by_cases q2 : a' = p + 2 <;> simp [q1, q2]
        · rw [show min (v + 1).toNat 6 = v.toNat + 1 by omega]
          refine Fil_c F3 (fun i _ _ => ?_)
          (try dsimp only)
          rw [show ((v.toNat : Nat) : Int) = v by omega]
        · rw [show (v + 1).toNat - 6 = 0 by omega]
          rw [show v.toNat - 6 = 0 by omega] at F2
          exact F2
  · rw [sc_id]
    exact (sc_id M (p + 2)).symm
theorem from_v {M : Mem} {p set : Int} (hW : SW M p) (h0 : 0 ≤ set) (h1 : set < 4096) : D_Step_from p set M = some (ior (M.1 (p + 1) (iand set 63)) (M.1 (p + 2) (iand (ishr set 6) 63)), M) := by
  have a1 := iand_r (z := set) (w := 63) h0 (by omega) (by decide)
  have e6 : ishr set 6 = set / 64 := by
    obtain ⟨a, rfl⟩ : ∃ a : Nat, set = a := ⟨set.toNat, by omega⟩
    rw [show (6 : Int) = ((6 : Nat) : Int) from rfl, ishr_n (by omega) (by decide)]
    rfl
  have a2 := iand_r (z := ishr set 6) (w := 63) (by rw [e6]; omega) (by rw [e6]; omega) (by decide)
  have q1 : iand set 63 < 64 := by omega
  have q2 : iand (ishr set 6) 63 < 64 := by omega
  unfold D_Step_from
  simp [-Option.bind_some, -Option.bind_none, gf, pf, rd, wt, ck, ln, lt, bz, nq, up_1, up_2, obs, obn, hW, a1.1, a2.1, q1, q2]
