/-! the automaton of the net -/
theorem imgA_g {M : Mem} (h : NtOk M) {s set : Int} (hs : 0 ≤ s ∧ s < 6) : ∀ x : Int, 0 ≤ x → x < ((M.1 8 2).toNat : Int) → 0 ≤ (if iand (ishr set x) 1 = 0 then 0 else M.1 9 ((s * 12 + x) * 12)) ∧ (if iand (ishr set x) 1 = 0 then 0 else M.1 9 ((s * 12 + x) * 12)) < 2 ^ (M.1 8 2).toNat := by
  intro x h0 h1
  have := h.1
  have := h.2.1
  split
  · refine ⟨Int.le_refl 0, ?_⟩
    rw [← p2i]
    have := Nat.pow_pos (n := (M.1 8 2).toNat) (show 0 < 2 by decide)
    omega
  · exact h.2.2.1 _ (by omega) (by omega)
theorem imgB_g' {M : Mem} (h : NtOk M) {s f x set : Int} (hs : 0 ≤ s ∧ s < 6) (hx : 0 ≤ x ∧ x < 12) : ∀ o : Int, 0 ≤ o → o < ((M.1 8 2).toNat : Int) → 0 ≤ (if iand (ishr set o) 1 = 0 then 0 else M.1 9 (s * 144 + (if f = 0 then o * 12 + x else x * 12 + o))) ∧ (if iand (ishr set o) 1 = 0 then 0 else M.1 9 (s * 144 + (if f = 0 then o * 12 + x else x * 12 + o))) < 2 ^ (M.1 8 2).toNat := by
  intro o h0 h1
  have := h.1
  have := h.2.1
  split
  · refine ⟨Int.le_refl 0, ?_⟩
    rw [← p2i]
    have := Nat.pow_pos (n := (M.1 8 2).toNat) (show 0 < 2 by decide)
    omega
  · refine h.2.2.1 _ ?_ ?_ <;> split <;> omega
theorem st31 {M : Mem} (h : NtOk M) : (M.1 8 2).toNat ≤ 31 := by have := h.2.1; omega
theorem val12 {M : Mem} (h : NtOk M) {z : Int} (hz : z < 2 ^ (M.1 8 2).toNat) : z < 4096 := by
  have := p12 (b := (M.1 8 2).toNat) (by have := h.2.1; omega)
  omega
/-- bits of what a sign of rank 1 makes -/
theorem imgA_b {M : Mem} (h : NtOk M) {s set : Int} (hs : 0 ≤ s ∧ s < 6) (s0 : 0 ≤ set) (s1 : set < 4096) : (0 ≤ imgA M s set ∧ imgA M s set < 2 ^ (M.1 8 2).toNat) ∧ ∀ q, bt (imgA M s set) q ↔ ∃ x : Int, 0 ≤ x ∧ x < M.1 8 2 ∧ bt set x ∧ bt (M.1 9 ((s * 12 + x) * 12)) q := by
  obtain ⟨r, e⟩ := orN_ok (st31 h) (imgA_g h (set := set) hs)
  refine ⟨r, fun q => ?_⟩
  have := h.1
  have := h.2.1
  unfold imgA
  rw [e q]
  constructor
  · intro ⟨x, a, b, c⟩
    (try dsimp only at c)
    by_cases hb : iand (ishr set x) 1 = 0
    · rw [if_pos hb] at c; exact absurd c (bt_zero q)
    · rw [if_neg hb] at c
      exact ⟨x, a, by omega, Classical.byContradiction fun hn => hb ((bt_0 s0 (by omega) a (by omega)).mpr hn), c⟩
  · intro ⟨x, a, b, c, d⟩
    refine ⟨x, a, by omega, ?_⟩
    (try dsimp only)
    rw [if_neg (fun hb => (bt_0 s0 (by omega) a (by omega)).mp hb c)]
    exact d
theorem imgB_b {M : Mem} (h : NtOk M) {s f x set : Int} (hs : 0 ≤ s ∧ s < 6) (hx : 0 ≤ x ∧ x < 12) (s0 : 0 ≤ set) (s1 : set < 4096) : (0 ≤ imgB M s f x set ∧ imgB M s f x set < 2 ^ (M.1 8 2).toNat) ∧ ∀ q, bt (imgB M s f x set) q ↔ ∃ o : Int, 0 ≤ o ∧ o < M.1 8 2 ∧ bt set o ∧ bt (M.1 9 (s * 144 + (if f = 0 then o * 12 + x else x * 12 + o))) q := by
  obtain ⟨r, e⟩ := orN_ok (st31 h) (imgB_g' h (f := f) (set := set) hs hx)
  refine ⟨r, fun q => ?_⟩
  have := h.1
  have := h.2.1
  unfold imgB
  rw [e q]
  constructor
  · intro ⟨o, a, b, c⟩
    (try dsimp only at c)
    by_cases hb : iand (ishr set o) 1 = 0
    · rw [if_pos hb] at c; exact absurd c (bt_zero q)
    · rw [if_neg hb] at c
      exact ⟨o, a, by omega, Classical.byContradiction fun hn => hb ((bt_0 s0 (by omega) a (by omega)).mpr hn), c⟩
  · intro ⟨o, a, b, c, d⟩
    refine ⟨o, a, by omega, ?_⟩
    (try dsimp only)
    rw [if_neg (fun hb => (bt_0 s0 (by omega) a (by omega)).mp hb c)]
    exact d
/-- what a sign makes of two sets -/
def dN (M : Mem) (s x y : Int) : Int := if rkC M s ≤ 0 then M.1 9 (s * 144) else if rkC M s ≤ 1 then imgA M s x else orN (M.1 8 2).toNat (fun a => if iand (ishr x a) 1 = 0 then 0 else imgB M s 1 a y)
def vs (M : Mem) (z : Int) : Prop := 0 ≤ z ∧ z < 2 ^ (M.1 8 2).toNat
theorem dN2_b {M : Mem} (h : NtOk M) {s x y : Int} (hs : 0 ≤ s ∧ s < 6) (hr : 2 ≤ rkC M s) (hx : vs M x) (hy : vs M y) : vs M (dN M s x y) ∧ ∀ q, bt (dN M s x y) q ↔ ∃ a b : Int, 0 ≤ a ∧ a < M.1 8 2 ∧ 0 ≤ b ∧ b < M.1 8 2 ∧ bt x a ∧ bt y b ∧ bt (M.1 9 (s * 144 + (a * 12 + b))) q := by
  have h1 := h.1
  have h2 := h.2.1
  have x12 := val12 h hx.2
  have y12 := val12 h hy.2
  have hg : ∀ a : Int, 0 ≤ a → a < ((M.1 8 2).toNat : Int) → 0 ≤ (if iand (ishr x a) 1 = 0 then 0 else imgB M s 1 a y) ∧ (if iand (ishr x a) 1 = 0 then 0 else imgB M s 1 a y) < 2 ^ (M.1 8 2).toNat := by
    intro a a0 a1
    split
    · refine ⟨Int.le_refl 0, ?_⟩
      rw [← p2i]
      have := Nat.pow_pos (n := (M.1 8 2).toNat) (show 0 < 2 by decide)
      omega
    · exact (imgB_b h hs ⟨a0, by omega⟩ hy.1 y12).1
  have e0 : dN M s x y = orN (M.1 8 2).toNat (fun a => if iand (ishr x a) 1 = 0 then 0 else imgB M s 1 a y) := by
    unfold dN
    rw [if_neg (by omega), if_neg (by omega)]
  obtain ⟨r, e⟩ := orN_ok (st31 h) hg
  rw [e0]
  refine ⟨r, fun q => ?_⟩
  rw [e q]
  constructor
  · intro ⟨a, a0, a1, c⟩
    (try dsimp only at c)
    by_cases hb : iand (ishr x a) 1 = 0
    · rw [if_pos hb] at c; exact absurd c (bt_zero q)
    · rw [if_neg hb, (imgB_b h hs ⟨a0, by omega⟩ hy.1 y12).2 q] at c
      obtain ⟨b, b0, b1, d, f⟩ := c
      refine ⟨a, b, a0, by omega, b0, b1, Classical.byContradiction fun hn => hb ((bt_0 hx.1 (by omega) a0 (by omega)).mpr hn), d, ?_⟩
      simpa using f
  · intro ⟨a, b, a0, a1, b0, b1, c, d, f⟩
    refine ⟨a, a0, by omega, ?_⟩
    (try dsimp only)
    rw [if_neg (fun hb => (bt_0 hx.1 (by omega) a0 (by omega)).mp hb c), (imgB_b h hs ⟨a0, by omega⟩ hy.1 y12).2 q]
    exact ⟨b, b0, b1, d, by simpa using f⟩
theorem dN_v {M : Mem} (h : NtOk M) {s x y : Int} (hs : 0 ≤ s ∧ s < 6) (hx : 1 ≤ rkC M s → vs M x) (hy : 2 ≤ rkC M s → vs M y) : vs M (dN M s x y) := by
  by_cases r0 : rkC M s ≤ 0
  · unfold dN
    rw [if_pos r0]
    exact h.2.2.1 _ (by omega) (by omega)
  · by_cases r1 : rkC M s ≤ 1
    · unfold dN
      rw [if_neg r0, if_pos r1]
      have := hx (by omega)
      exact (imgA_b h hs this.1 (val12 h this.2)).1
    · exact (dN2_b h hs (by omega) (hx (by omega)) (hy (by omega))).1
theorem e64 {set : Int} (h0 : 0 ≤ set) (h1 : set < 4096) : iand set 63 = set % 64 ∧ iand (ishr set 6) 63 = set / 64 := by
  obtain ⟨a, rfl⟩ : ∃ a : Nat, set = a := ⟨set.toNat, by omega⟩
  have ha : a < 4096 := by omega
  rw [show (6 : Int) = ((6 : Nat) : Int) from rfl, ishr_n (by omega) (by decide), show (63 : Int) = ((63 : Nat) : Int) from rfl, iand_n (by omega), iand_n (by omega)]
  have m1 : a &&& 63 = a % 64 := Nat.and_two_pow_sub_one_eq_mod a 6
  have m2 : a / 2 ^ 6 &&& 63 = a / 2 ^ 6 % 64 := Nat.and_two_pow_sub_one_eq_mod _ 6
  rw [m1, m2]
  constructor
  · omega
  · have : a / 2 ^ 6 = a / 64 := rfl
    rw [this]
    omega
theorem bt_lo {set x : Int} (h0 : 0 ≤ set) (x0 : 0 ≤ x) (x6 : x < 6) : bt (set % 64) x ↔ bt set x := by
  obtain ⟨a, rfl⟩ : ∃ a : Nat, set = a := ⟨set.toNat, by omega⟩
  obtain ⟨i, rfl⟩ : ∃ i : Nat, x = i := ⟨x.toNat, by omega⟩
  have e : ((a : Int) % 64) = ((a % 2 ^ 6 : Nat) : Int) := by omega
  rw [e]
  unfold bt
  rw [Int.toNat_natCast, Int.toNat_natCast, Int.toNat_natCast, Nat.testBit_mod_two_pow]
  have : i < 6 := by omega
  simp [this]
theorem bt_hi {set x : Int} (h0 : 0 ≤ set) (x0 : 0 ≤ x) : bt (set / 64) x ↔ bt set (x + 6) := by
  obtain ⟨a, rfl⟩ : ∃ a : Nat, set = a := ⟨set.toNat, by omega⟩
  obtain ⟨i, rfl⟩ : ∃ i : Nat, x = i := ⟨x.toNat, by omega⟩
  have e : ((a : Int) / 64) = ((a / 2 ^ 6 : Nat) : Int) := by omega
  rw [e]
  unfold bt
  rw [Int.toNat_natCast, Int.toNat_natCast, Int.toNat_natCast, Nat.testBit_div_two_pow, show ((i : Int) + 6).toNat = i + 6 by omega]
/-- both halves of a step give the union over the whole set -/
theorem halves {M : Mem} (h : NtOk M) {fl fh one : Int → Int} (F1 : Fil fl (min (M.1 8 2).toNat 6) one) (F2 : Fil fh ((M.1 8 2).toNat - 6) (fun x => one (x + 6))) {set : Int} (hv : vs M set) : (0 ≤ ior (fl (iand set 63)) (fh (iand (ishr set 6) 63)) ∧ ior (fl (iand set 63)) (fh (iand (ishr set 6) 63)) < 4096) ∧ ∀ q, 0 ≤ q → (bt (ior (fl (iand set 63)) (fh (iand (ishr set 6) 63))) q ↔ ∃ x : Int, 0 ≤ x ∧ x < M.1 8 2 ∧ bt set x ∧ bt (one x) q) := by
  have h1 := h.1
  have h2 := h.2.1
  have s12 := val12 h hv.2
  obtain ⟨e1, e2⟩ := e64 hv.1 s12
  rw [e1, e2]
  have lo : set % 64 < 2 ^ min (M.1 8 2).toNat 6 := by
    rcases Nat.lt_or_ge (M.1 8 2).toNat 6 with q | q
    · rw [show min (M.1 8 2).toNat 6 = (M.1 8 2).toNat by omega]
      have := hv.2
      have hv1 := hv.1
      omega
    · rw [show min (M.1 8 2).toNat 6 = 6 by omega]
      have : (2 : Int) ^ 6 = 64 := rfl
      omega
  have hi : set / 64 < 2 ^ ((M.1 8 2).toNat - 6) := by
    rcases Nat.lt_or_ge (M.1 8 2).toNat 6 with q | q
    · rw [show (M.1 8 2).toNat - 6 = 0 by omega]
      have hlt : (2 : Int) ^ (M.1 8 2).toNat ≤ 32 := by
        rw [← p2i]
        have : 2 ^ (M.1 8 2).toNat ≤ 2 ^ 5 := Nat.pow_le_pow_right (by decide) (by omega)
        omega
      have := hv.2
      have : (2 : Int) ^ 0 = 1 := rfl
      omega
    · have e : (2 : Int) ^ (M.1 8 2).toNat = 2 ^ ((M.1 8 2).toNat - 6) * 64 := by
        have : (M.1 8 2).toNat = ((M.1 8 2).toNat - 6) + 6 := by omega
        rw [show (64 : Int) = 2 ^ 6 from rfl, ← Int.pow_add, ← this]
      have := hv.2
      rw [e] at this
      omega
  have hv1 := hv.1
  obtain ⟨r1, b1⟩ := F1 (set % 64) (by omega) lo
  obtain ⟨r2, b2⟩ := F2 (set / 64) (by omega) hi
  refine ⟨ior_r (k := 12) (by decide) r1.1 r1.2 r2.1 r2.2, fun q hq => ?_⟩
  rw [bt_or r1.1 (by omega) r2.1 (by omega), b1 q hq, b2 q hq]
  constructor
  · intro hh
    rcases hh with ⟨x, x0, x1, c, d⟩ | ⟨x, x0, x1, c, d⟩
    · exact ⟨x, x0, by omega, (bt_lo hv1 x0 (by omega)).mp c, d⟩
    · exact ⟨x + 6, by omega, by omega, (bt_hi hv1 x0).mp c, d⟩
  · intro ⟨x, x0, x1, c, d⟩
    by_cases x6 : x < 6
    · left
      exact ⟨x, x0, by omega, (bt_lo hv1 x0 x6).mpr c, d⟩
    · right
      refine ⟨x - 6, by omega, by omega, (bt_hi hv1 (by omega)).mpr ?_, ?_⟩
      · rw [show x - 6 + 6 = x by omega]; exact c
      · show bt (one (x - 6 + 6)) q
        rw [show x - 6 + 6 = x by omega]; exact d
/-- the step at p makes φ of every set -/
def StI (M : Mem) (p : Int) (φ : Int → Int) : Prop := ∀ set, vs M set → ior (M.1 (p + 1) (iand set 63)) (M.1 (p + 2) (iand (ishr set 6) 63)) = φ set
theorem from_ok {M : Mem} {p set : Int} {φ : Int → Int} (h : NtOk M) (hW : SW M p) (hI : StI M p φ) (hv : vs M set) : D_Step_from p set M = some (φ set, M) := by
  rw [from_v hW hv.1 (val12 h hv.2), hI set hv]
theorem vs_lt {M : Mem} (h : NtOk M) {z : Int} (hv : vs M z) : z < 2 ^ 12 := val12 h hv.2
/-- loaded with the second part given: what comes of each first part -/
theorem ld_first {M : Mem} (h : NtOk M) {s y : Int} (hs : 0 ≤ s ∧ s < 6) (hr : 2 ≤ rkC M s) (hy : vs M y) {fl fh : Int → Int} (F1 : Fil fl (min (M.1 8 2).toNat 6) (fun x => imgB M s 1 x y)) (F2 : Fil fh ((M.1 8 2).toNat - 6) (fun x => imgB M s 1 (x + 6) y)) {x : Int} (hx : vs M x) : ior (fl (iand x 63)) (fh (iand (ishr x 6) 63)) = dN M s x y := by
  obtain ⟨r, e⟩ := halves h (one := fun x => imgB M s 1 x y) F1 F2 hx
  obtain ⟨v, d⟩ := dN2_b h hs hr hx hy
  have h1 := h.1
  have h2 := h.2.1
  refine bt_ext (k := 12) r.1 r.2 v.1 (vs_lt h v) (fun q q0 _ => ?_)
  rw [e q q0, d q]
  constructor
  · intro ⟨a, a0, a1, c, f⟩
    rw [(imgB_b h hs ⟨a0, by omega⟩ hy.1 (val12 h hy.2)).2 q] at f
    obtain ⟨b, b0, b1, g, k⟩ := f
    exact ⟨a, b, a0, a1, b0, b1, c, g, by simpa using k⟩
  · intro ⟨a, b, a0, a1, b0, b1, c, g, k⟩
    refine ⟨a, a0, a1, c, ?_⟩
    rw [(imgB_b h hs ⟨a0, by omega⟩ hy.1 (val12 h hy.2)).2 q]
    exact ⟨b, b0, b1, g, by simpa using k⟩
/-- loaded with the first part given -/
theorem ld_second {M : Mem} (h : NtOk M) {s x : Int} (hs : 0 ≤ s ∧ s < 6) (hr : 2 ≤ rkC M s) (hx : vs M x) {fl fh : Int → Int} (F1 : Fil fl (min (M.1 8 2).toNat 6) (fun y => imgB M s 0 y x)) (F2 : Fil fh ((M.1 8 2).toNat - 6) (fun y => imgB M s 0 (y + 6) x)) {y : Int} (hy : vs M y) : ior (fl (iand y 63)) (fh (iand (ishr y 6) 63)) = dN M s x y := by
  obtain ⟨r, e⟩ := halves h (one := fun y => imgB M s 0 y x) F1 F2 hy
  obtain ⟨v, d⟩ := dN2_b h hs hr hx hy
  have h1 := h.1
  have h2 := h.2.1
  refine bt_ext (k := 12) r.1 r.2 v.1 (vs_lt h v) (fun q q0 _ => ?_)
  rw [e q q0, d q]
  constructor
  · intro ⟨b, b0, b1, c, f⟩
    rw [(imgB_b h hs ⟨b0, by omega⟩ hx.1 (val12 h hx.2)).2 q] at f
    obtain ⟨a, a0, a1, g, k⟩ := f
    exact ⟨a, b, a0, a1, b0, b1, g, c, by simpa using k⟩
  · intro ⟨a, b, a0, a1, b0, b1, c, g, k⟩
    refine ⟨b, b0, b1, g, ?_⟩
    rw [(imgB_b h hs ⟨b0, by omega⟩ hx.1 (val12 h hx.2)).2 q]
    exact ⟨a, a0, a1, c, by simpa using k⟩
theorem bt_one {i : Int} (i0 : 0 ≤ i) : bt 1 i ↔ i = 0 := by
  obtain ⟨a, rfl⟩ : ∃ a : Nat, i = a := ⟨i.toNat, by omega⟩
  unfold bt
  rw [Int.toNat_natCast, show (1 : Int).toNat = 2 ^ 0 from rfl, Nat.testBit_two_pow]
  simp
  omega
/-- loaded for a sign of rank 1 -/
theorem ld_alone {M : Mem} (h : NtOk M) {s : Int} (hs : 0 ≤ s ∧ s < 6) (hr : rkC M s = 1) {fl fh : Int → Int} (F1 : Fil fl (min (M.1 8 2).toNat 6) (fun x => imgB M s 1 x 1)) (F2 : Fil fh ((M.1 8 2).toNat - 6) (fun x => imgB M s 1 (x + 6) 1)) {x : Int} (hx : vs M x) (y : Int) : ior (fl (iand x 63)) (fh (iand (ishr x 6) 63)) = dN M s x y := by
  obtain ⟨r, e⟩ := halves h (one := fun x => imgB M s 1 x 1) F1 F2 hx
  have e0 : dN M s x y = imgA M s x := by
    unfold dN
    rw [if_neg (by omega), if_pos (by omega)]
  obtain ⟨v, d⟩ := imgA_b h hs hx.1 (val12 h hx.2)
  have h1 := h.1
  have h2 := h.2.1
  rw [e0]
  refine bt_ext (k := 12) r.1 r.2 v.1 (vs_lt h v) (fun q q0 _ => ?_)
  rw [e q q0, d q]
  constructor
  · intro ⟨a, a0, a1, c, f⟩
    rw [(imgB_b h hs ⟨a0, by omega⟩ (by decide) (by decide)).2 q] at f
    obtain ⟨b, b0, b1, g, k⟩ := f
    rw [bt_one b0] at g
    subst g
    refine ⟨a, a0, a1, c, ?_⟩
    have : s * 144 + (if (1 : Int) = 0 then 0 * 12 + a else a * 12 + 0) = (s * 12 + a) * 12 := by
      rw [if_neg (by decide)]; omega
    rw [this] at k
    exact k
  · intro ⟨a, a0, a1, c, k⟩
    refine ⟨a, a0, a1, c, ?_⟩
    rw [(imgB_b h hs ⟨a0, by omega⟩ (by decide) (by decide)).2 q]
    refine ⟨0, by decide, by omega, (bt_one (by decide)).mpr rfl, ?_⟩
    have : s * 144 + (if (1 : Int) = 0 then 0 * 12 + a else a * 12 + 0) = (s * 12 + a) * 12 := by
      rw [if_neg (by decide)]; omega
    rw [this]
    exact k
