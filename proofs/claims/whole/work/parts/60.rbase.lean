/-! the reference: keys -/
def KC (N M : Mem) : Prop := M.2 = N.2 ∧ (∀ a, a ≠ 62 → ¬ (76 ≤ a ∧ a ≤ 89) → M.1 a = N.1 a) ∧ ∀ k, k ≠ 26 → ¬ (34 ≤ k ∧ k ≤ 38) → M.1 62 k = N.1 62 k
theorem KC.rf (N : Mem) : KC N N := ⟨rfl, fun _ _ _ => rfl, fun _ _ _ => rfl⟩
theorem KC.up {N M : Mem} (h : KC N M) {a k v : Int} (ha : (a = 62 ∧ (k = 26 ∨ (34 ≤ k ∧ k ≤ 38))) ∨ (76 ≤ a ∧ a ≤ 89)) : KC N (up M a k v) := by
  refine ⟨by rw [up_2]; exact h.1, fun a' q1 q2 => ?_, fun k' q1 q2 => ?_⟩
  · rw [up_n (by omega)]; exact h.2.1 a' q1 q2
  · rw [up_1, if_neg (by omega)]; exact h.2.2 k' q1 q2
theorem KC.sb {N M : Mem} (h : KC N M) (q : SB N) : SB M := by
  refine SB_c q h.1 (fun a k s => ?_)
  by_cases e : a = 62
  · subst e
    unfold stp at s
    exact h.2.2 k (by omega) (by omega)
  · have : ¬ (76 ≤ a ∧ a ≤ 89) := by unfold stp at s; omega
    rw [h.2.1 a e this]
theorem KC.tr {N M M' : Mem} (h : KC N M) (h' : KC M M') : KC N M' := ⟨h'.1.trans h.1, fun a q1 q2 => (h'.2.1 a q1 q2).trans (h.2.1 a q1 q2), fun k q1 q2 => (h'.2.2 k q1 q2).trans (h.2.2 k q1 q2)⟩
/-- both sides have the same signs -/
def SgE (N : Mem) : Prop := SgOk N ∧ N.1 62 0 = N.1 1 1 ∧ ∀ s, 0 ≤ s → s < N.1 1 1 → N.1 63 s = rkC N s
def rX (N : Mem) (nx : Int → Int → Int → Int) : Int → Int → Int → Int := fun s x y => nx s (if 1 ≤ rkC N s then x else 0) (if 2 ≤ rkC N s then y else 0)
abbrev RX (N : Mem) (nx : Int → Int → Int → Int) (z : Int) : Prop := Rch (N.1 1 1) (rkC N) (rX N nx) z
/-- what the reference asks of its keys -/
def RA (N : Mem) (nx : Int → Int → Int → Int) (fn : Int → Int) : Prop := SB N ∧ SgE N ∧ (∀ M, KC N M → ∀ s x y, 0 ≤ s → s < N.1 1 1 → (1 ≤ rkC N s → RX N nx x) → (2 ≤ rkC N s → RX N nx y) → (¬ 1 ≤ rkC N s → x = 0) → (¬ 2 ≤ rkC N s → y = 0) → D_M_next 62 s x y M = some (nx s x y, M)) ∧ (∀ M, KC N M → ∀ z, RX N nx z → D_M_isFinal 62 z M = some (fn z, M)) ∧ (∀ z, RX N nx z → 0 ≤ z ∧ z < 512) ∧ ∀ z, fn z = 0 ∨ fn z = 1
theorem rX_dg (N : Mem) (nx : Int → Int → Int → Int) : Dg (rkC N) (rX N nx) := by
  intro s x y x' y' h1 h2
  unfold rX
  by_cases q1 : 1 ≤ rkC N s
  · rw [if_pos q1, if_pos q1, h1 q1]
    by_cases q2 : 2 ≤ rkC N s
    · rw [if_pos q2, if_pos q2, h2 q2]
    · rw [if_neg q2, if_neg q2]
  · rw [if_neg q1, if_neg q1, if_neg (show ¬ 2 ≤ rkC N s by omega), if_neg (show ¬ 2 ≤ rkC N s by omega)]
/-- the keys that are found -/
def KS (R : Int → Prop) (r : Int) (K A : Int → Int) : Prop := (0 ≤ r ∧ r ≤ 512) ∧ (∀ i, 0 ≤ i → i < r → R (K i) ∧ A (K i) = i) ∧ ∀ z, 0 ≤ z → z < 512 → A z = -1 ∨ (0 ≤ A z ∧ A z < r ∧ K (A z) = z)
theorem KS.room {R : Int → Prop} {r : Int} {K A : Int → Int} (h : KS R r K A) (hR : ∀ z, R z → 0 ≤ z ∧ z < 512) {z : Int} (hz : R z) (hn : A z = -1) : r < 512 := by
  obtain ⟨a1, a2, a3⟩ := h
  rcases Int.lt_or_le r 512 with q | q
  · exact q
  · exfalso
    obtain ⟨i, j, ij, j1, e⟩ := fb_twice (m := 512) (n := 513) (f := fun i => ((if i < 512 then K i else z)).toNat) (fun i hi => by
      show ((if i < 512 then K i else z)).toNat < 512
      by_cases w : i < 512
      · rw [if_pos w]; have := hR _ (a2 i (by omega) (by omega)).1; omega
      · rw [if_neg w]; have := hR _ hz; omega) (by decide)
    have e : ((if i < 512 then K i else z)).toNat = ((if j < 512 then K j else z)).toNat := e
    rw [if_pos (show i < 512 by omega)] at e
    have ri := a2 i (by omega) (by omega)
    have vi := hR _ ri.1
    by_cases w : j < 512
    · rw [if_pos w] at e
      have rj := a2 j (by omega) (by omega)
      have vj := hR _ rj.1
      rw [show K i = K j by omega] at ri
      omega
    · rw [if_neg w] at e
      have vj := hR _ hz
      rw [show K i = z by omega] at ri
      omega
theorem KS.new {R : Int → Prop} {r : Int} {K A : Int → Int} (h : KS R r K A) {z : Int} (hR : R z) (hn : A z = -1) (hr : r < 512) : KS R (r + 1) (ud K r z) (ud A z r) := by
  obtain ⟨a1, a2, a3⟩ := h
  refine ⟨by omega, fun i i0 i1 => ?_, fun w w0 w1 => ?_⟩
  · by_cases e : i = r
    · subst e; rw [ud_s, ud_s]; exact ⟨hR, rfl⟩
    · rw [ud_n e]
      have := a2 i i0 (by omega)
      rw [ud_n (show K i ≠ z from fun q => by rw [q] at this; omega)]
      exact this
  · by_cases e : w = z
    · subst e
      rw [ud_s]
      right
      refine ⟨by omega, by omega, ?_⟩
      rw [ud_s]
    · rw [ud_n e]
      rcases a3 w w0 w1 with q | ⟨q1, q2, q3⟩
      · exact Or.inl q
      · right
        refine ⟨q1, by omega, ?_⟩
        rw [ud_n (by omega)]
        exact q3
def ixr (rk : Int → Int) (s x y : Int) : Int := 262144 * s + 512 * (if 1 ≤ rk s then x else 0) + (if 2 ≤ rk s then y else 0)
theorem ixr_r {rk : Int → Int} {s x y : Int} (s0 : 0 ≤ s) (s1 : s < 6) (hx : 1 ≤ rk s → 0 ≤ x ∧ x < 512) (hy : 2 ≤ rk s → 0 ≤ y ∧ y < 512) : 0 ≤ ixr rk s x y ∧ ixr rk s x y < 1572864 := by
  unfold ixr
  have c1 : 0 ≤ (if 1 ≤ rk s then x else 0) ∧ (if 1 ≤ rk s then x else 0) < 512 := by split <;> omega
  have c2 : 0 ≤ (if 2 ≤ rk s then y else 0) ∧ (if 2 ≤ rk s then y else 0) < 512 := by split <;> omega
  omega
theorem ixr_inj {rk : Int → Int} {s x y s' x' y' : Int} (hx : 1 ≤ rk s → 0 ≤ x ∧ x < 512) (hy : 2 ≤ rk s → 0 ≤ y ∧ y < 512) (hx' : 1 ≤ rk s' → 0 ≤ x' ∧ x' < 512) (hy' : 2 ≤ rk s' → 0 ≤ y' ∧ y' < 512) (e : ixr rk s x y = ixr rk s' x' y') : s = s' ∧ (1 ≤ rk s → x = x') ∧ (2 ≤ rk s → y = y') := by
  unfold ixr at e
  have c1 : 0 ≤ (if 1 ≤ rk s then x else 0) ∧ (if 1 ≤ rk s then x else 0) < 512 := by split <;> omega
  have c2 : 0 ≤ (if 2 ≤ rk s then y else 0) ∧ (if 2 ≤ rk s then y else 0) < 512 := by split <;> omega
  have c3 : 0 ≤ (if 1 ≤ rk s' then x' else 0) ∧ (if 1 ≤ rk s' then x' else 0) < 512 := by split <;> omega
  have c4 : 0 ≤ (if 2 ≤ rk s' then y' else 0) ∧ (if 2 ≤ rk s' then y' else 0) < 512 := by split <;> omega
  have hs : s = s' := by omega
  subst hs
  refine ⟨rfl, fun q => ?_, fun q => ?_⟩
  · rw [if_pos q, if_pos q] at e
    rw [if_pos q] at c1 c3
    omega
  · rw [if_pos q, if_pos q] at e
    rw [if_pos q] at c2 c4
    omega
theorem ixr_c {rk : Int → Int} {s x y x' y' : Int} (h1 : 1 ≤ rk s → x = x') (h2 : 2 ≤ rk s → y = y') : ixr rk s x y = ixr rk s x' y' := by
  unfold ixr
  by_cases q1 : 1 ≤ rk s
  · by_cases q2 : 2 ≤ rk s
    · rw [h1 q1, h2 q2]
    · rw [if_neg q2, if_neg q2, h1 q1]
  · rw [if_neg q1, if_neg q1, if_neg (show ¬ 2 ≤ rk s by omega), if_neg (show ¬ 2 ≤ rk s by omega)]
def CP (n : Int) (rk : Int → Int) (δ : Int → Int → Int → Int) (r : Int) (K A Cm : Int → Int) (Pd : Int → Int → Int → Prop) : Prop := ∀ s x y, 0 ≤ s → s < n → Pd s x y → (1 ≤ rk s → 0 ≤ x ∧ x < r) ∧ (2 ≤ rk s → 0 ≤ y ∧ y < r) ∧ Cm (ixr rk s x y) = A (δ s (K x) (K y)) ∧ 0 ≤ A (δ s (K x) (K y))
/-- the machines' first trees stay -/
def F76 (N M : Mem) : Prop := ∀ a, 76 ≤ a → a ≤ 79 → M.1 a = N.1 a
theorem F76.up {N M : Mem} (h : F76 N M) {a k v : Int} (ha : a < 76 ∨ 79 < a) : F76 N (up M a k v) := fun a' a0 a1 => by rw [up_n (by omega)]; exact h a' a0 a1
theorem F76.tr {N M M' : Mem} (h : F76 N M) (h' : F76 M M') : F76 N M' := fun a a0 a1 => (h' a a0 a1).trans (h a a0 a1)
def KI (N : Mem) (nx : Int → Int → Int → Int) (Pd : Int → Int → Int → Prop) (M : Mem) : Prop := KC N M ∧ KS (RX N nx) (M.1 62 26) (M.1 80) (M.1 81) ∧ CP (N.1 1 1) (rkC N) (rX N nx) (M.1 62 26) (M.1 80) (M.1 81) (M.1 85) Pd ∧ F76 N M
theorem KI.mono {N : Mem} {nx : Int → Int → Int → Int} {Pd Pd' : Int → Int → Int → Prop} {M : Mem} (h : KI N nx Pd M) (hp : ∀ s x y, 0 ≤ s → s < N.1 1 1 → Pd' s x y → Pd s x y) : KI N nx Pd' M := ⟨h.1, h.2.1, fun s x y s0 s1 p => h.2.2.1 s x y s0 s1 (hp s x y s0 s1 p), h.2.2.2⟩
theorem add_ok {N M : Mem} {nx : Int → Int → Int → Int} {fn : Int → Int} {Pd : Int → Int → Int → Prop} (R : RA N nx fn) (h : KI N nx Pd M) {s i j : Int} (s0 : 0 ≤ s) (s1 : s < N.1 1 1) (hi : 1 ≤ rkC N s → 0 ≤ i ∧ i < M.1 62 26) (hj : 2 ≤ rkC N s → 0 ≤ j ∧ j < M.1 62 26) (hi0 : ¬ 1 ≤ rkC N s → i = 0) (hj0 : ¬ 2 ≤ rkC N s → j = 0) : OkM (D_M_add 62 s i j M) (fun M' => KI N nx (Ad N Pd s i j) M' ∧ M.1 62 26 ≤ M'.1 62 26) := by
  obtain ⟨hC, hK, hP, h76⟩ := h
  have hB := hC.sb R.1
  have hS := hB.m_
  have rg := R.2.1.1.rk s
  have n6 := R.2.1.1.2.1
  have rke : M.1 63 s = rkC N s := by rw [hC.2.1 63 (by decide) (by decide)]; exact R.2.1.2.2 s s0 s1
  have s6 : s < 6 := by omega
  have r512 := hK.1
  have rx : 1 ≤ rkC N s → RX N nx (M.1 80 i) := fun q => (hK.2.1 i (hi q).1 (hi q).2).1
  have ry : 2 ≤ rkC N s → RX N nx (M.1 80 j) := fun q => (hK.2.1 j (hj q).1 (hj q).2).1
  have rz : RX N nx (rX N nx s (M.1 80 i) (M.1 80 j)) := Rch.mk s0 s1 rx ry
  have zb := R.2.2.2.2.1 _ rz
  have hn := R.2.2.1 M hC s (if 1 ≤ rkC N s then M.1 80 i else 0) (if 2 ≤ rkC N s then M.1 80 j else 0) s0 s1 (fun q => by rw [if_pos q]; exact rx q) (fun q => by rw [if_pos q]; exact ry q) (fun q => if_neg q) (fun q => if_neg q)
  have hn' : D_M_next 62 s (if 1 ≤ rkC N s then M.1 80 i else 0) (if 2 ≤ rkC N s then M.1 80 j else 0) M = some (rX N nx s (M.1 80 i) (M.1 80 j), M) := hn
  have i512 : 1 ≤ rkC N s → 0 ≤ i ∧ i < 512 := fun q => by have := hi q; omega
  have j512 : 2 ≤ rkC N s → 0 ≤ j ∧ j < 512 := fun q => by have := hj q; omega
  have ir := ixr_r s0 s6 i512 j512
  have ei : wr (wr (wr (262144 * s) + wr (512 * i)) + j) = ixr (rkC N) s i j := by
    have ib : 0 ≤ i ∧ i < 512 := by
      by_cases q : 1 ≤ rkC N s
      · exact i512 q
      · have := hi0 q; omega
    have jb : 0 ≤ j ∧ j < 512 := by
      by_cases q : 2 ≤ rkC N s
      · exact j512 q
      · have := hj0 q; omega
    rw [wr_eq (z := 262144 * s) (by omega) (by omega), wr_eq (z := 512 * i) (by omega) (by omega), wr_eq (z := 262144 * s + 512 * i) (by omega) (by omega), wr_eq (by omega) (by omega)]
    unfold ixr
    by_cases q1 : 1 ≤ rkC N s
    · rw [if_pos q1]
      by_cases q2 : 2 ≤ rkC N s
      · rw [if_pos q2]
      · rw [if_neg q2, hj0 q2]
    · rw [if_neg q1, if_neg (show ¬ 2 ≤ rkC N s by omega), hi0 q1, hj0 (by omega)]
  -- the arguments as they are read
  have a1 : (if rkC N s ≤ 0 then some 0 else ((rd M 10 80 i).bind fun e16 => some e16)) = some (if 1 ≤ rkC N s then M.1 80 i else 0) := by
    by_cases q : 1 ≤ rkC N s
    · have := i512 q
      rw [if_neg (show ¬ rkC N s ≤ 0 by omega), if_pos q, rd_v (n := 512) (by simp [hS]) this.1 (by omega), obs]
    · rw [if_pos (show rkC N s ≤ 0 by omega), if_neg q]
  have a2 : (if rkC N s ≤ 1 then some 0 else ((rd M 10 80 j).bind fun e16 => some e16)) = some (if 2 ≤ rkC N s then M.1 80 j else 0) := by
    by_cases q : 2 ≤ rkC N s
    · have := j512 q
      rw [if_neg (show ¬ rkC N s ≤ 1 by omega), if_pos q, rd_v (n := 512) (by simp [hS]) this.1 (by omega), obs]
    · rw [if_pos (show rkC N s ≤ 1 by omega), if_neg q]
  have hrd : rd M 10 63 s = some (rkC N s) := by rw [rd_v (n := 6) (by simp [hS]) s0 (by omega), rke]
  have g1 : gf M 62 9 54 1 = some 63 := by simp [gf, hS]
  have g27 : gf M 62 9 54 27 = some 80 := by simp [gf, hS]
  unfold D_M_add
  simp only [g1, g27, obs, hrd, a1, a2]
  generalize hz : rX N nx s (M.1 80 i) (M.1 80 j) = z at *
  by_cases hA : M.1 81 z = -1
  · have rm := hK.room R.2.2.2.2.1 rz hA
    have r0 := hK.1.1
    have e1 : wr (M.1 62 26 + 1) = M.1 62 26 + 1 := wr_eq (by omega) (by omega)
    simp [-Option.bind_some, -Option.bind_none, gf, pf, rd, wt, ck, ln, lt, bz, nq, up_1, up_2, obs, obn, hS, hn', zb, hA, r0, rm, e1, ei, ir]
    have hKn := hK.new rz hA rm
    refine OkM.i ⟨⟨(((hC.up (by omega)).up (by omega)).up (by omega)).up (by omega), ?_, ?_, (((h76.up (by omega)).up (by omega)).up (by omega)).up (by omega)⟩, ?_⟩
    · simpa [up_f, up_1, ud_a] using hKn
    · have c80 : (up (up (up (up M 81 z (M.1 62 26)) 80 (M.1 62 26) z) 62 26 (M.1 62 26 + 1)) 85 (ixr (rkC N) s i j) (M.1 62 26)).1 80 = ud (M.1 80) (M.1 62 26) z := by simp [up_f]
      have c81 : (up (up (up (up M 81 z (M.1 62 26)) 80 (M.1 62 26) z) 62 26 (M.1 62 26 + 1)) 85 (ixr (rkC N) s i j) (M.1 62 26)).1 81 = ud (M.1 81) z (M.1 62 26) := by simp [up_f]
      have c85 : (up (up (up (up M 81 z (M.1 62 26)) 80 (M.1 62 26) z) 62 26 (M.1 62 26 + 1)) 85 (ixr (rkC N) s i j) (M.1 62 26)).1 85 = ud (M.1 85) (ixr (rkC N) s i j) (M.1 62 26) := by simp [up_f]
      have c62 : (up (up (up (up M 81 z (M.1 62 26)) 80 (M.1 62 26) z) 62 26 (M.1 62 26 + 1)) 85 (ixr (rkC N) s i j) (M.1 62 26)).1 62 26 = M.1 62 26 + 1 := by simp [up_1]
      rw [c80, c81, c85, c62]
      intro s' x' y' t0 t1 p
      have old : ∀ x y, (1 ≤ rkC N s' → 0 ≤ x ∧ x < M.1 62 26) → (2 ≤ rkC N s' → 0 ≤ y ∧ y < M.1 62 26) → rX N nx s' (ud (M.1 80) (M.1 62 26) z x) (ud (M.1 80) (M.1 62 26) z y) = rX N nx s' (M.1 80 x) (M.1 80 y) := fun x y hx hy => rX_dg N nx _ _ _ _ _ (fun q => ud_n (by have := hx q; omega)) (fun q => ud_n (by have := hy q; omega))
      rcases p with p | ⟨p1, p2, p3⟩
      · obtain ⟨b1, b2, b3, b4⟩ := hP s' x' y' t0 t1 p
        rw [old x' y' b1 b2]
        have nz : rX N nx s' (M.1 80 x') (M.1 80 y') ≠ z := fun q => by rw [q] at b4; omega
        rw [ud_n nz]
        refine ⟨fun q => by have := b1 q; omega, fun q => by have := b2 q; omega, ?_, b4⟩
        rw [ud_n]
        · exact b3
        · intro q
          obtain ⟨i1, i2, i3⟩ := ixr_inj (fun w => by have := b1 w; omega) (fun w => by have := b2 w; omega) i512 j512 q
          subst i1
          refine nz ?_
          rw [← hz]
          exact rX_dg N nx _ _ _ _ _ (fun w => by rw [i2 w]) (fun w => by rw [i3 w])
      · subst p1
        have hx' : 1 ≤ rkC N s' → 0 ≤ x' ∧ x' < M.1 62 26 := fun q => by rw [p2 q]; exact hi q
        have hy' : 2 ≤ rkC N s' → 0 ≤ y' ∧ y' < M.1 62 26 := fun q => by rw [p3 q]; exact hj q
        have ez : rX N nx s' (M.1 80 x') (M.1 80 y') = z := by
          rw [← hz]; exact rX_dg N nx _ _ _ _ _ (fun w => by rw [p2 w]) (fun w => by rw [p3 w])
        rw [old x' y' hx' hy', ez, ud_s, ixr_c p2 p3, ud_s]
        exact ⟨fun q => by have := hx' q; omega, fun q => by have := hy' q; omega, rfl, r0⟩
    · simp [-Option.bind_some, -Option.bind_none, gf, pf, rd, wt, ck, ln, lt, bz, nq, up_1, up_2, obs, obn]
      omega
  · simp [-Option.bind_some, -Option.bind_none, gf, pf, rd, wt, ck, ln, lt, bz, nq, up_1, up_2, obs, obn, hS, hn', zb, hA, ei, ir]
    have a0 : 0 ≤ M.1 81 z := by
      rcases hK.2.2 z zb.1 zb.2 with q | q
      · exact absurd q hA
      · exact q.1
    refine OkM.i ⟨⟨hC.up (by omega), ?_, ?_, h76.up (by omega)⟩, ?_⟩
    · simpa [up_f, up_1] using hK
    · have c85 : (up M 85 (ixr (rkC N) s i j) (M.1 81 z)).1 85 = ud (M.1 85) (ixr (rkC N) s i j) (M.1 81 z) := by simp [up_f]
      rw [c85, up_n (by decide), up_n (by decide), up_n (by decide)]
      intro s' x' y' t0 t1 p
      have same : s' = s → (1 ≤ rkC N s → x' = i) → (2 ≤ rkC N s → y' = j) → rX N nx s' (M.1 80 x') (M.1 80 y') = z := fun q1 q2 q3 => by
        subst q1
        rw [← hz]; exact rX_dg N nx _ _ _ _ _ (fun w => by rw [q2 w]) (fun w => by rw [q3 w])
      rcases p with p | ⟨p1, p2, p3⟩
      · obtain ⟨b1, b2, b3, b4⟩ := hP s' x' y' t0 t1 p
        refine ⟨b1, b2, ?_, b4⟩
        by_cases q : ixr (rkC N) s' x' y' = ixr (rkC N) s i j
        · obtain ⟨i1, i2, i3⟩ := ixr_inj (fun w => by have := b1 w; omega) (fun w => by have := b2 w; omega) i512 j512 q
          rw [q, ud_s, same i1 (fun w => i2 (by rw [i1]; exact w)) (fun w => i3 (by rw [i1]; exact w))]
        · rw [ud_n q]; exact b3
      · have ez := same p1 p2 p3
        subst p1
        rw [ez, ixr_c p2 p3, ud_s]
        exact ⟨fun q => by rw [p2 q]; exact hi q, fun q => by rw [p3 q]; exact hj q, rfl, a0⟩
    · simp [-Option.bind_some, -Option.bind_none, gf, pf, rd, wt, ck, ln, lt, bz, nq, up_1, up_2, obs, obn]
