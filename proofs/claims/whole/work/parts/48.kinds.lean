/-! the reducer's rows as functions -/
/-- the first c sets have their marks and kinds -/
def KP (R : Int → Prop) (mk : Int → Int) (c kc : Int) (S Q K KS KM : Int → Int) : Prop := (0 ≤ kc ∧ kc ≤ 6) ∧ 0 ≤ c ∧ (∀ k, 0 ≤ k → k < kc → R (KS k) ∧ KM k = mk (KS k)) ∧ (∀ k k', 0 ≤ k → k < kc → 0 ≤ k' → k' < kc → KM k = KM k' → k = k') ∧ (∀ i, 0 ≤ i → i < c → Q i = mk (S i) ∧ 0 ≤ K i ∧ K i < kc ∧ KM (K i) = mk (S i)) ∧ ∀ k, 0 ≤ k → k < kc → ∃ i, 0 ≤ i ∧ i < c ∧ S i = KS k ∧ ∀ j, 0 ≤ j → j < c → K j = k → i ≤ j
theorem KP.z (R : Int → Prop) (mk S Q K KS KM : Int → Int) : KP R mk 0 0 S Q K KS KM := ⟨by omega, by omega, fun k a b => by omega, fun k k' a b => by omega, fun i a b => by omega, fun k a b => by omega⟩
theorem KP.old {R : Int → Prop} {mk : Int → Int} {c kc : Int} {S Q K KS KM S' : Int → Int} (h : KP R mk c kc S Q K KS KM) {k z : Int} (k0 : 0 ≤ k) (k1 : k < kc) (hk : KM k = mk z) (hS : ∀ i, 0 ≤ i → i < c → S' i = S i) (hz : S' c = z) : KP R mk (c + 1) kc S' (ud Q c (mk z)) (ud K c k) KS KM := by
  obtain ⟨a1, a2, a3, a4, a5, a6⟩ := h
  refine ⟨a1, by omega, a3, a4, fun i i0 i1 => ?_, fun j j0 j1 => ?_⟩
  · by_cases e : i = c
    · subst e
      rw [ud_s, ud_s, hz]
      exact ⟨rfl, k0, k1, hk⟩
    · rw [ud_n e, ud_n e, hS i i0 (by omega)]
      exact a5 i i0 (by omega)
  · obtain ⟨i, i0, i1, e, f⟩ := a6 j j0 j1
    refine ⟨i, i0, by omega, by rw [hS i i0 i1]; exact e, fun l l0 l1 hl => ?_⟩
    by_cases q : l = c
    · omega
    · rw [ud_n q] at hl
      exact f l l0 (by omega) hl
theorem KP.new {R : Int → Prop} {mk : Int → Int} {c kc : Int} {S Q K KS KM S' : Int → Int} (h : KP R mk c kc S Q K KS KM) {z : Int} (hR : R z) (k1 : kc < 6) (hk : ∀ k, 0 ≤ k → k < kc → KM k ≠ mk z) (hS : ∀ i, 0 ≤ i → i < c → S' i = S i) (hz : S' c = z) : KP R mk (c + 1) (kc + 1) S' (ud Q c (mk z)) (ud K c kc) (ud KS kc z) (ud KM kc (mk z)) := by
  obtain ⟨a1, a2, a3, a4, a5, a6⟩ := h
  refine ⟨by omega, by omega, fun j j0 j1 => ?_, fun j j' j0 j1 j2 j3 e => ?_, fun i i0 i1 => ?_, fun j j0 j1 => ?_⟩
  · by_cases e : j = kc
    · subst e; rw [ud_s, ud_s]; exact ⟨hR, rfl⟩
    · rw [ud_n e, ud_n e]; exact a3 j j0 (by omega)
  · by_cases q : j = kc
    · by_cases q' : j' = kc
      · omega
      · rw [q, ud_s, ud_n q'] at e
        exact absurd e.symm (hk j' j2 (by omega))
    · by_cases q' : j' = kc
      · rw [q', ud_s, ud_n q] at e
        exact absurd e (hk j j0 (by omega))
      · rw [ud_n q, ud_n q'] at e
        exact a4 j j' j0 (by omega) j2 (by omega) e
  · by_cases e : i = c
    · subst e
      rw [ud_s, ud_s, ud_s, hz]
      exact ⟨rfl, a1.1, by omega, rfl⟩
    · have w := a5 i i0 (by omega)
      rw [ud_n e, ud_n e, ud_n (show K i ≠ kc by omega), hS i i0 (by omega)]
      exact ⟨w.1, w.2.1, by omega, w.2.2.2⟩
  · by_cases e : j = kc
    · subst e
      refine ⟨c, a2, by omega, by rw [ud_s]; exact hz, fun l l0 l1 hl => ?_⟩
      by_cases q : l = c
      · omega
      · rw [ud_n q] at hl
        have := a5 l l0 (by omega)
        omega
    · obtain ⟨i, i0, i1, e', f⟩ := a6 j j0 (by omega)
      refine ⟨i, i0, by omega, by rw [ud_n e, hS i i0 i1]; exact e', fun l l0 l1 hl => ?_⟩
      by_cases q : l = c
      · omega
      · rw [ud_n q] at hl
        exact f l l0 (by omega) hl
/-- the sets that are reached, and their numbers -/
def SP (R : Int → Prop) (r : Int) (S Nm : Int → Int) : Prop := (0 ≤ r ∧ r ≤ 384) ∧ (∀ i, 0 ≤ i → i < r → R (S i) ∧ Nm (S i) = i + 1) ∧ ∀ z, 0 ≤ z → z < 4096 → Nm z = 0 ∨ (1 ≤ Nm z ∧ Nm z ≤ r ∧ S (Nm z - 1) = z)
def Cd (R : Int → Prop) : Prop := ∃ f : Int → Int, (∀ z, R z → 0 ≤ f z ∧ f z < 384) ∧ ∀ z w, R z → R w → f z = f w → z = w
theorem SP.new {R : Int → Prop} {r : Int} {S Nm : Int → Int} (h : SP R r S Nm) {z : Int} (hR : R z) (z0 : 0 ≤ z) (z1 : z < 4096) (hn : Nm z ≤ 0) (hr : r < 384) : SP R (r + 1) (ud S r z) (ud Nm z (r + 1)) := by
  obtain ⟨a1, a2, a3⟩ := h
  refine ⟨by omega, fun i i0 i1 => ?_, fun w w0 w1 => ?_⟩
  · by_cases e : i = r
    · subst e; rw [ud_s, ud_s]; exact ⟨hR, rfl⟩
    · rw [ud_n e]
      have := a2 i i0 (by omega)
      rw [ud_n (show S i ≠ z from fun q => by rw [q] at this; omega)]
      exact this
  · by_cases e : w = z
    · subst e
      rw [ud_s]
      right
      refine ⟨by omega, by omega, ?_⟩
      rw [show r + 1 - 1 = r by omega, ud_s]
    · rw [ud_n e]
      rcases a3 w w0 w1 with q | ⟨q1, q2, q3⟩
      · exact Or.inl q
      · right
        refine ⟨q1, by omega, ?_⟩
        rw [ud_n (by omega)]
        exact q3
theorem SP.room {R : Int → Prop} {r : Int} {S Nm : Int → Int} (h : SP R r S Nm) (hC : Cd R) {z : Int} (hR : R z) (hn : Nm z ≤ 0) : r < 384 := by
  obtain ⟨a1, a2, a3⟩ := h
  obtain ⟨f, f1, f2⟩ := hC
  rcases Int.lt_or_le r 384 with q | q
  · exact q
  · exfalso
    obtain ⟨i, j, ij, j1, e⟩ := fb_twice (m := 384) (n := 385) (f := fun i => (f (if i < 384 then S i else z)).toNat) (fun i hi => by
      (try dsimp only)
      by_cases w : i < 384
      · rw [if_pos w]
        have := f1 _ (a2 i (by omega) (by omega)).1
        omega
      · rw [if_neg w]
        have := f1 _ hR
        omega) (by decide)
    (try dsimp only at e)
    rw [if_pos (show i < 384 by omega)] at e
    have ri := a2 i (by omega) (by omega)
    have vi := f1 _ ri.1
    by_cases w : j < 384
    · rw [if_pos w] at e
      have rj := a2 j (by omega) (by omega)
      have vj := f1 _ rj.1
      have := f2 _ _ ri.1 rj.1 (by omega)
      rw [this] at ri
      omega
    · rw [if_neg w] at e
      have vj := f1 _ hR
      have := f2 _ _ ri.1 hR (by omega)
      rw [this] at ri
      omega
theorem cel_inj {r s k1 k2 r' s' k1' k2' : Int} (hr : s = s' → r = r') (a1 : 0 ≤ k1 ∧ k1 < 6) (a2 : 0 ≤ k2 ∧ k2 < 6) (b1 : 0 ≤ k1' ∧ k1' < 6) (b2 : 0 ≤ k2' ∧ k2' < 6) (e : cel r s k1 k2 6 = cel r' s' k1' k2' 6) : s = s' ∧ (1 ≤ r → k1 = k1') ∧ (2 ≤ r → k2 = k2') := by
  unfold cel at e
  have c1 : 0 ≤ (if 0 < r then k1 else 0) ∧ (if 0 < r then k1 else 0) < 6 := by split <;> omega
  have c2 : 0 ≤ (if 1 < r then k2 else 0) ∧ (if 1 < r then k2 else 0) < 6 := by split <;> omega
  have c3 : 0 ≤ (if 0 < r' then k1' else 0) ∧ (if 0 < r' then k1' else 0) < 6 := by split <;> omega
  have c4 : 0 ≤ (if 1 < r' then k2' else 0) ∧ (if 1 < r' then k2' else 0) < 6 := by split <;> omega
  have hs : s = s' := by omega
  have := hr hs
  subst this
  refine ⟨hs, fun q => ?_, fun q => ?_⟩
  · rw [if_pos (show 0 < r by omega), if_pos (show 0 < r by omega)] at e
    rw [if_pos (show 0 < r by omega)] at c1 c3
    omega
  · rw [if_pos (show 1 < r by omega), if_pos (show 1 < r by omega)] at e
    rw [if_pos (show 1 < r by omega)] at c2 c4
    omega
theorem cel_r {r s k1 k2 : Int} (hs : 0 ≤ s ∧ s < 6) (a1 : 0 < r → 0 ≤ k1 ∧ k1 < 6) (a2 : 1 < r → 0 ≤ k2 ∧ k2 < 6) : 0 ≤ cel r s k1 k2 6 ∧ cel r s k1 k2 6 < 216 := by
  unfold cel
  have c1 : 0 ≤ (if 0 < r then k1 else 0) ∧ (if 0 < r then k1 else 0) < 6 := by split <;> omega
  have c2 : 0 ≤ (if 1 < r then k2 else 0) ∧ (if 1 < r then k2 else 0) < 6 := by split <;> omega
  omega
theorem cel_c {r s x y x' y' : Int} (h1 : 1 ≤ r → x = x') (h2 : 2 ≤ r → y = y') (w : Int) : cel r s x y w = cel r s x' y' w := by
  unfold cel
  by_cases q : 0 < r
  · by_cases q' : 1 < r
    · rw [h1 (by omega), h2 (by omega)]
    · rw [if_neg q', if_neg q', h1 (by omega)]
  · rw [if_neg q, if_neg q, if_neg (show ¬ 1 < r by omega), if_neg (show ¬ 1 < r by omega)]
/-- what a sign makes does not hang on parts that it has not -/
def Dg (rk : Int → Int) (δ : Int → Int → Int → Int) : Prop := ∀ s x y x' y', (1 ≤ rk s → x = x') → (2 ≤ rk s → y = y') → δ s x y = δ s x' y'
/-- the table of kinds -/
def TP (n : Int) (rk : Int → Int) (δ : Int → Int → Int → Int) (mk : Int → Int) (r kc : Int) (S K KS KM Nm T : Int → Int) (Pd : Int → Int → Int → Prop) : Prop := (∀ s k1 k2, 0 ≤ s → s < n → 0 ≤ k1 → k1 < 6 → 0 ≤ k2 → k2 < 6 → T (cel (rk s) s k1 k2 6) = -1 ∨ (0 ≤ T (cel (rk s) s k1 k2 6) ∧ T (cel (rk s) s k1 k2 6) < kc ∧ (1 ≤ rk s → k1 < kc) ∧ (2 ≤ rk s → k2 < kc) ∧ KM (T (cel (rk s) s k1 k2 6)) = mk (δ s (KS k1) (KS k2)))) ∧ ∀ s x y, 0 ≤ s → s < n → Pd s x y → (1 ≤ rk s → 0 ≤ x ∧ x < r) ∧ (2 ≤ rk s → 0 ≤ y ∧ y < r) ∧ 1 ≤ Nm (δ s (S x) (S y)) ∧ Nm (δ s (S x) (S y)) ≤ r ∧ T (cel (rk s) s (K x) (K y) 6) = K (Nm (δ s (S x) (S y)) - 1)
theorem TP.grow {n : Int} {rk : Int → Int} {δ : Int → Int → Int → Int} {mk : Int → Int} {r kc : Int} {S K KS KM Nm T : Int → Int} {Pd : Int → Int → Int → Prop} (h : TP n rk δ mk r kc S K KS KM Nm T Pd) (hd : Dg rk δ) {r' kc' : Int} {S' K' KS' KM' Nm' : Int → Int} (hr : r ≤ r') (hk : kc ≤ kc') (hS : ∀ i, 0 ≤ i → i < r → S' i = S i) (hK : ∀ i, 0 ≤ i → i < r → K' i = K i) (hKS : ∀ i, 0 ≤ i → i < kc → KS' i = KS i) (hKM : ∀ i, 0 ≤ i → i < kc → KM' i = KM i) (hN : ∀ z, 1 ≤ Nm z → Nm' z = Nm z) : TP n rk δ mk r' kc' S' K' KS' KM' Nm' T Pd := by
  obtain ⟨a, b⟩ := h
  refine ⟨fun s k1 k2 s0 s1 c0 c1 d0 d1 => ?_, fun s x y s0 s1 p => ?_⟩
  · rcases a s k1 k2 s0 s1 c0 c1 d0 d1 with q | ⟨q1, q2, q3, q4, q5⟩
    · exact Or.inl q
    · right
      refine ⟨q1, by omega, fun w => by have := q3 w; omega, fun w => by have := q4 w; omega, ?_⟩
      rw [hKM _ q1 q2, q5]
      congr 1
      exact hd _ _ _ _ _ (fun w => (hKS k1 c0 (q3 w)).symm) (fun w => (hKS k2 d0 (q4 w)).symm)
  · obtain ⟨p1, p2, p3, p4, p5⟩ := b s x y s0 s1 p
    have e : δ s (S' x) (S' y) = δ s (S x) (S y) := hd _ _ _ _ _ (fun w => hS x (p1 w).1 (p1 w).2) (fun w => hS y (p2 w).1 (p2 w).2)
    rw [e, hN _ p3]
    refine ⟨fun w => by have := p1 w; omega, fun w => by have := p2 w; omega, p3, by omega, ?_⟩
    rw [hK (Nm (δ s (S x) (S y)) - 1) (by omega) (by omega), ← p5]
    congr 1
    exact cel_c (fun w => hK x (p1 w).1 (p1 w).2) (fun w => hK y (p2 w).1 (p2 w).2) 6
/-- an open cell is filled by the first sets of its kinds -/
theorem TP.first {R : Int → Prop} {n : Int} {rk : Int → Int} {δ : Int → Int → Int → Int} {mk : Int → Int} {r kc : Int} {S Q K KS KM Nm T : Int → Int} {Pd : Int → Int → Int → Prop} (h : TP n rk δ mk r kc S K KS KM Nm T Pd) (hK : KP R mk r kc S Q K KS KM) {s x y : Int} (s0 : 0 ≤ s) (s1 : s < n) (hx : 0 ≤ x ∧ x < r) (hy : 0 ≤ y ∧ y < r) (hP : ∀ x' y', 0 ≤ x' → x' ≤ x → 0 ≤ y' → y' ≤ y → (x' < x ∨ (2 ≤ rk s ∧ y' < y)) → Pd s x' y') (ho : T (cel (rk s) s (K x) (K y) 6) = -1) (hr1 : 1 ≤ rk s) : S x = KS (K x) ∧ (2 ≤ rk s → S y = KS (K y)) := by
  obtain ⟨a1, a2, a3, a4, a5, a6⟩ := hK
  have bx := a5 x hx.1 hx.2
  have by' := a5 y hy.1 hy.2
  obtain ⟨i, i0, i1, ei, fi⟩ := a6 (K x) bx.2.1 bx.2.2.1
  obtain ⟨j, j0, j1, ej, fj⟩ := a6 (K y) by'.2.1 by'.2.2.1
  have ki : K i = K x := by
    have w := a5 i i0 i1
    refine a4 _ _ w.2.1 w.2.2.1 bx.2.1 bx.2.2.1 ?_
    rw [w.2.2.2, ei, (a3 _ bx.2.1 bx.2.2.1).2]
  have kj : K j = K y := by
    have w := a5 j j0 j1
    refine a4 _ _ w.2.1 w.2.2.1 by'.2.1 by'.2.2.1 ?_
    rw [w.2.2.2, ej, (a3 _ by'.2.1 by'.2.2.1).2]
  have ix := fi x hx.1 hx.2 rfl
  have jy := fj y hy.1 hy.2 rfl
  have key : ¬ (i < x ∨ (2 ≤ rk s ∧ j < y)) := by
    intro w
    have p := h.2 s i j s0 s1 (hP i j i0 ix j0 jy w)
    rw [ki, kj, ho] at p
    have := (a5 _ (show 0 ≤ Nm (δ s (S i) (S j)) - 1 by omega) (by omega)).2.1
    omega
  refine ⟨?_, fun r2 => ?_⟩
  · rw [← ei, show i = x by omega]
  · rw [← ej, show j = y by omega]
/-- a new entry of the table, or one that agrees -/
theorem TP.put {R : Int → Prop} {n : Int} {rk : Int → Int} {δ : Int → Int → Int → Int} {mk : Int → Int} {r kc : Int} {S Q K KS KM Nm T : Int → Int} {Pd : Int → Int → Int → Prop} (h : TP n rk δ mk r kc S K KS KM Nm T Pd) (hd : Dg rk δ) (hK : KP R mk r kc S Q K KS KM) {s x y : Int} (s0 : 0 ≤ s) (s1 : s < n) (hx : 1 ≤ rk s → 0 ≤ x ∧ x < r) (hy : 2 ≤ rk s → 0 ≤ y ∧ y < r) {z : Int} (hz : z = δ s (S x) (S y)) (n1 : 1 ≤ Nm z) (n2 : Nm z ≤ r) (hSz : S (Nm z - 1) = z) (fx : 1 ≤ rk s → S x = KS (K x)) (fy : 2 ≤ rk s → S y = KS (K y)) (ho : T (cel (rk s) s (K x) (K y) 6) = -1) {Pd' : Int → Int → Int → Prop} (hPd : ∀ s' x' y', Pd' s' x' y' → Pd s' x' y' ∨ (s' = s ∧ (1 ≤ rk s → x' = x) ∧ (2 ≤ rk s → y' = y))) : TP n rk δ mk r kc S K KS KM Nm (ud T (cel (rk s) s (K x) (K y) 6) (K (Nm z - 1))) Pd' := by
  have kz := hK.2.2.2.2.1 (Nm z - 1) (by omega) (by omega)
  rw [hSz] at kz
  have bx : 1 ≤ rk s → 0 ≤ K x ∧ K x < kc ∧ K x < 6 := fun w => by have := hK.2.2.2.2.1 x (hx w).1 (hx w).2; have := hK.1; omega
  have by' : 2 ≤ rk s → 0 ≤ K y ∧ K y < kc ∧ K y < 6 := fun w => by have := hK.2.2.2.2.1 y (hy w).1 (hy w).2; have := hK.1; omega
  obtain ⟨a, b⟩ := h
  refine ⟨fun s' k1 k2 t0 t1 c0 c1 d0 d1 => ?_, fun s' x' y' t0 t1 p => ?_⟩
  · by_cases e : cel (rk s') s' k1 k2 6 = cel (rk s) s (K x) (K y) 6
    · rw [e, ud_s]
      have e' : cel (rk s') s' k1 k2 6 = cel (rk s) s (if 1 ≤ rk s then K x else 0) (if 2 ≤ rk s then K y else 0) 6 := by
        rw [e]
        exact cel_c (fun w => by rw [if_pos w]) (fun w => by rw [if_pos w]) 6
      obtain ⟨i1, i2, i3⟩ := cel_inj (fun q => by rw [q]) ⟨c0, c1⟩ ⟨d0, d1⟩ (by split <;> omega) (by split <;> omega) e'
      subst i1
      right
      refine ⟨kz.2.1, kz.2.2.1, fun w => ?_, fun w => ?_, ?_⟩
      · rw [i2 w, if_pos w]; exact (bx w).2.1
      · rw [i3 w, if_pos w]; exact (by' w).2.1
      · rw [kz.2.2.2, hz]
        congr 1
        refine hd _ _ _ _ _ (fun w => ?_) (fun w => ?_)
        · rw [i2 w, if_pos w]; exact fx w
        · rw [i3 w, if_pos w]; exact fy w
    · rw [ud_n e]
      exact a s' k1 k2 t0 t1 c0 c1 d0 d1
  · rcases hPd s' x' y' p with q | ⟨q1, q2, q3⟩
    · obtain ⟨p1, p2, p3, p4, p5⟩ := b s' x' y' t0 t1 q
      refine ⟨p1, p2, p3, p4, ?_⟩
      rw [ud_n, p5]
      intro e
      rw [e, ho] at p5
      have := (hK.2.2.2.2.1 (Nm (δ s' (S x') (S y')) - 1) (by omega) (by omega)).2.1
      omega
    · subst q1
      have e : δ s' (S x') (S y') = z := by
        rw [hz]
        exact hd _ _ _ _ _ (fun w => by rw [q2 w]) (fun w => by rw [q3 w])
      rw [e]
      refine ⟨fun w => by rw [q2 w]; exact hx w, fun w => by rw [q3 w]; exact hy w, n1, n2, ?_⟩
      rw [cel_c (x := K x') (y := K y') (x' := K x) (y' := K y) (fun w => by rw [q2 w]) (fun w => by rw [q3 w]) 6, ud_s]
theorem TP.has {n : Int} {rk : Int → Int} {δ : Int → Int → Int → Int} {mk : Int → Int} {r kc : Int} {S K KS KM Nm T : Int → Int} {Pd : Int → Int → Int → Prop} (h : TP n rk δ mk r kc S K KS KM Nm T Pd) (hd : Dg rk δ) {s x y : Int} (hx : 1 ≤ rk s → 0 ≤ x ∧ x < r) (hy : 2 ≤ rk s → 0 ≤ y ∧ y < r) {z : Int} (hz : z = δ s (S x) (S y)) (n1 : 1 ≤ Nm z) (n2 : Nm z ≤ r) (ho : T (cel (rk s) s (K x) (K y) 6) = K (Nm z - 1)) {Pd' : Int → Int → Int → Prop} (hPd : ∀ s' x' y', Pd' s' x' y' → Pd s' x' y' ∨ (s' = s ∧ (1 ≤ rk s → x' = x) ∧ (2 ≤ rk s → y' = y))) : TP n rk δ mk r kc S K KS KM Nm T Pd' := by
  obtain ⟨a, b⟩ := h
  refine ⟨a, fun s' x' y' t0 t1 p => ?_⟩
  rcases hPd s' x' y' p with q | ⟨q1, q2, q3⟩
  · exact b s' x' y' t0 t1 q
  · subst q1
    have e : δ s' (S x') (S y') = z := by
      rw [hz]
      exact hd _ _ _ _ _ (fun w => by rw [q2 w]) (fun w => by rw [q3 w])
    rw [e]
    refine ⟨fun w => by rw [q2 w]; exact hx w, fun w => by rw [q3 w]; exact hy w, n1, n2, ?_⟩
    rw [cel_c (x := K x') (y := K y') (x' := K x) (y' := K y) (fun w => by rw [q2 w]) (fun w => by rw [q3 w]) 6, ho]
/-- m sets that are reached have marks pairwise different -/
def Wd (mk : Int → Int) (r : Int) (S : Int → Int) (m : Nat) : Prop := ∃ f : Nat → Int, (∀ i, i < m → 0 ≤ f i ∧ f i < r) ∧ ∀ i j, i < j → j < m → mk (S (f i)) ≠ mk (S (f j))
theorem Wd.cut {mk : Int → Int} {r : Int} {S : Int → Int} {m m' : Nat} (h : Wd mk r S m) (l : m' ≤ m) : Wd mk r S m' := by
  obtain ⟨f, a, b⟩ := h
  exact ⟨f, fun i q => a i (by omega), fun i j q q' => b i j q (by omega)⟩
theorem Wd.le {R : Int → Prop} {mk : Int → Int} {r kc : Int} {S Q K KS KM : Int → Int} {m : Nat} (h : Wd mk r S m) (hK : KP R mk r kc S Q K KS KM) : (m : Int) ≤ kc := by
  obtain ⟨f, a, b⟩ := h
  rcases Int.lt_or_le kc m with q | q
  · exfalso
    have k0 := hK.1
    obtain ⟨i, j, ij, j1, e⟩ := fb_twice (m := kc.toNat) (n := m) (f := fun i => (K (f i)).toNat) (fun i hi => by
      have := hK.2.2.2.2.1 (f i) (a i hi).1 (a i hi).2
      show (K (f i)).toNat < kc.toNat
      omega) (by omega)
    have e : (K (f i)).toNat = (K (f j)).toNat := e
    have wi := hK.2.2.2.2.1 (f i) (a i (by omega)).1 (a i (by omega)).2
    have wj := hK.2.2.2.2.1 (f j) (a j j1).1 (a j j1).2
    refine b i j ij j1 ?_
    rw [← wi.2.2.2, ← wj.2.2.2, show K (f i) = K (f j) by omega]
  · exact q
/-- a probe that tells a set from the first one of its kind -/
theorem KP.split {R : Int → Prop} {mk mk' : Int → Int} {r kc : Int} {S Q K KS KM : Int → Int} (hK : KP R mk r kc S Q K KS KM) (hm : ∀ a b, mk' a = mk' b → mk a = mk b) {x : Int} (x0 : 0 ≤ x) (x1 : x < r) (hx : mk' (S x) ≠ mk' (KS (K x))) : Wd mk' r S (kc.toNat + 1) := by
  obtain ⟨a1, a2, a3, a4, a5, a6⟩ := hK
  have g : ∀ i : Nat, ∃ v : Int, (i < kc.toNat → 0 ≤ v ∧ v < r ∧ S v = KS i) ∧ (¬ i < kc.toNat → v = x) := by
    intro i
    by_cases q : i < kc.toNat
    · obtain ⟨v, v0, v1, e, -⟩ := a6 i (by omega) (by omega)
      exact ⟨v, fun _ => ⟨v0, v1, e⟩, fun w => absurd q w⟩
    · exact ⟨x, fun w => absurd w q, fun _ => rfl⟩
  have g2 : ∃ f : Nat → Int, ∀ i : Nat, (i < kc.toNat → 0 ≤ f i ∧ f i < r ∧ S (f i) = KS i) ∧ (¬ i < kc.toNat → f i = x) := ⟨fun i => Classical.choose (g i), fun i => Classical.choose_spec (g i)⟩
  obtain ⟨f, hf⟩ := g2
  refine ⟨f, fun i hi => ?_, fun i j ij hj e => ?_⟩
  · by_cases q : i < kc.toNat
    · have := (hf i).1 q; omega
    · rw [(hf i).2 q]; omega
  · have ei := (hf i).1 (by omega)
    rw [ei.2.2] at e
    by_cases q : j < kc.toNat
    · have ej := (hf j).1 q
      rw [ej.2.2] at e
      have w := hm _ _ e
      rw [← (a3 i (by omega) (by omega)).2, ← (a3 j (by omega) (by omega)).2] at w
      have := a4 i j (by omega) (by omega) (by omega) (by omega) w
      omega
    · rw [(hf j).2 q] at e
      have w := hm _ _ e
      have wx := a5 x x0 x1
      rw [← (a3 i (by omega) (by omega)).2, ← wx.2.2.2] at w
      have := a4 i (K x) (by omega) (by omega) wx.2.1 wx.2.2.1 w
      rw [this] at e
      exact hx e.symm
/-- seven sets told apart -/
theorem KP.lg {R : Int → Prop} {mk : Int → Int} {r kc : Int} {S Q K KS KM : Int → Int} (hK : KP R mk r kc S Q K KS KM) {n : Int} {rk : Int → Int} {δ : Int → Int → Int → Int} {acc : Int → Prop} (hR : ∀ z, R z → Rch n rk δ z) (hi : ∀ a b, R a → R b → Ind n rk δ acc a b → mk a = mk b) {z : Int} (k6 : kc = 6) (hz : R z) (hk : ∀ k, 0 ≤ k → k < kc → KM k ≠ mk z) : Lg n rk δ acc := by
  obtain ⟨a1, a2, a3, a4, a5, a6⟩ := hK
  refine ⟨fun i => if i < 6 then KS i else z, fun i hi' => ?_, fun i j ij hj hI => ?_⟩
  · (try dsimp only)
    by_cases q : i < 6
    · rw [if_pos q]; exact hR _ (a3 i (by omega) (by omega)).1
    · rw [if_neg q]; exact hR _ hz
  · (try dsimp only at hI)
    rw [if_pos (show i < 6 by omega)] at hI
    have wi := a3 i (by omega) (by omega)
    by_cases q : j < 6
    · rw [if_pos q] at hI
      have wj := a3 j (by omega) (by omega)
      have e := hi _ _ wi.1 wj.1 hI
      rw [← wi.2, ← wj.2] at e
      have := a4 i j (by omega) (by omega) (by omega) (by omega) e
      omega
    · rw [if_neg q] at hI
      have e := hi _ _ wi.1 hz hI
      rw [← wi.2] at e
      exact hk i (by omega) (by omega) e
