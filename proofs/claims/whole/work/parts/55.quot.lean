/-! machines of kinds, and their numbering by first trees -/
def QM (n : Int) (rk : Int → Int) (δ : Int → Int → Int → Int) (acc : Int → Prop) (kc : Int) (τ : Int → Int → Int → Int) (fin : Int → Prop) (κ : Int → Int) : Prop := (0 ≤ kc ∧ kc ≤ 6) ∧ Dg rk τ ∧ (∀ s x y, 0 ≤ s → s < n → (1 ≤ rk s → Rch n rk δ x) → (2 ≤ rk s → Rch n rk δ y) → κ (δ s x y) = τ s (κ x) (κ y)) ∧ (∀ a, Rch n rk δ a → 0 ≤ κ a ∧ κ a < kc) ∧ (∀ a, Rch n rk δ a → (acc a ↔ fin (κ a))) ∧ (∀ a a', Rch n rk δ a → Rch n rk δ a' → Ind n rk δ acc a a' → κ a = κ a') ∧ ∀ k, 0 ≤ k → k < kc → ∃ a, Rch n rk δ a ∧ κ a = k
def szf (rk sz : Int → Int) (s x y : Int) : Int := 1 + (if 1 ≤ rk s then sz x else 0) + (if 2 ≤ rk s then sz y else 0)
/-- the first c kinds have their numbers -/
def NP (n : Int) (rk : Int → Int) (τ : Int → Int → Int → Int) (kc c : Int) (ck kcl sz hd f1 f2 : Int → Int) : Prop := (∀ i, 0 ≤ i → i < c → 0 ≤ ck i ∧ ck i < kc ∧ kcl (ck i) = i) ∧ (∀ k, 0 ≤ k → k < kc → kcl k = -1 ∨ (0 ≤ kcl k ∧ kcl k < c ∧ ck (kcl k) = k)) ∧ ∀ i, 0 ≤ i → i < c → (0 ≤ hd i ∧ hd i < n) ∧ Arg rk i (hd i) (f1 i) (f2 i) ∧ τ (hd i) (ck (f1 i)) (ck (f2 i)) = ck i ∧ sz i = szf rk sz (hd i) (f1 i) (f2 i) ∧ ∀ s x y, 0 ≤ s → s < n → Arg rk i s x y → (∀ j, 0 ≤ j → j < i → ck j ≠ τ s (ck x) (ck y)) → lexle (sz i) (hd i) (f1 i) (f2 i) (szf rk sz s x y) s x y
section QUOT
variable {n : Int} {rk : Int → Int} {δ : Int → Int → Int → Int} {acc : Int → Prop} {kc : Int} {τ : Int → Int → Int → Int} {fin : Int → Prop} {κ : Int → Int}
theorem QM.arg {c : Int} {ck : Int → Int} (h : QM n rk δ acc kc τ fin κ) (hc : ∀ i, 0 ≤ i → i < c → 0 ≤ ck i ∧ ck i < kc) {s x y : Int} (s0 : 0 ≤ s) (s1 : s < n) (hA : Arg rk c s x y) : ∃ a b, (1 ≤ rk s → Rch n rk δ a ∧ κ a = ck x) ∧ (2 ≤ rk s → Rch n rk δ b ∧ κ b = ck y) ∧ κ (δ s a b) = τ s (ck x) (ck y) ∧ Rch n rk δ (δ s a b) := by
  obtain ⟨g1, g2, g3, g4⟩ := hA
  have e1 : ∃ a, 1 ≤ rk s → Rch n rk δ a ∧ κ a = ck x := by
    by_cases q : 1 ≤ rk s
    · have := hc x (g1 q).1 (g1 q).2
      obtain ⟨a, ha⟩ := h.2.2.2.2.2.2 (ck x) this.1 this.2
      exact ⟨a, fun _ => ha⟩
    · exact ⟨0, fun w => absurd w q⟩
  have e2 : ∃ a, 2 ≤ rk s → Rch n rk δ a ∧ κ a = ck y := by
    by_cases q : 2 ≤ rk s
    · have := hc y (g3 q).1 (g3 q).2
      obtain ⟨a, ha⟩ := h.2.2.2.2.2.2 (ck y) this.1 this.2
      exact ⟨a, fun _ => ha⟩
    · exact ⟨0, fun w => absurd w q⟩
  obtain ⟨a, ha⟩ := e1
  obtain ⟨b, hb⟩ := e2
  refine ⟨a, b, ha, hb, ?_, Rch.mk s0 s1 (fun q => (ha q).1) (fun q => (hb q).1)⟩
  rw [h.2.2.1 s a b s0 s1 (fun q => (ha q).1) (fun q => (hb q).1)]
  exact h.2.1 _ _ _ _ _ (fun q => (ha q).2) (fun q => (hb q).2)
theorem QM.tr {c : Int} {ck : Int → Int} (h : QM n rk δ acc kc τ fin κ) (hc : ∀ i, 0 ≤ i → i < c → 0 ≤ ck i ∧ ck i < kc) {s x y : Int} (s0 : 0 ≤ s) (s1 : s < n) (hA : Arg rk c s x y) : 0 ≤ τ s (ck x) (ck y) ∧ τ s (ck x) (ck y) < kc := by
  obtain ⟨a, b, ha, hb, e, r⟩ := h.arg hc s0 s1 hA
  rw [← e]
  exact h.2.2.2.1 _ r
theorem NP.k {c : Int} {ck kcl sz hd f1 f2 : Int → Int} (h : NP n rk τ kc c ck kcl sz hd f1 f2) : ∀ i, 0 ≤ i → i < c → 0 ≤ ck i ∧ ck i < kc := fun i a b => ⟨(h.1 i a b).1, (h.1 i a b).2.1⟩
theorem NP.bnd {c : Int} {ck kcl sz hd f1 f2 : Int → Int} (h : NP n rk τ kc c ck kcl sz hd f1 f2) : ∀ (k : Nat), (k : Int) < c → 1 ≤ sz k ∧ sz k < 2 ^ (k + 1) := by
  intro k
  induction k using Nat.strongRecOn with
  | _ k ih =>
    intro hk
    obtain ⟨-, ⟨g1, g2, g3, g4⟩, -, e, -⟩ := h.2.2 k (by omega) hk
    have hp : (1 : Int) ≤ 2 ^ k := by
      have := Nat.pow_pos (n := k) (show 0 < 2 by decide)
      rw [← p2i]; omega
    have b1 : 1 ≤ rk (hd k) → 1 ≤ sz (f1 k) ∧ sz (f1 k) < 2 ^ k := by
      intro q
      have w := g1 q
      have := ih (f1 k).toNat (by omega) (by omega)
      rw [show (((f1 k).toNat : Nat) : Int) = f1 k by omega] at this
      have u : (2 : Int) ^ ((f1 k).toNat + 1) ≤ 2 ^ k := by
        rw [← p2i, ← p2i]
        have := Nat.pow_le_pow_right (show 0 < 2 by decide) (show (f1 k).toNat + 1 ≤ k by omega)
        omega
      omega
    have b2 : 2 ≤ rk (hd k) → 1 ≤ sz (f2 k) ∧ sz (f2 k) < 2 ^ k := by
      intro q
      have w := g3 q
      have := ih (f2 k).toNat (by omega) (by omega)
      rw [show (((f2 k).toNat : Nat) : Int) = f2 k by omega] at this
      have u : (2 : Int) ^ ((f2 k).toNat + 1) ≤ 2 ^ k := by
        rw [← p2i, ← p2i]
        have := Nat.pow_le_pow_right (show 0 < 2 by decide) (show (f2 k).toNat + 1 ≤ k by omega)
        omega
      omega
    rw [e]
    have ep : (2 : Int) ^ (k + 1) = 2 ^ k * 2 := Int.pow_succ 2 k
    rw [ep]
    unfold szf
    by_cases q1 : 1 ≤ rk (hd k)
    · have := b1 q1
      by_cases q2 : 2 ≤ rk (hd k)
      · have := b2 q2
        rw [if_pos q1, if_pos q2]; omega
      · rw [if_pos q1, if_neg q2]; omega
    · rw [if_neg q1, if_neg (show ¬ 2 ≤ rk (hd k) by omega)]; omega
theorem NP.b63 {c : Int} {ck kcl sz hd f1 f2 : Int → Int} (h : NP n rk τ kc c ck kcl sz hd f1 f2) (c6 : c ≤ 6) : ∀ i, 0 ≤ i → i < c → 1 ≤ sz i ∧ sz i < 64 := by
  intro i i0 i1
  have w := h.bnd i.toNat (by omega)
  rw [show ((i.toNat : Nat) : Int) = i by omega] at w
  have u : (2 : Int) ^ (i.toNat + 1) ≤ 2 ^ 6 := by
    rw [← p2i, ← p2i]
    have := Nat.pow_le_pow_right (show 0 < 2 by decide) (show i.toNat + 1 ≤ 6 by omega)
    omega
  omega
/-- there is one more -/
theorem NP.ex {c : Int} {ck kcl sz hd f1 f2 : Int → Int} (h : NP n rk τ kc c ck kcl sz hd f1 f2) (Q : QM n rk δ acc kc τ fin κ) (c0 : 0 ≤ c) (hc : c < kc) : ∃ s x y, 0 ≤ s ∧ s < n ∧ Arg rk c s x y ∧ ∀ j, 0 ≤ j → j < c → ck j ≠ τ s (ck x) (ck y) := by
  refine Classical.byContradiction fun H => ?_
  have key : ∀ a, Rch n rk δ a → ∃ j, 0 ≤ j ∧ j < c ∧ ck j = κ a := by
    intro a ha
    have w : (∃ j, 0 ≤ j ∧ j < c ∧ ck j = κ a) ∧ Rch n rk δ a := by
      refine ha (fun a => (∃ j, 0 ≤ j ∧ j < c ∧ ck j = κ a) ∧ Rch n rk δ a) ?_
      intro s x y s0 s1 hx hy
      have rr : Rch n rk δ (δ s x y) := Rch.mk s0 s1 (fun q => (hx q).2) (fun q => (hy q).2)
      refine ⟨?_, rr⟩
      have e1 : ∃ i, (1 ≤ rk s → 0 ≤ i ∧ i < c ∧ ck i = κ x) ∧ (¬ 1 ≤ rk s → i = 0) := by
        by_cases q : 1 ≤ rk s
        · obtain ⟨i, hi⟩ := (hx q).1
          exact ⟨i, fun _ => hi, fun w => absurd q w⟩
        · exact ⟨0, fun w => absurd w q, fun _ => rfl⟩
      have e2 : ∃ i, (2 ≤ rk s → 0 ≤ i ∧ i < c ∧ ck i = κ y) ∧ (¬ 2 ≤ rk s → i = 0) := by
        by_cases q : 2 ≤ rk s
        · obtain ⟨i, hi⟩ := (hy q).1
          exact ⟨i, fun _ => hi, fun w => absurd q w⟩
        · exact ⟨0, fun w => absurd w q, fun _ => rfl⟩
      obtain ⟨i, hi, hi'⟩ := e1
      obtain ⟨l, hl, hl'⟩ := e2
      have e : κ (δ s x y) = τ s (ck i) (ck l) := by
        rw [Q.2.2.1 s x y s0 s1 (fun q => (hx q).2) (fun q => (hy q).2)]
        exact Q.2.1 _ _ _ _ _ (fun q => (hi q).2.2.symm) (fun q => (hl q).2.2.symm)
      refine Classical.byContradiction fun w => H ⟨s, i, l, s0, s1, ⟨fun q => ⟨(hi q).1, (hi q).2.1⟩, hi', fun q => ⟨(hl q).1, (hl q).2.1⟩, hl'⟩, fun j j0 j1 q => w ⟨j, j0, j1, by rw [e]; exact q⟩⟩
    exact w.1
  have all : ∀ k : Nat, ∃ j : Nat, k < kc.toNat → j < c.toNat ∧ ck j = k := by
    intro k
    by_cases q : k < kc.toNat
    · obtain ⟨a, ra, ea⟩ := Q.2.2.2.2.2.2 k (by omega) (by omega)
      obtain ⟨j, j0, j1, ej⟩ := key a ra
      refine ⟨j.toNat, fun _ => ⟨by omega, ?_⟩⟩
      rw [show ((j.toNat : Nat) : Int) = j by omega, ej, ea]
    · exact ⟨0, fun w => absurd w q⟩
  obtain ⟨f, hf⟩ : ∃ f : Nat → Nat, ∀ k, k < kc.toNat → f k < c.toNat ∧ ck (f k) = k := ⟨fun k => Classical.choose (all k), fun k => Classical.choose_spec (all k)⟩
  obtain ⟨i, j, ij, j1, e⟩ := fb_twice (m := c.toNat) (n := kc.toNat) (f := f) (fun i hi => (hf i hi).1) (by omega)
  have u := (hf i (by omega)).2
  have v := (hf j j1).2
  rw [e] at u
  omega
theorem szf_c {c : Int} {sz sz' : Int → Int} {s x y : Int} (hA : Arg rk c s x y) (he : ∀ i, 0 ≤ i → i < c → sz' i = sz i) : szf rk sz' s x y = szf rk sz s x y := by
  obtain ⟨g1, g2, g3, g4⟩ := hA
  unfold szf
  by_cases q1 : 1 ≤ rk s
  · by_cases q2 : 2 ≤ rk s
    · rw [if_pos q1, if_pos q1, if_pos q2, if_pos q2, he x (g1 q1).1 (g1 q1).2, he y (g3 q2).1 (g3 q2).2]
    · rw [if_pos q1, if_pos q1, if_neg q2, if_neg q2, he x (g1 q1).1 (g1 q1).2]
  · rw [if_neg q1, if_neg q1, if_neg (show ¬ 2 ≤ rk s by omega), if_neg (show ¬ 2 ≤ rk s by omega)]
theorem tau_c {c : Int} {ck ck' : Int → Int} (hd : Dg rk τ) {s x y : Int} (hA : Arg rk c s x y) (he : ∀ i, 0 ≤ i → i < c → ck' i = ck i) : τ s (ck' x) (ck' y) = τ s (ck x) (ck y) := hd _ _ _ _ _ (fun q => he x (hA.1 q).1 (hA.1 q).2) (fun q => he y (hA.2.2.1 q).1 (hA.2.2.1 q).2)
theorem Arg.le {c c' s x y : Int} (h : Arg rk c s x y) (l : c ≤ c') : Arg rk c' s x y := ⟨fun q => by have := h.1 q; omega, h.2.1, fun q => by have := h.2.2.1 q; omega, h.2.2.2⟩
theorem NP.add {c : Int} {ck kcl sz hd f1 f2 ck' kcl' sz' hd' f1' f2' : Int → Int} (h : NP n rk τ kc c ck kcl sz hd f1 f2) (hD : Dg rk τ) (c0 : 0 ≤ c) {s x y k : Int} (s0 : 0 ≤ s) (s1 : s < n) (hA : Arg rk c s x y) (hk : k = τ s (ck x) (ck y)) (k0 : 0 ≤ k) (k1 : k < kc) (hf : ∀ j, 0 ≤ j → j < c → ck j ≠ k) (hm : ∀ s' x' y', 0 ≤ s' → s' < n → Arg rk c s' x' y' → (∀ j, 0 ≤ j → j < c → ck j ≠ τ s' (ck x') (ck y')) → lexle (szf rk sz s x y) s x y (szf rk sz s' x' y') s' x' y') (eck : ∀ i, 0 ≤ i → i < c → ck' i = ck i) (esz : ∀ i, 0 ≤ i → i < c → sz' i = sz i) (ehd : ∀ i, 0 ≤ i → i < c → hd' i = hd i) (e1 : ∀ i, 0 ≤ i → i < c → f1' i = f1 i) (e2 : ∀ i, 0 ≤ i → i < c → f2' i = f2 i) (ekc : ∀ j, j ≠ k → kcl' j = kcl j) (ekk : kcl' k = c) (cck : ck' c = k) (csz : sz' c = szf rk sz s x y) (chd : hd' c = s) (c1 : f1' c = x) (c2 : f2' c = y) : NP n rk τ kc (c + 1) ck' kcl' sz' hd' f1' f2' := by
  obtain ⟨a1, a2, a3⟩ := h
  refine ⟨fun i i0 i1 => ?_, fun j j0 j1 => ?_, fun i i0 i1 => ?_⟩
  · by_cases e : i = c
    · subst e; rw [cck]; exact ⟨k0, k1, ekk⟩
    · rw [eck i i0 (by omega)]
      have := a1 i i0 (by omega)
      rw [ekc _ (hf i i0 (by omega))]
      exact this
  · by_cases e : j = k
    · subst e
      right
      rw [ekk, cck]
      exact ⟨c0, by omega, rfl⟩
    · rw [ekc j e]
      rcases a2 j j0 j1 with q | ⟨q1, q2, q3⟩
      · exact Or.inl q
      · right
        rw [eck _ q1 q2]
        exact ⟨q1, by omega, q3⟩
  · by_cases e : i = c
    · subst e
      rw [chd, c1, c2, cck, csz]
      refine ⟨⟨s0, s1⟩, hA, ?_, ?_, fun s' x' y' t0 t1 hA' hj => ?_⟩
      · rw [hk]; exact tau_c hD hA eck
      · exact (szf_c hA esz).symm
      · rw [szf_c hA' esz]
        refine hm s' x' y' t0 t1 hA' (fun j j0 j1 => ?_)
        have := hj j j0 j1
        rw [eck j j0 j1, tau_c hD hA' eck] at this
        exact this
    · have i1' : i < c := by omega
      obtain ⟨b1, b2, b3, b4, b5⟩ := a3 i i0 i1'
      have ek : ∀ l, 0 ≤ l → l < i → ck' l = ck l := fun l l0 l1 => eck l l0 (by omega)
      have es : ∀ l, 0 ≤ l → l < i → sz' l = sz l := fun l l0 l1 => esz l l0 (by omega)
      rw [ehd i i0 i1', e1 i i0 i1', e2 i i0 i1', esz i i0 i1', eck i i0 i1']
      refine ⟨b1, b2, ?_, ?_, fun s' x' y' t0 t1 hA' hj => ?_⟩
      · rw [tau_c hD b2 ek]; exact b3
      · rw [szf_c b2 es]; exact b4
      · rw [szf_c hA' es]
        refine b5 s' x' y' t0 t1 hA' (fun j j0 j1 => ?_)
        have := hj j j0 j1
        rw [ek j j0 j1, tau_c hD hA' ek] at this
        exact this
/-- all have their numbers: the least machine -/
theorem NP.can {ck kcl sz hd f1 f2 : Int → Int} (h : NP n rk τ kc kc ck kcl sz hd f1 f2) (Q : QM n rk δ acc kc τ fin κ) {m : Mch} (eN : mN m = kc) (eS : ∀ i, 0 ≤ i → i < kc → mS m i = sz i) (eH : ∀ i, 0 ≤ i → i < kc → mH m i = hd i) (e1 : ∀ i, 0 ≤ i → i < kc → m1 m i = f1 i) (e2 : ∀ i, 0 ≤ i → i < kc → m2 m i = f2 i) (eF : ∀ i, 0 ≤ i → i < kc → (mF m i ↔ fin (ck i))) (eT : ∀ s x y, 0 ≤ s → s < n → Arg rk kc s x y → mT m s x y = kcl (τ s (ck x) (ck y))) : Can n rk δ acc m := by
  have kk := h.k
  -- every kind has its number
  have full : ∀ k, 0 ≤ k → k < kc → 0 ≤ kcl k ∧ kcl k < kc ∧ ck (kcl k) = k := by
    intro k k0 k1
    rcases h.2.1 k k0 k1 with q | q
    · exfalso
      obtain ⟨i, j, ij, j1, e⟩ := fb_twice (m := (kc - 1).toNat) (n := kc.toNat) (f := fun i => if ck i < k then (ck i).toNat else (ck i - 1).toNat) (fun i hi => by
        have w := h.1 i (by omega) (by omega)
        have : ck i ≠ k := fun z => by rw [z, q] at w; omega
        show (if ck i < k then (ck i).toNat else (ck i - 1).toNat) < (kc - 1).toNat
        split <;> omega) (by omega)
      have wi := h.1 i (by omega) (by omega)
      have wj := h.1 j (by omega) (by omega)
      have ni : ck i ≠ k := fun z => by rw [z, q] at wi; omega
      have nj : ck j ≠ k := fun z => by rw [z, q] at wj; omega
      have e : (if ck i < k then (ck i).toNat else (ck i - 1).toNat) = (if ck j < k then (ck j).toNat else (ck j - 1).toNat) := e
      have : ck i = ck j := by
        split at e <;> split at e <;> omega
      rw [this] at wi
      omega
    · exact q
  have zz : ∀ c s x y, c ≤ kc → Arg rk c s x y → szc rk m s x y = szf rk sz s x y := by
    intro c s x y hc hA
    exact szf_c (sz' := mS m) hA (fun i i0 i1 => eS i i0 (by omega))
  refine ⟨by rw [eN]; exact Q.1.1, fun c c0 c1 => ?_, fun a => kcl (κ a), ?_, ?_, ?_, ?_⟩
  · rw [eN] at c1
    obtain ⟨b1, b2, b3, b4, b5⟩ := h.2.2 c c0 c1
    rw [eH c c0 c1, e1 c c0 c1, e2 c c0 c1, eS c c0 c1]
    refine ⟨b1, b2, ?_, ?_, fun s x y s0 s1 hA hT => ?_⟩
    · rw [eT _ _ _ b1.1 b1.2 (b2.le (by omega)), b3]
      exact (h.1 c c0 c1).2.2
    · rw [zz c _ _ _ (by omega) b2]; exact b4
    · rw [zz c _ _ _ (by omega) hA]
      rw [eT s x y s0 s1 (hA.le (by omega))] at hT
      refine b5 s x y s0 s1 hA (fun j j0 j1 q => ?_)
      rw [← q, (h.1 j j0 (by omega)).2.2] at hT
      omega
  · intro s x y s0 s1 hx hy
    show kcl (κ (δ s x y)) = _
    rw [Q.2.2.1 s x y s0 s1 hx hy]
    have vx : 1 ≤ rk s → 0 ≤ kcl (κ x) ∧ kcl (κ x) < kc ∧ ck (kcl (κ x)) = κ x := fun q => full _ (Q.2.2.2.1 x (hx q)).1 (Q.2.2.2.1 x (hx q)).2
    have vy : 2 ≤ rk s → 0 ≤ kcl (κ y) ∧ kcl (κ y) < kc ∧ ck (kcl (κ y)) = κ y := fun q => full _ (Q.2.2.2.1 y (hy q)).1 (Q.2.2.2.1 y (hy q)).2
    rw [eT s _ _ s0 s1 ⟨fun q => by rw [if_pos q]; exact ⟨(vx q).1, (vx q).2.1⟩, fun q => if_neg q, fun q => by rw [if_pos q]; exact ⟨(vy q).1, (vy q).2.1⟩, fun q => if_neg q⟩]
    congr 1
    exact Q.2.1 _ _ _ _ _ (fun q => by rw [if_pos q, (vx q).2.2]) (fun q => by rw [if_pos q, (vy q).2.2])
  · intro a ra
    have := Q.2.2.2.1 a ra
    have := full _ this.1 this.2
    show 0 ≤ kcl (κ a) ∧ kcl (κ a) < mN m
    omega
  · intro a ra
    have w := Q.2.2.2.1 a ra
    have f := full _ w.1 w.2
    show acc a ↔ mF m (kcl (κ a))
    rw [eF _ f.1 f.2.1, f.2.2]
    exact Q.2.2.2.2.1 a ra
  · intro a a' ra ra' i
    show kcl (κ a) = kcl (κ a')
    rw [Q.2.2.2.2.2.1 a a' ra ra' i]
end QUOT
