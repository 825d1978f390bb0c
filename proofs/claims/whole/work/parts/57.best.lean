/-! the first tree that comes next -/
def Vs (s x y s' x' y' : Int) : Prop := s' < s ∨ (s' = s ∧ (x' < x ∨ (x' = x ∧ y' < y)))
def BI (no : Prop) (n : Int) (rk : Int → Int) (τ : Int → Int → Int → Int) (c : Int) (ck kcl sz : Int → Int) (s x y fnd b h f g : Int) : Prop := (no ∧ ∀ s' x' y', 0 ≤ s' → s' < n → Arg rk c s' x' y' → Vs s x y s' x' y' → kcl (τ s' (ck x') (ck y')) ≠ -1) ∨ (¬ no ∧ (0 ≤ h ∧ h < n) ∧ Arg rk c h f g ∧ Vs s x y h f g ∧ kcl (τ h (ck f) (ck g)) = -1 ∧ fnd = τ h (ck f) (ck g) ∧ b = szf rk sz h f g ∧ ∀ s' x' y', 0 ≤ s' → s' < n → Arg rk c s' x' y' → Vs s x y s' x' y' → kcl (τ s' (ck x') (ck y')) = -1 → lexle b h f g (szf rk sz s' x' y') s' x' y')
section BEST
variable {no : Prop} {n : Int} {rk : Int → Int} {τ : Int → Int → Int → Int} {c : Int} {ck kcl sz : Int → Int} {s x y fnd b h f g : Int}
theorem Arg.nn {s x y : Int} (hA : Arg rk c s x y) : 0 ≤ x ∧ 0 ≤ y := by
  obtain ⟨g1, g2, g3, g4⟩ := hA
  constructor
  · by_cases q : 1 ≤ rk s
    · exact (g1 q).1
    · have := g2 q; omega
  · by_cases q : 2 ≤ rk s
    · exact (g3 q).1
    · have := g4 q; omega
theorem BI.z (hno : no) : BI no n rk τ c ck kcl sz 0 0 0 fnd b h f g := by
  refine Or.inl ⟨hno, fun s' x' y' s0 s1 hA hv => ?_⟩
  have := hA.nn
  unfold Vs at hv
  omega
theorem BI.w {s₂ x₂ y₂ : Int} (hB : BI no n rk τ c ck kcl sz s x y fnd b h f g) (h1 : ∀ s' x' y', 0 ≤ s' → s' < n → Arg rk c s' x' y' → Vs s₂ x₂ y₂ s' x' y' → Vs s x y s' x' y') (h2 : ∀ s' x' y', 0 ≤ s' → s' < n → Arg rk c s' x' y' → Vs s x y s' x' y' → Vs s₂ x₂ y₂ s' x' y') : BI no n rk τ c ck kcl sz s₂ x₂ y₂ fnd b h f g := by
  rcases hB with ⟨q, w⟩ | ⟨q, h0, hA, hv, hk, e, eb, w⟩
  · exact Or.inl ⟨q, fun s' x' y' s0 s1 hA hv => w s' x' y' s0 s1 hA (h1 _ _ _ s0 s1 hA hv)⟩
  · exact Or.inr ⟨q, h0, hA, h2 _ _ _ h0.1 h0.2 hA hv, hk, e, eb, fun s' x' y' s0 s1 hA' hv => w s' x' y' s0 s1 hA' (h1 _ _ _ s0 s1 hA' hv)⟩
theorem BI.ny (hB : BI no n rk τ c ck kcl sz s x y fnd b h f g) (hy : (2 ≤ rk s → c ≤ y) ∧ 1 ≤ y) : BI no n rk τ c ck kcl sz s (x + 1) 0 fnd b h f g := by
  refine hB.w (fun s' x' y' s0 s1 hA hv => ?_) (fun s' x' y' s0 s1 hA hv => ?_)
  · have := hA.nn
    unfold Vs at hv ⊢
    by_cases e : s' = s
    · subst e
      by_cases q : 2 ≤ rk s'
      · have := hA.2.2.1 q; have := hy.1 q; omega
      · have := hA.2.2.2 q; omega
    · omega
  · unfold Vs at hv ⊢
    omega
theorem BI.ny0 (hB : BI no n rk τ c ck kcl sz s x y fnd b h f g) (h2 : 2 ≤ rk s) (hy : c ≤ y) : BI no n rk τ c ck kcl sz s (x + 1) 0 fnd b h f g := by
  refine hB.w (fun s' x' y' s0 s1 hA hv => ?_) (fun s' x' y' s0 s1 hA hv => ?_)
  · have := hA.nn
    unfold Vs at hv ⊢
    by_cases e : s' = s
    · subst e
      have := hA.2.2.1 h2; omega
    · omega
  · unfold Vs at hv ⊢
    omega
theorem BI.nx (hB : BI no n rk τ c ck kcl sz s x 0 fnd b h f g) (hx : (1 ≤ rk s ∧ c ≤ x) ∨ 1 ≤ x) (hx' : 1 ≤ rk s → c ≤ x) : BI no n rk τ c ck kcl sz (s + 1) 0 0 fnd b h f g := by
  refine hB.w (fun s' x' y' s0 s1 hA hv => ?_) (fun s' x' y' s0 s1 hA hv => ?_)
  · have := hA.nn
    unfold Vs at hv ⊢
    by_cases e : s' = s
    · subst e
      by_cases q : 1 ≤ rk s'
      · have := hA.1 q; have := hx' q; omega
      · have := hA.2.1 q; omega
    · omega
  · unfold Vs at hv ⊢
    omega
theorem Vs.y1 {s' x' y' : Int} : Vs s x (y + 1) s' x' y' ↔ Vs s x y s' x' y' ∨ (s' = s ∧ x' = x ∧ y' = y) := by unfold Vs; omega
/-- it has its number already, or is not ahead -/
theorem BI.skip (hB : BI no n rk τ c ck kcl sz s x y fnd b h f g) (hs : kcl (τ s (ck x) (ck y)) ≠ -1 ∨ (¬ no ∧ b ≤ szf rk sz s x y)) : BI no n rk τ c ck kcl sz s x (y + 1) fnd b h f g := by
  rcases hB with ⟨q, w⟩ | ⟨q, h0, hA, hv, hk, e, eb, w⟩
  · refine Or.inl ⟨q, fun s' x' y' s0 s1 hA hv => ?_⟩
    rcases Vs.y1.mp hv with v | ⟨v1, v2, v3⟩
    · exact w s' x' y' s0 s1 hA v
    · rcases hs with u | u
      · rw [v1, v2, v3]; exact u
      · exact absurd q u.1
  · refine Or.inr ⟨q, h0, hA, Vs.y1.mpr (Or.inl hv), hk, e, eb, fun s' x' y' s0 s1 hA' hv' hk' => ?_⟩
    rcases Vs.y1.mp hv' with v | ⟨v1, v2, v3⟩
    · exact w s' x' y' s0 s1 hA' v hk'
    · rw [v1, v2, v3] at hk' ⊢
      rcases hs with u | u
      · exact absurd hk' u
      · have := u.2
        unfold lexle
        unfold Vs at hv
        omega
theorem BI.take {no' : Prop} (hB : BI no n rk τ c ck kcl sz s x y fnd b h f g) (s0 : 0 ≤ s) (s1 : s < n) (hA : Arg rk c s x y) (hk : kcl (τ s (ck x) (ck y)) = -1) (hs : ¬ no → szf rk sz s x y < b) (hno : ¬ no') : BI no' n rk τ c ck kcl sz s x (y + 1) (τ s (ck x) (ck y)) (szf rk sz s x y) s x y := by
  refine Or.inr ⟨hno, ⟨s0, s1⟩, hA, Vs.y1.mpr (Or.inr ⟨rfl, rfl, rfl⟩), hk, rfl, rfl, fun s' x' y' t0 t1 hA' hv hk' => ?_⟩
  rcases Vs.y1.mp hv with v | ⟨v1, v2, v3⟩
  · rcases hB with ⟨q, w⟩ | ⟨q, h0, hA2, hv2, hk2, e, eb, w⟩
    · exact absurd hk' (w s' x' y' t0 t1 hA' v)
    · have u := w s' x' y' t0 t1 hA' v hk'
      have := hs q
      unfold lexle at u ⊢
      omega
  · rw [v1, v2, v3]
    unfold lexle
    omega
/-- at the end the best is there -/
theorem BI.fin {kc : Int} {hd f1 f2 : Int → Int} {δ : Int → Int → Int → Int} {acc fin : Int → Prop} {κ : Int → Int} (hB : BI no n rk τ c ck kcl sz n 0 0 fnd b h f g) (hN : NP n rk τ kc c ck kcl sz hd f1 f2) (Q : QM n rk δ acc kc τ fin κ) (c0 : 0 ≤ c) (c1 : c < kc) : ¬ no ∧ (0 ≤ h ∧ h < n) ∧ Arg rk c h f g ∧ fnd = τ h (ck f) (ck g) ∧ (0 ≤ fnd ∧ fnd < kc) ∧ b = szf rk sz h f g ∧ (∀ j, 0 ≤ j → j < c → ck j ≠ fnd) ∧ ∀ s' x' y', 0 ≤ s' → s' < n → Arg rk c s' x' y' → (∀ j, 0 ≤ j → j < c → ck j ≠ τ s' (ck x') (ck y')) → lexle (szf rk sz h f g) h f g (szf rk sz s' x' y') s' x' y' := by
  have fr : ∀ s' x' y', 0 ≤ s' → s' < n → Arg rk c s' x' y' → (∀ j, 0 ≤ j → j < c → ck j ≠ τ s' (ck x') (ck y')) → kcl (τ s' (ck x') (ck y')) = -1 := by
    intro s' x' y' t0 t1 hA hj
    have r := Q.tr hN.k t0 t1 hA
    rcases hN.2.1 _ r.1 r.2 with w | ⟨w1, w2, w3⟩
    · exact w
    · exact absurd w3 (hj _ w1 w2)
  rcases hB with ⟨q, w⟩ | ⟨q, h0, hA, hv, hk, e, eb, w⟩
  · exfalso
    obtain ⟨s', x', y', t0, t1, hA, hj⟩ := hN.ex Q c0 c1
    exact w s' x' y' t0 t1 hA (by unfold Vs; omega) (fr s' x' y' t0 t1 hA hj)
  · refine ⟨q, h0, hA, e, by rw [e]; exact Q.tr hN.k h0.1 h0.2 hA, eb, fun j j0 j1 z => ?_, fun s' x' y' t0 t1 hA' hj => ?_⟩
    · have := (hN.1 j j0 j1).2.2
      rw [z, e, hk] at this
      omega
    · rw [← eb]
      exact w s' x' y' t0 t1 hA' (by unfold Vs; omega) (fr s' x' y' t0 t1 hA' hj)
end BEST
