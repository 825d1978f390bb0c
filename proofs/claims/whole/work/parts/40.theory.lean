/-! machines that know trees from below: what a least machine is, and that it is one -/
section THEORY
/-- reached: by signs from below -/
def Rch (n : Int) (rk : Int → Int) (δ : Int → Int → Int → Int) (a : Int) : Prop := ∀ P : Int → Prop, (∀ s x y, 0 ≤ s → s < n → (1 ≤ rk s → P x) → (2 ≤ rk s → P y) → P (δ s x y)) → P a
def Jn (n : Int) (rk : Int → Int) (δ ε : Int → Int → Int → Int) (a b : Int) : Prop := ∀ P : Int → Int → Prop, (∀ s x y u v, 0 ≤ s → s < n → (1 ≤ rk s → P x u) → (2 ≤ rk s → P y v) → P (δ s x y) (ε s u v)) → P a b
variable {n : Int} {rk : Int → Int} {δ ε : Int → Int → Int → Int}
theorem Rch.mk {s x y : Int} (hs : 0 ≤ s) (hn : s < n) (hx : 1 ≤ rk s → Rch n rk δ x) (hy : 2 ≤ rk s → Rch n rk δ y) : Rch n rk δ (δ s x y) := fun P hP => hP s x y hs hn (fun h => hx h P hP) (fun h => hy h P hP)
theorem Jn.mk {s x y u v : Int} (hs : 0 ≤ s) (hn : s < n) (hx : 1 ≤ rk s → Jn n rk δ ε x u) (hy : 2 ≤ rk s → Jn n rk δ ε y v) : Jn n rk δ ε (δ s x y) (ε s u v) := fun P hP => hP s x y u v hs hn (fun h => hx h P hP) (fun h => hy h P hP)
theorem Jn.l {a b : Int} (h : Jn n rk δ ε a b) : Rch n rk δ a := h (fun a _ => Rch n rk δ a) (fun _ _ _ _ _ hs hn hx hy => Rch.mk hs hn hx hy)
theorem Jn.r {a b : Int} (h : Jn n rk δ ε a b) : Rch n rk ε b := h (fun _ b => Rch n rk ε b) (fun _ _ _ _ _ hs hn hx hy => Rch.mk hs hn hx hy)
theorem Jn.sw {a b : Int} (h : Jn n rk δ ε a b) : Jn n rk ε δ b a := h (fun a b => Jn n rk ε δ b a) (fun _ _ _ _ _ hs hn hx hy => Jn.mk hs hn hx hy)
theorem Jn.ex {a : Int} (h : Rch n rk δ a) : ∃ b, Jn n rk δ ε a b := by
  refine h (fun a => ∃ b, Jn n rk δ ε a b) ?_
  intro s x y hs hn hx hy
  obtain ⟨u, hu⟩ : ∃ u, 1 ≤ rk s → Jn n rk δ ε x u := by
    by_cases h1 : 1 ≤ rk s
    · obtain ⟨u, hu⟩ := hx h1
      exact ⟨u, fun _ => hu⟩
    · exact ⟨0, fun h => absurd h h1⟩
  obtain ⟨v, hv⟩ : ∃ v, 2 ≤ rk s → Jn n rk δ ε y v := by
    by_cases h1 : 2 ≤ rk s
    · obtain ⟨v, hv⟩ := hy h1
      exact ⟨v, fun _ => hv⟩
    · exact ⟨0, fun h => absurd h h1⟩
  exact ⟨_, Jn.mk hs hn hu hv⟩
/-- a relation that acceptance and all signs keep -/
def Cmp (n : Int) (rk : Int → Int) (δ : Int → Int → Int → Int) (acc : Int → Prop) (E : Int → Int → Prop) : Prop := ∀ a a', E a a' → (acc a ↔ acc a') ∧ ∀ s o, 0 ≤ s → s < n → (1 ≤ rk s → (2 ≤ rk s → Rch n rk δ o) → E (δ s a o) (δ s a' o)) ∧ (2 ≤ rk s → Rch n rk δ o → E (δ s o a) (δ s o a'))
def Ind (n : Int) (rk : Int → Int) (δ : Int → Int → Int → Int) (acc : Int → Prop) (a a' : Int) : Prop := ∃ E, Cmp n rk δ acc E ∧ E a a'
abbrev Mch : Type := Int × (Int → Int → Int → Int) × (Int → Prop) × (Int → Int) × (Int → Int) × (Int → Int) × (Int → Int)
def mN (m : Mch) : Int := m.1
def mT (m : Mch) : Int → Int → Int → Int := m.2.1
def mF (m : Mch) : Int → Prop := m.2.2.1
def mS (m : Mch) : Int → Int := m.2.2.2.1
def mH (m : Mch) : Int → Int := m.2.2.2.2.1
def m1 (m : Mch) : Int → Int := m.2.2.2.2.2.1
def m2 (m : Mch) : Int → Int := m.2.2.2.2.2.2
def szc (rk : Int → Int) (m : Mch) (s x y : Int) : Int := 1 + (if 1 ≤ rk s then mS m x else 0) + (if 2 ≤ rk s then mS m y else 0)
def lexle (a1 a2 a3 a4 b1 b2 b3 b4 : Int) : Prop := a1 < b1 ∨ a1 = b1 ∧ (a2 < b2 ∨ a2 = b2 ∧ (a3 < b3 ∨ a3 = b3 ∧ a4 ≤ b4))
/-- a place among the first c classes -/
def Arg (rk : Int → Int) (c s x y : Int) : Prop := (1 ≤ rk s → 0 ≤ x ∧ x < c) ∧ (¬ 1 ≤ rk s → x = 0) ∧ (2 ≤ rk s → 0 ≤ y ∧ y < c) ∧ (¬ 2 ≤ rk s → y = 0)
/-- numbered by the first trees -/
def Num (n : Int) (rk : Int → Int) (m : Mch) : Prop := ∀ c, 0 ≤ c → c < mN m → (0 ≤ mH m c ∧ mH m c < n) ∧ Arg rk c (mH m c) (m1 m c) (m2 m c) ∧ mT m (mH m c) (m1 m c) (m2 m c) = c ∧ mS m c = szc rk m (mH m c) (m1 m c) (m2 m c) ∧ ∀ s x y, 0 ≤ s → s < n → Arg rk c s x y → c ≤ mT m s x y → lexle (mS m c) (mH m c) (m1 m c) (m2 m c) (szc rk m s x y) s x y
def Hom (n : Int) (rk : Int → Int) (δ : Int → Int → Int → Int) (acc : Int → Prop) (m : Mch) (κ : Int → Int) : Prop := (∀ s x y, 0 ≤ s → s < n → (1 ≤ rk s → Rch n rk δ x) → (2 ≤ rk s → Rch n rk δ y) → κ (δ s x y) = mT m s (if 1 ≤ rk s then κ x else 0) (if 2 ≤ rk s then κ y else 0)) ∧ (∀ a, Rch n rk δ a → 0 ≤ κ a ∧ κ a < mN m) ∧ (∀ a, Rch n rk δ a → (acc a ↔ mF m (κ a))) ∧ ∀ a a', Rch n rk δ a → Rch n rk δ a' → Ind n rk δ acc a a' → κ a = κ a'
/-- the least machine of an automaton -/
def Can (n : Int) (rk : Int → Int) (δ : Int → Int → Int → Int) (acc : Int → Prop) (m : Mch) : Prop := 0 ≤ mN m ∧ Num n rk m ∧ ∃ κ, Hom n rk δ acc m κ
def Lg (n : Int) (rk : Int → Int) (δ : Int → Int → Int → Int) (acc : Int → Prop) : Prop := ∃ f : Nat → Int, (∀ i, i < 7 → Rch n rk δ (f i)) ∧ ∀ i j, i < j → j < 7 → ¬ Ind n rk δ acc (f i) (f j)
def Eqm (n : Int) (rk : Int → Int) (m m' : Mch) : Prop := mN m = mN m' ∧ (∀ c, 0 ≤ c → c < mN m → mS m c = mS m' c ∧ mH m c = mH m' c ∧ m1 m c = m1 m' c ∧ m2 m c = m2 m' c ∧ (mF m c ↔ mF m' c)) ∧ ∀ s x y, 0 ≤ s → s < n → Arg rk (mN m) s x y → mT m s x y = mT m' s x y
theorem Hom.surj {acc : Int → Prop} {m : Mch} {κ : Int → Int} (hN : Num n rk m) (h : Hom n rk δ acc m κ) : ∀ (k : Nat) (c : Int), c = k → c < mN m → ∃ a, Rch n rk δ a ∧ κ a = c := by
  intro k
  induction k using Nat.strongRecOn with
  | _ k ih =>
    intro c hk hc
    obtain ⟨⟨s0, s1⟩, ⟨g1, g2, g3, g4⟩, ht, -, -⟩ := hN c (by omega) hc
    have e1 : ∃ a, (1 ≤ rk (mH m c) → Rch n rk δ a ∧ κ a = m1 m c) := by
      by_cases q : 1 ≤ rk (mH m c)
      · have := g1 q
        obtain ⟨a, ha⟩ := ih (m1 m c).toNat (by omega) (m1 m c) (by omega) (by omega)
        exact ⟨a, fun _ => ha⟩
      · exact ⟨0, fun h => absurd h q⟩
    have e2 : ∃ a, (2 ≤ rk (mH m c) → Rch n rk δ a ∧ κ a = m2 m c) := by
      by_cases q : 2 ≤ rk (mH m c)
      · have := g3 q
        obtain ⟨a, ha⟩ := ih (m2 m c).toNat (by omega) (m2 m c) (by omega) (by omega)
        exact ⟨a, fun _ => ha⟩
      · exact ⟨0, fun h => absurd h q⟩
    obtain ⟨a, ha⟩ := e1
    obtain ⟨b, hb⟩ := e2
    refine ⟨δ (mH m c) a b, Rch.mk s0 s1 (fun q => (ha q).1) (fun q => (hb q).1), ?_⟩
    rw [h.1 _ _ _ s0 s1 (fun q => (ha q).1) (fun q => (hb q).1)]
    have r1 : (if 1 ≤ rk (mH m c) then κ a else 0) = m1 m c := by
      by_cases q : 1 ≤ rk (mH m c)
      · rw [if_pos q, (ha q).2]
      · rw [if_neg q, g2 q]
    have r2 : (if 2 ≤ rk (mH m c) then κ b else 0) = m2 m c := by
      by_cases q : 2 ≤ rk (mH m c)
      · rw [if_pos q, (hb q).2]
      · rw [if_neg q, g4 q]
    rw [r1, r2, ht]
/-- what one machine holds for one, the other does -/
theorem Hom.one {acc acc' : Int → Prop} {m' : Mch} {κ κ' : Int → Int} {m : Mch} (h : Hom n rk δ acc m κ) (h' : Hom n rk ε acc' m' κ') (hJ : ∀ a b, Jn n rk δ ε a b → (acc a ↔ acc' b)) {a a' b b' : Int} (j : Jn n rk δ ε a b) (j' : Jn n rk δ ε a' b') (e : κ' b = κ' b') : κ a = κ a' := by
  refine h.2.2.2 a a' j.l j'.l ⟨fun x x' => ∃ y y', Jn n rk δ ε x y ∧ Jn n rk δ ε x' y' ∧ κ' y = κ' y', ?_, b, b', j, j', e⟩
  intro x x' ⟨y, y', k, k', e⟩
  refine ⟨?_, fun s o hs hn => ⟨fun h1 ho => ?_, fun h2 ho => ?_⟩⟩
  · rw [hJ x y k, hJ x' y' k', h'.2.2.1 y k.r, h'.2.2.1 y' k'.r, e]
  · obtain ⟨v, hv⟩ : ∃ v, 2 ≤ rk s → Jn n rk δ ε o v := by
      by_cases q : 2 ≤ rk s
      · obtain ⟨v, hv⟩ := Jn.ex (ε := ε) (ho q)
        exact ⟨v, fun _ => hv⟩
      · exact ⟨0, fun h => absurd h q⟩
    refine ⟨ε s y v, ε s y' v, Jn.mk hs hn (fun _ => k) hv, Jn.mk hs hn (fun _ => k') hv, ?_⟩
    rw [h'.1 s y v hs hn (fun _ => k.r) (fun q => (hv q).r), h'.1 s y' v hs hn (fun _ => k'.r) (fun q => (hv q).r), e]
  · obtain ⟨v, hv⟩ := Jn.ex (ε := ε) ho
    refine ⟨ε s v y, ε s v y', Jn.mk hs hn (fun _ => hv) (fun _ => k), Jn.mk hs hn (fun _ => hv) (fun _ => k'), ?_⟩
    rw [h'.1 s v y hs hn (fun _ => hv.r) (fun _ => k.r), h'.1 s v y' hs hn (fun _ => hv.r) (fun _ => k'.r), e]
theorem lexle_anti {a1 a2 a3 a4 b1 b2 b3 b4 : Int} (h : lexle a1 a2 a3 a4 b1 b2 b3 b4) (h' : lexle b1 b2 b3 b4 a1 a2 a3 a4) : a1 = b1 ∧ a2 = b2 ∧ a3 = b3 ∧ a4 = b4 := by
  unfold lexle at h h'
  omega
/-- the steps of both machines below c go together -/
theorem Hom.step {acc acc' : Int → Prop} {m m' : Mch} {κ κ' : Int → Int} (hN : Num n rk m) (h : Hom n rk δ acc m κ) (h' : Hom n rk ε acc' m' κ') {c : Int} (hc : c ≤ mN m) (hq : ∀ c', 0 ≤ c' → c' < c → ∀ a b, Jn n rk δ ε a b → (κ a = c' ↔ κ' b = c')) {s x y : Int} (hs : 0 ≤ s) (hn : s < n) (hA : Arg rk c s x y) : ∃ a b, Jn n rk δ ε a b ∧ κ a = mT m s x y ∧ κ' b = mT m' s x y := by
  obtain ⟨g1, g2, g3, g4⟩ := hA
  have e1 : ∃ a b, (1 ≤ rk s → Jn n rk δ ε a b ∧ κ a = x ∧ κ' b = x) := by
    by_cases q : 1 ≤ rk s
    · have := g1 q
      obtain ⟨a, ha, ka⟩ := h.surj hN x.toNat x (by omega) (by omega)
      obtain ⟨b, hb⟩ := Jn.ex (ε := ε) ha
      exact ⟨a, b, fun _ => ⟨hb, ka, (hq x (by omega) (by omega) a b hb).mp ka⟩⟩
    · exact ⟨0, 0, fun h => absurd h q⟩
  have e2 : ∃ a b, (2 ≤ rk s → Jn n rk δ ε a b ∧ κ a = y ∧ κ' b = y) := by
    by_cases q : 2 ≤ rk s
    · have := g3 q
      obtain ⟨a, ha, ka⟩ := h.surj hN y.toNat y (by omega) (by omega)
      obtain ⟨b, hb⟩ := Jn.ex (ε := ε) ha
      exact ⟨a, b, fun _ => ⟨hb, ka, (hq y (by omega) (by omega) a b hb).mp ka⟩⟩
    · exact ⟨0, 0, fun h => absurd h q⟩
  obtain ⟨a, b, ab⟩ := e1
  obtain ⟨u, v, uv⟩ := e2
  refine ⟨δ s a u, ε s b v, Jn.mk hs hn (fun q => (ab q).1) (fun q => (uv q).1), ?_, ?_⟩
  · rw [h.1 s a u hs hn (fun q => (ab q).1.l) (fun q => (uv q).1.l)]
    congr 1
    · by_cases q : 1 ≤ rk s
      · rw [if_pos q, (ab q).2.1]
      · rw [if_neg q, g2 q]
    · by_cases q : 2 ≤ rk s
      · rw [if_pos q, (uv q).2.1]
      · rw [if_neg q, g4 q]
  · rw [h'.1 s b v hs hn (fun q => (ab q).1.r) (fun q => (uv q).1.r)]
    congr 1
    · by_cases q : 1 ≤ rk s
      · rw [if_pos q, (ab q).2.2]
      · rw [if_neg q, g2 q]
    · by_cases q : 2 ≤ rk s
      · rw [if_pos q, (uv q).2.2]
      · rw [if_neg q, g4 q]
theorem szc_eq {m m' : Mch} {c s x y : Int} (hA : Arg rk c s x y) (he : ∀ c', 0 ≤ c' → c' < c → mS m c' = mS m' c') : szc rk m s x y = szc rk m' s x y := by
  obtain ⟨g1, g2, g3, g4⟩ := hA
  unfold szc
  by_cases q1 : 1 ≤ rk s
  · by_cases q2 : 2 ≤ rk s
    · rw [if_pos q1, if_pos q1, if_pos q2, if_pos q2, he x (g1 q1).1 (g1 q1).2, he y (g3 q2).1 (g3 q2).2]
    · rw [if_pos q1, if_pos q1, if_neg q2, if_neg q2, he x (g1 q1).1 (g1 q1).2]
  · by_cases q2 : 2 ≤ rk s
    · omega
    · rw [if_neg q1, if_neg q1, if_neg q2, if_neg q2]
theorem Can.walk {acc acc' : Int → Prop} {m m' : Mch} {κ κ' : Int → Int} (hN : Num n rk m) (hN' : Num n rk m') (h : Hom n rk δ acc m κ) (h' : Hom n rk ε acc' m' κ') (hJ : ∀ a b, Jn n rk δ ε a b → (acc a ↔ acc' b)) : ∀ (k : Nat) (c : Int), c = k → c < mN m → c < mN m' ∧ (mS m c = mS m' c ∧ mH m c = mH m' c ∧ m1 m c = m1 m' c ∧ m2 m c = m2 m' c) ∧ ∀ a b, Jn n rk δ ε a b → (κ a = c ↔ κ' b = c) := by
  intro k
  induction k using Nat.strongRecOn with
  | _ k ih =>
    intro c hk hc
    have hq : ∀ c', 0 ≤ c' → c' < c → ∀ a b, Jn n rk δ ε a b → (κ a = c' ↔ κ' b = c') := fun c' h0 h1 => (ih c'.toNat (by omega) c' (by omega) (by omega)).2.2
    have hz : ∀ c', 0 ≤ c' → c' < c → mS m c' = mS m' c' := fun c' h0 h1 => (ih c'.toNat (by omega) c' (by omega) (by omega)).2.1.1
    obtain ⟨a, ha, ka⟩ := h.surj hN k c hk hc
    obtain ⟨b, jb⟩ := Jn.ex (ε := ε) ha
    have hb := h'.2.1 b jb.r
    have hcb : c ≤ κ' b := by
      rcases Int.lt_or_le (κ' b) c with q | q
      · have := (hq (κ' b) hb.1 q a b jb).mpr rfl
        omega
      · exact q
    have hc' : c < mN m' := by omega
    -- the same candidates
    have hcand : ∀ s x y, 0 ≤ s → s < n → Arg rk c s x y → (c ≤ mT m s x y ↔ c ≤ mT m' s x y) := by
      intro s x y hs hn hA
      obtain ⟨u, v, j, e1, e2⟩ := h.step hN h' (by omega) hq hs hn hA
      have r1 := h.2.1 u j.l
      have r2 := h'.2.1 v j.r
      rw [← e1, ← e2]
      constructor
      · intro q
        rcases Int.lt_or_le (κ' v) c with w | w
        · have := (hq (κ' v) r2.1 w u v j).mpr rfl
          omega
        · exact w
      · intro q
        rcases Int.lt_or_le (κ u) c with w | w
        · have := (hq (κ u) r1.1 w u v j).mp rfl
          omega
        · exact w
    obtain ⟨s0, A0, t0, z0, l0⟩ := hN c (by omega) hc
    obtain ⟨s1, A1, t1, z1, l1⟩ := hN' c (by omega) hc'
    have q1 := l1 _ _ _ s0.1 s0.2 A0 ((hcand _ _ _ s0.1 s0.2 A0).mp (by omega))
    have q0 := l0 _ _ _ s1.1 s1.2 A1 ((hcand _ _ _ s1.1 s1.2 A1).mpr (by omega))
    rw [← szc_eq A0 hz, ← z0] at q1
    rw [szc_eq A1 hz, ← z1] at q0
    obtain ⟨e1, e2, e3, e4⟩ := lexle_anti q0 q1
    refine ⟨hc', ⟨e1, e2, e3, e4⟩, fun u v j => ?_⟩
    obtain ⟨u0, v0, j0, k0, k1⟩ := h.step hN h' (by omega) hq s0.1 s0.2 A0
    rw [t0] at k0
    rw [e2, e3, e4, t1] at k1
    constructor
    · intro q
      rw [← k1]
      exact h'.one h (fun a b hj => (hJ b a hj.sw).symm) j.sw j0.sw (by rw [q, k0])
    · intro q
      rw [← k0]
      exact h.one h' hJ j j0 (by rw [q, k1])
theorem Can.uniq {acc acc' : Int → Prop} {m m' : Mch} (h : Can n rk δ acc m) (h' : Can n rk ε acc' m') (hJ : ∀ a b, Jn n rk δ ε a b → (acc a ↔ acc' b)) : Eqm n rk m m' := by
  obtain ⟨p0, hN, κ, hk⟩ := h
  obtain ⟨p1, hN', κ', hk'⟩ := h'
  have w := Can.walk hN hN' hk hk' hJ
  have hq : ∀ c, 0 ≤ c → c < mN m → ∀ a b, Jn n rk δ ε a b → (κ a = c ↔ κ' b = c) := fun c h0 h1 => (w c.toNat c (by omega) h1).2.2
  have hNN : mN m = mN m' := by
    rcases Int.lt_trichotomy (mN m) (mN m') with q | q | q
    · obtain ⟨b, hb, kb⟩ := hk'.surj hN' (mN m).toNat (mN m) (by omega) q
      obtain ⟨a, ja⟩ := Jn.ex (ε := δ) hb
      have r := hk.2.1 a ja.sw.l
      have := (hq (κ a) r.1 r.2 a b ja.sw).mp rfl
      omega
    · exact q
    · have := (w (mN m').toNat (mN m') (by omega) q).1
      omega
  refine ⟨hNN, fun c h0 h1 => ?_, fun s x y hs hn hA => ?_⟩
  · obtain ⟨-, ⟨e1, e2, e3, e4⟩, e5⟩ := w c.toNat c (by omega) h1
    refine ⟨e1, e2, e3, e4, ?_⟩
    obtain ⟨a, ha, ka⟩ := hk.surj hN c.toNat c (by omega) h1
    obtain ⟨b, jb⟩ := Jn.ex (ε := ε) ha
    have kb := (e5 a b jb).mp ka
    rw [← ka, ← hk.2.2.1 a ha, hJ a b jb, hk'.2.2.1 b jb.r, kb, ka]
  · obtain ⟨u, v, j, e1, e2⟩ := hk.step hN hk' (Int.le_refl _) hq hs hn hA
    have r := hk.2.1 u j.l
    rw [← e1, ← e2]
    exact ((hq (κ u) r.1 r.2 u v j).mp rfl).symm
theorem pig (f : Nat → Int) (N : Int) (hN : N ≤ 6) (h : ∀ i, i < 7 → 0 ≤ f i ∧ f i < N) : ∃ i j, i < j ∧ j < 7 ∧ f i = f j := by
  obtain ⟨i, j, h1, h2, h3⟩ := fb_twice (m := 6) (n := 7) (f := fun i => (f i).toNat) (fun i hi => by have := h i hi; show (f i).toNat < 6; omega) (by decide)
  have a := h i (by omega)
  have b := h j h2
  have c : (f i).toNat = (f j).toNat := h3
  exact ⟨i, j, h1, h2, by omega⟩
/-- no machine of six classes, where the other is large -/
theorem Can.noLg {acc acc' : Int → Prop} {m : Mch} (h : Can n rk δ acc m) (hm : mN m ≤ 6) (h' : Lg n rk ε acc') (hJ : ∀ a b, Jn n rk δ ε a b → (acc a ↔ acc' b)) : False := by
  obtain ⟨p0, hN, κ, hk⟩ := h
  obtain ⟨f, hf, hd⟩ := h'
  have hg : ∀ i, ∃ a, i < 7 → Jn n rk δ ε a (f i) := by
    intro i
    by_cases q : i < 7
    · obtain ⟨a, ja⟩ := Jn.ex (ε := δ) (hf i q)
      exact ⟨a, fun _ => ja.sw⟩
    · exact ⟨0, fun h => absurd h q⟩
  have hg2 : ∃ g : Nat → Int, ∀ i, i < 7 → Jn n rk δ ε (g i) (f i) := ⟨fun i => Classical.choose (hg i), fun i hi => Classical.choose_spec (hg i) hi⟩
  obtain ⟨g, hg⟩ := hg2
  obtain ⟨i, j, hij, hj, e⟩ := pig (fun i => κ (g i)) (mN m) hm (fun i hi => hk.2.1 _ (hg i hi).l)
  refine hd i j hij hj ⟨fun x x' => ∃ y y', Jn n rk δ ε y x ∧ Jn n rk δ ε y' x' ∧ κ y = κ y', ?_, g i, g j, hg i (by omega), hg j hj, e⟩
  intro x x' ⟨y, y', k, k', e⟩
  refine ⟨?_, fun s o hs hn => ⟨fun h1 ho => ?_, fun h2 ho => ?_⟩⟩
  · rw [← hJ y x k, ← hJ y' x' k', hk.2.2.1 y k.l, hk.2.2.1 y' k'.l, e]
  · obtain ⟨v, hv⟩ : ∃ v, 2 ≤ rk s → Jn n rk δ ε v o := by
      by_cases q : 2 ≤ rk s
      · obtain ⟨v, hv⟩ := Jn.ex (ε := δ) (ho q)
        exact ⟨v, fun _ => hv.sw⟩
      · exact ⟨0, fun h => absurd h q⟩
    refine ⟨δ s y v, δ s y' v, Jn.mk hs hn (fun _ => k) hv, Jn.mk hs hn (fun _ => k') hv, ?_⟩
    rw [hk.1 s y v hs hn (fun _ => k.l) (fun q => (hv q).l), hk.1 s y' v hs hn (fun _ => k'.l) (fun q => (hv q).l), e]
  · obtain ⟨v, hv⟩ := Jn.ex (ε := δ) ho
    refine ⟨δ s v y, δ s v y', Jn.mk hs hn (fun _ => hv.sw) (fun _ => k), Jn.mk hs hn (fun _ => hv.sw) (fun _ => k'), ?_⟩
    rw [hk.1 s v y hs hn (fun _ => hv.sw.l) (fun _ => k.l), hk.1 s v y' hs hn (fun _ => hv.sw.l) (fun _ => k'.l), e]
end THEORY
