/-! the search and the tree -/
def pk (n : Int) (rk : Int → Int) (sh : Int → Int → Int) (z : Int) : Nat → Int → Int → Int → Option (Int × Int × Int)
  | 0 => fun _ _ _ => none
  | k + 1 => fun s f l => if n ≤ s then none else if mst rk s z < f then pk n rk sh z k (s + 1) (lst rk (s + 1) z) l else if l < sh s f then some (s, f, l) else pk n rk sh z k s (f + 1) (l - sh s f)
theorem lst_b {rk : Int → Int} {s z : Int} (hr : 0 ≤ rk s ∧ rk s ≤ 2) (z1 : 1 ≤ z) (z2 : z ≤ 40) : (mst rk s z - lst rk s z + 1).toNat ≤ 40 ∧ 0 ≤ lst rk s z := by
  unfold mst lst
  split <;> split <;> try (split)
  all_goals omega
theorem pk_ex {n : Int} {rk : Int → Int} {sh : Int → Int → Int} {z : Int} (hr : ∀ s, 0 ≤ rk s ∧ rk s ≤ 2) (z1 : 1 ≤ z) (z2 : z ≤ 40) : ∀ (k : Nat) (s f l : Int), (n - s).toNat * 45 + (mst rk s z - f + 1).toNat < k → s < n → l < sumN (mst rk s z - f + 1).toNat (fun i => sh s (f + i)) + sumN (n - s - 1).toNat (fun t => sumN (mst rk (s + 1 + t) z - lst rk (s + 1 + t) z + 1).toNat (fun i => sh (s + 1 + t) (lst rk (s + 1 + t) z + i))) → 0 ≤ l → ∃ s' f' l', pk n rk sh z k s f l = some (s', f', l') := by
  intro k
  induction k with
  | zero => intro s f l h; omega
  | succ k ih =>
    intro s f l hk hs hl l0
    unfold pk
    rw [if_neg (by omega)]
    by_cases q : mst rk s z < f
    · rw [if_pos q]
      rw [show (mst rk s z - f + 1).toNat = 0 by omega] at hl
      have hl' : l < sumN (n - s - 1).toNat (fun t => sumN (mst rk (s + 1 + t) z - lst rk (s + 1 + t) z + 1).toNat (fun i => sh (s + 1 + t) (lst rk (s + 1 + t) z + i))) := by
        have : sumN 0 (fun i => sh s (f + i)) = 0 := rfl
        omega
      have b := lst_b (hr (s + 1)) z1 z2
      by_cases q2 : n - s - 1 ≤ 0
      · rw [show (n - s - 1).toNat = 0 by omega] at hl'
        have : sumN 0 (fun t => sumN (mst rk (s + 1 + t) z - lst rk (s + 1 + t) z + 1).toNat (fun i => sh (s + 1 + t) (lst rk (s + 1 + t) z + i))) = 0 := rfl
        omega
      · refine ih (s + 1) (lst rk (s + 1) z) l (by omega) (by omega) ?_ l0
        rw [show (n - s - 1).toNat = (n - (s + 1) - 1).toNat + 1 by omega, sumN_f] at hl'
        rw [show s + 1 + 0 = s + 1 by omega] at hl'
        have ee := sumN_c (k := (n - (s + 1) - 1).toNat) (f := fun t => sumN (mst rk (s + 1 + 1 + t) z - lst rk (s + 1 + 1 + t) z + 1).toNat (fun i => sh (s + 1 + 1 + t) (lst rk (s + 1 + 1 + t) z + i))) (g := fun t => sumN (mst rk (s + 1 + (t + 1)) z - lst rk (s + 1 + (t + 1)) z + 1).toNat (fun i => sh (s + 1 + (t + 1)) (lst rk (s + 1 + (t + 1)) z + i))) (fun t _ _ => by rw [show s + 1 + 1 + t = s + 1 + (t + 1) by omega])
        rw [ee]
        exact hl'
    · rw [if_neg q]
      by_cases q3 : l < sh s f
      · rw [if_pos q3]
        exact ⟨s, f, l, rfl⟩
      · rw [if_neg q3]
        refine ih s (f + 1) (l - sh s f) (by omega) hs ?_ (by omega)
        rw [show (mst rk s z - f + 1).toNat = (mst rk s z - (f + 1) + 1).toNat + 1 by omega, sumN_f] at hl
        rw [show f + 0 = f by omega] at hl
        have ee := sumN_c (k := (mst rk s z - (f + 1) + 1).toNat) (f := fun i => sh s (f + 1 + i)) (g := fun i => sh s (f + (i + 1))) (fun i _ _ => by rw [show f + 1 + i = f + (i + 1) by omega])
        rw [ee]
        omega
theorem pk_f {n : Int} {rk : Int → Int} {sh : Int → Int → Int} {z : Int} {s' f' l' : Int} : ∀ (k : Nat) (s f l : Int), pk n rk sh z k s f l = some (s', f', l') → 0 ≤ l → 0 ≤ s → lst rk s z ≤ f → (0 ≤ s' ∧ s' < n) ∧ (lst rk s' z ≤ f' ∧ f' ≤ mst rk s' z) ∧ 0 ≤ l' ∧ l' < sh s' f' := by
  intro k
  induction k with
  | zero => intro s f l h; exact absurd h (by unfold pk; intro w; cases w)
  | succ k ih =>
    intro s f l h l0 s0 f0
    unfold pk at h
    by_cases q0 : n ≤ s
    · rw [if_pos q0] at h; cases h
    rw [if_neg q0] at h
    by_cases q : mst rk s z < f
    · rw [if_pos q] at h
      exact ih _ _ _ h l0 (by omega) (Int.le_refl _)
    · rw [if_neg q] at h
      by_cases q3 : l < sh s f
      · rw [if_pos q3] at h
        simp only [Option.some.injEq, Prod.mk.injEq] at h
        obtain ⟨e1, e2, e3⟩ := h
        subst e1 e2 e3
        exact ⟨⟨s0, by omega⟩, ⟨f0, by omega⟩, l0, q3⟩
      · rw [if_neg q3] at h
        exact ih _ _ _ h (by omega) s0 (by omega)
/-- the first pick at a size -/
def pick (n : Int) (rk : Int → Int) (m : Mch) (W : Int → Int) (z l : Int) : Option (Int × Int × Int) := pk n rk (fun s f => shP rk m (kC n rk m) W s z f) z 400 0 (lst rk 0 z) l
theorem pick_ex {n : Int} {rk : Int → Int} {m : Mch} {W : Int → Int} {z l : Int} (hW : MW n rk m) (hr : ∀ s, 0 ≤ rk s ∧ rk s ≤ 2) (hw : WOK (mN m) W) (n6 : n ≤ 6) (z1 : 1 ≤ z) (z2 : z ≤ 40) (l0 : 0 ≤ l) (l1 : l < ssum (mN m).toNat (fun c => sat (kC n rk m z c * W c))) : ∃ s f l', pick n rk m W z l = some (s, f, l') ∧ (0 ≤ s ∧ s < n) ∧ (lst rk s z ≤ f ∧ f ≤ mst rk s z) ∧ 0 ≤ l' ∧ l' < shP rk m (kC n rk m) W s z f := by
  have h1 : l < sumN n.toNat (shA n rk m W z) := Int.lt_of_lt_of_le l1 (shA_tot hW hr hw z1 z2)
  have n0 : 0 < n := by
    by_cases q : n ≤ 0
    · rw [show n.toNat = 0 by omega] at h1
      have : sumN 0 (shA n rk m W z) = 0 := rfl
      omega
    · omega
  have b := lst_b (hr 0) z1 z2
  rw [show n.toNat = (n - 0 - 1).toNat + 1 by omega, sumN_f] at h1
  rw [sumN_c (g := fun t => shA n rk m W z (0 + 1 + t)) (fun t _ _ => by rw [show 0 + 1 + t = t + 1 by omega])] at h1
  obtain ⟨s, f, l', e⟩ := pk_ex (n := n) (rk := rk) (sh := fun s f => shP rk m (kC n rk m) W s z f) hr z1 z2 400 0 (lst rk 0 z) l (by omega) n0 h1 l0
  exact ⟨s, f, l', e, pk_f 400 0 (lst rk 0 z) l e l0 (Int.le_refl 0) (Int.le_refl _)⟩
/-- the tree that a number picks: its class, what is left, its signs -/
def WT (n : Int) (rk : Int → Int) (m : Mch) : Nat → (Int → Int) → Int → Int → Int → Int → List Int → Prop
  | 0 => fun _ _ _ _ _ _ => False
  | j + 1 => fun W z k c r l => (1 ≤ z ∧ (0 ≤ c ∧ c < mN m) ∧ (0 ≤ r ∧ r < W c) ∧ (l.length : Int) = z) ∧ ∃ s f k', pick n rk m W z k = some (s, f, k') ∧ ((0 ≤ s ∧ s < n) ∧ (lst rk s z ≤ f ∧ f ≤ mst rk s z) ∧ 0 ≤ k' ∧ k' < shP rk m (kC n rk m) W s z f) ∧ ((rk s = 0 ∧ c = mT m s 0 0 ∧ r = k' ∧ l = [s]) ∨ (rk s = 1 ∧ ∃ c1 l1, WT n rk m j (w1P rk m (kC n rk m) W s z f) f k' c1 r l1 ∧ c = mT m s c1 0 ∧ l = s :: l1) ∨ (rk s = 2 ∧ ∃ c1 r1 l1 c2 l2, WT n rk m j (w1P rk m (kC n rk m) W s z f) f k' c1 r1 l1 ∧ WT n rk m j (fun y => W (mT m s c1 y)) (z - 1 - f) r1 c2 r l2 ∧ c = mT m s c1 c2 ∧ l = s :: (l1 ++ l2)))
theorem WT.ar {n : Int} {rk : Int → Int} {m : Mch} {j : Nat} {W : Int → Int} {z k c r : Int} {l : List Int} (h : WT n rk m j W z k c r l) : 1 ≤ z ∧ (0 ≤ c ∧ c < mN m) ∧ (0 ≤ r ∧ r < W c) ∧ (l.length : Int) = z := by
  cases j with
  | zero => exact h.elim
  | succ j => exact h.1
theorem WT_ex {n : Int} {rk : Int → Int} {m : Mch} (hW : MW n rk m) (hr : ∀ s, 0 ≤ rk s ∧ rk s ≤ 2) (n6 : n ≤ 6) : ∀ (j : Nat) (W : Int → Int) (z k : Int), WOK (mN m) W → 1 ≤ z → z ≤ j → z ≤ 40 → 0 ≤ k → k < ssum (mN m).toNat (fun c => sat (kC n rk m z c * W c)) → ∃ c r l, WT n rk m j W z k c r l := by
  intro j
  induction j with
  | zero => intro W z k _ z1 z2; omega
  | succ j ih =>
    intro W z k hw z1 zj z2 k0 k1
    obtain ⟨s, f, k', e, pf⟩ := pick_ex hW hr hw n6 z1 z2 k0 k1
    have pf' := pf
    obtain ⟨sr, fr, kr0, kr1⟩ := pf
    have rs := hr s
    by_cases q0 : rk s = 0
    · have r := hW.2 s 0 0 sr.1 sr.2 (argx (fun w => by omega) (fun w => by omega) (fun _ => rfl) (fun _ => rfl))
      have kk1 := kr1
      unfold shP at kk1
      rw [if_pos q0] at kk1
      by_cases qz : z = 1
      · rw [if_pos qz] at kk1
        exact ⟨mT m s 0 0, k', [s], ⟨z1, r, ⟨kr0, kk1⟩, by rw [qz]; rfl⟩, s, f, k', e, pf', Or.inl ⟨q0, rfl, rfl, rfl⟩⟩
      · rw [if_neg qz] at kk1; omega
    · have r1 : 1 ≤ rk s := by omega
      have w1 : WOK (mN m) (w1P rk m (kC n rk m) W s z f) := fun x x0 x1 => w1P_r hW kC_r hw sr.1 sr.2 r1 rs.2 x0 x1
      have kk1 := kr1
      unfold shP at kk1
      rw [if_neg q0] at kk1
      have f1 : 1 ≤ f := by
        by_cases q : f ≤ 0
        · have f0 : f = 0 := by
            have b := (lst_b rs z1 z2).2
            omega
          rw [f0, ssum_z (fun i _ _ => by rw [kC_0, Int.zero_mul]; exact sat_i (by rw [FAR_e]; decide))] at kk1
          omega
        · omega
      by_cases q1 : rk s = 1
      · have ef : f = z - 1 := by
          have a := fr.1
          have b := fr.2
          unfold mst lst at b
          unfold lst at a
          rw [if_neg q0, if_pos q1] at a
          rw [if_neg (by omega), if_neg q0, if_pos q1] at b
          omega
        obtain ⟨c1, r', l1, h1⟩ := ih _ f k' w1 f1 (by omega) (by omega) kr0 kk1
        have a1 := h1.ar
        have e1 : w1P rk m (kC n rk m) W s z f c1 = W (mT m s c1 0) := by unfold w1P; rw [if_pos q1]
        have r := hW.2 s c1 0 sr.1 sr.2 (argx (fun w => a1.2.1) (fun w => by omega) (fun w => by omega) (fun _ => rfl))
        refine ⟨mT m s c1 0, r', s :: l1, ⟨z1, r, ?_, ?_⟩, s, f, k', e, pf', Or.inr (Or.inl ⟨q1, c1, l1, h1, rfl, rfl⟩)⟩
        · rw [← e1]; exact a1.2.2.1
        · have := a1.2.2.2
          rw [List.length_cons]; omega
      · have q2 : rk s = 2 := by omega
        have ef : 1 ≤ f ∧ f ≤ z - 2 := by
          have b := fr.2
          unfold mst at b
          rw [if_pos q2] at b
          omega
        obtain ⟨c1, r', l1, h1⟩ := ih _ f k' w1 f1 (by omega) (by omega) kr0 kk1
        have a1 := h1.ar
        have e1 : w1P rk m (kC n rk m) W s z f c1 = ssum (mN m).toNat (fun y => sat (kC n rk m (z - 1 - f) y * W (mT m s c1 y))) := by unfold w1P; rw [if_neg q1]; rfl
        have rr := a1.2.2.1
        rw [e1] at rr
        have w2 : WOK (mN m) (fun y => W (mT m s c1 y)) := by
          intro y y0 y1
          have r := hW.2 s c1 y sr.1 sr.2 (argx (fun w => a1.2.1) (fun w => ⟨y0, y1⟩) (fun w => by omega) (fun w => by omega))
          exact hw _ r.1 r.2
        obtain ⟨c2, r2, l2, h2⟩ := ih _ (z - 1 - f) r' w2 (by omega) (by omega) (by omega) rr.1 rr.2
        have a2 := h2.ar
        have r := hW.2 s c1 c2 sr.1 sr.2 (argx (fun w => a1.2.1) (fun w => a2.2.1) (fun w => by omega) (fun w => by omega))
        refine ⟨mT m s c1 c2, r2, s :: (l1 ++ l2), ⟨z1, r, a2.2.2.1, ?_⟩, s, f, k', e, pf', Or.inr (Or.inr ⟨q2, c1, r', l1, c2, l2, h1, h2, rfl, rfl⟩)⟩
        have := a1.2.2.2
        have := a2.2.2.2
        rw [List.length_cons, List.length_append]; omega
