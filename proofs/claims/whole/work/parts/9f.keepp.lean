/-! the invariant, while a machine's own lists change -/
theorem mch_c2 {M M' : Mem} {p : Int} (ek : rkC M' = rkC M) (h10 : M'.1 p 10 = M.1 p 10) (h11 : M'.1 p 11 = M.1 p 11) (h : ∀ a, p + 1 ≤ a → a ≤ p + 5 → M'.1 a = M.1 a) : mch M' p = mch M p := by
  unfold mch
  rw [ek, h10, h11, h (p + 1) (by omega) (by omega), h (p + 2) (by omega) (by omega), h (p + 3) (by omega) (by omega), h (p + 4) (by omega) (by omega), h (p + 5) (by omega) (by omega)]
theorem MOK.c2 {M M' : Mem} {p : Int} (q : MOK M p) (e2 : M'.2 = M.2) (en : M'.1 1 1 = M.1 1 1) (ek : rkC M' = rkC M) (f : ∀ j, j ≠ 13 → M'.1 p j = M.1 p j) (h : ∀ a, p + 1 ≤ a → a ≤ p + 5 → M'.1 a = M.1 a) : MOK M' p := by
  obtain ⟨hMS, hp, hW, hf⟩ := q
  refine ⟨hMS.c (fun k hk => f k (by omega)) (fun a _ _ => by rw [e2]), hp, ?_, ?_⟩
  · rw [en, ek, mch_c2 ek (f 10 (by decide)) (f 11 (by decide)) h]
    exact hW
  · rw [f 11 (by decide)]
    exact hf
theorem TG.p {k : Int} {M M' : Mem} (e2 : M'.2 = M.2) (o : ∀ a, a ≠ 102 + 12 * k → a ≠ 108 + 12 * k → a ≠ 109 + 12 * k → M'.1 a = M.1 a) (k0 : 0 ≤ k) (f : ∀ j, j ≠ 13 → M'.1 (102 + 12 * k) j = M.1 (102 + 12 * k) j) (hc : CV M (102 + 12 * k) → CV M' (102 + 12 * k)) (q : TG M k) : TG M' k := by
  have c1 : M'.1 1 = M.1 1 := o 1 (by omega) (by omega) (by omega)
  have c2 : M'.1 2 = M.1 2 := o 2 (by omega) (by omega) (by omega)
  have en : M'.1 1 1 = M.1 1 1 := by rw [c1]
  have ek : rkC M' = rkC M := rk_c c1 c2
  have oo : ∀ a, 62 ≤ a → a ≤ 79 → M'.1 a = M.1 a := fun a _ _ => o a (by omega) (by omega) (by omega)
  have ht : M'.1 (100 + 12 * k) = M.1 (100 + 12 * k) := o _ (by omega) (by omega) (by omega)
  have ht1 : M'.1 (100 + 12 * k + 1) = M.1 (100 + 12 * k + 1) := o _ (by omega) (by omega) (by omega)
  have hpp : ∀ a, 102 + 12 * k + 1 ≤ a → a ≤ 102 + 12 * k + 5 → M'.1 a = M.1 a := fun a _ _ => o a (by omega) (by omega) (by omega)
  have em : mch M' (102 + 12 * k) = mch M (102 + 12 * k) := mch_c2 ek (f 10 (by decide)) (f 11 (by decide)) hpp
  have e0 : nx0 M' k = nx0 M k := nx0_e ek (fun a a0 a1 => oo a (by omega) (by omega))
  have ct := canT_c (k := k) (M := M) (M' := M') en ek e0 (by rw [oo 67 (by decide) (by decide)])
  rcases q with ⟨a1, a2, a3, a4, a5, a6, a7, a8, a9⟩ | ⟨a1, a2, a3, a4, a5, a6, a7⟩
  · left
    have esd : SD M' (100 + 12 * k) = SD M (100 + 12 * k) := by
      funext s x y
      unfold SD
      rw [ek, ht1]
    refine ⟨by rw [oo 65 (by decide) (by decide)]; exact a1, by rw [ht]; exact a2, ?_, a4.c en ek (fun a _ _ => by rw [oo a (by omega) (by omega)]) (fun a i _ _ _ _ => by rw [oo a (by omega) (by omega)]), by rw [oo 66 (by decide) (by decide), ht]; exact a5, by rw [oo 67 (by decide) (by decide), ht]; exact a6, by rw [oo 68 (by decide) (by decide), ht]; exact a7, ?_, ?_⟩
    · unfold TOK TS at a3 ⊢
      rw [ht, ht1, e2]
      exact a3
    · unfold TR at a8 ⊢
      rw [en, ek, ht, esd, oo 68 (by decide) (by decide), oo 69 (by decide) (by decide), oo 70 (by decide) (by decide), oo 71 (by decide) (by decide), oo 72 (by decide) (by decide)]
      exact a8
    · rw [ht]
      rcases a9 with w | ⟨w1, w2⟩
      · exact Or.inl w
      · right
        refine ⟨w1, ?_⟩
        rcases w2 with ⟨b1, b2⟩ | ⟨b1, b2, b3, b4, b5⟩
        · left
          refine ⟨by rw [f 12 (by decide)]; exact b1, fun m hm => ?_⟩
          rw [ct.1]; exact b2 m hm
        · right
          refine ⟨by rw [f 12 (by decide)]; exact b1, b2.c2 e2 en ek f hpp, hc b3, by rw [ct.2]; exact b4, fun m hm => ?_⟩
          rw [ct.1] at hm
          rw [en, ek, em]
          exact b5 m hm
  · right
    refine ⟨by rw [oo 65 (by decide) (by decide)]; exact a1, by rw [ht]; exact a2, by rw [ht]; exact a3, by rw [f 12 (by decide)]; exact a4, a5.c2 e2 en ek f hpp, hc a6, ?_⟩
    have er : mchR M' k = mchR M k := by
      unfold mchR
      rw [oo 73 (by decide) (by decide), oo 74 (by decide) (by decide), oo 75 (by decide) (by decide), oo 76 (by decide) (by decide), oo 77 (by decide) (by decide), oo 78 (by decide) (by decide), oo 79 (by decide) (by decide)]
    rw [en, ek, em, er]
    exact a7
theorem IB.p {M M' : Mem} {tc k : Int} (h : IB M tc) (k0 : 0 ≤ k) (k1 : k < tc) (e2 : M'.2 = M.2) (o : ∀ a, a ≠ 102 + 12 * k → a ≠ 108 + 12 * k → a ≠ 109 + 12 * k → M'.1 a = M.1 a) (f : ∀ j, j ≠ 13 → M'.1 (102 + 12 * k) j = M.1 (102 + 12 * k) j) (hB : SB M') (hc : CV M (102 + 12 * k) → CV M' (102 + 12 * k)) : IB M' tc := by
  have oo : ∀ a, a < 100 → M'.1 a = M.1 a := fun a _ => o a (by omega) (by omega) (by omega)
  have c1 := oo 1 (by decide)
  have c2 := oo 2 (by decide)
  have o62 := oo 62 (by decide)
  have l10 : ∀ a, 10 ≤ a → a < 50 → M'.1 a = M.1 a := fun a _ _ => oo a (by omega)
  refine h.mk2 h.tc_ hB c1 c2 (oo 3 (by decide)) (oo 4 (by decide)) (by rw [o62]) (by rw [o62]) (oo 63 (by decide)) (oo 64 (by decide)) (h.sl.c (Int.le_refl _) e2 (oo 7 (by decide)) (fun a a0 a1 q j _ => ?_) (fun a a0 a1 q j hj => ?_)) (h.2.2.2.2.2.2.1.c l10) (h.2.2.2.2.2.2.2.1.c l10) (fun j a b => by rw [oo 75 (by decide)]; exact h.2.2.2.2.2.2.2.2.1 j a b) (fun j a b => by rw [oo 65 (by decide)]; exact h.2.2.2.2.2.2.2.2.2.1 j a b) (fun j j0 j1 => ?_)
  · rw [o a (by omega) (by omega) (by omega)]
  · by_cases z : a = 102 + 12 * k
    · rw [z]; exact f j (by omega)
    · rw [o a z (by omega) (by omega)]
  · by_cases z : j = k
    · rw [z]; exact TG.p e2 o k0 f hc (h.2.2.2.2.2.2.2.2.2.2 k k0 k1)
    · exact TG.c ⟨fun a a0 a1 => ⟨o a (by omega) (by omega) (by omega), by rw [e2]⟩, by rw [c1], rk_c c1 c2, fun a a0 a1 => by rw [oo a (by omega)], fun a i a0 a1 _ _ => by rw [oo a (by omega)], by rw [oo 73 (by decide)], fun i i0 i1 => by rw [oo 74 (by decide)], fun a c a0 a1 c0 c1 => by rw [oo a (by omega)]⟩ h.sg.1.2.1 (h.2.2.2.2.2.2.2.2.2.2 j j0 j1)
theorem IB.p7 {M M' : Mem} {tc k : Int} (h : IB M tc) (k0 : 0 ≤ k) (k1 : k < tc) (e2 : M'.2 = M.2) (o : ∀ a, a ≠ 102 + 12 * k + 7 → M'.1 a = M.1 a) (hB : SB M') : IB M' tc := by
  have oo : ∀ a, a ≠ 109 + 12 * k → M'.1 a = M.1 a := fun a q => o a (by omega)
  have c1 := oo 1 (by omega)
  have c2 := oo 2 (by omega)
  have ek := rk_c c1 c2
  refine h.p k0 k1 e2 (fun a _ _ q => oo a q) (fun j _ => by rw [oo _ (by omega)]) hB (fun q => ?_)
  unfold CV
  rw [c1, ek, mch_c ek (fun a a0 a1 => oo a (by omega)), oo (102 + 12 * k) (by omega), oo (102 + 12 * k + 6) (by omega)]
  exact q
