/-! laying: the whole tree -/
theorem NUP.rw {d c st : Int} {N N' : Mem} (h : NUP d c st N N') (v : Int) : RWR v d [] N N' := ⟨h.1, fun a x _ y => h.2.1 a x (by omega), fun k _ _ x => h.2.2.1 k x, by rw [h.2.1 64 (by decide) (by decide)]; rfl, by rw [h.2.2.1 3 (by decide), ln'_0]; omega, fun i _ => by rw [h.2.1 94 (by decide) (by decide)], fun a i x y w => by
  by_cases u : a = 98
  · rw [u]; exact h.2.2.2.2.1 i (by omega)
  · rw [h.2.1 a (by omega) u], h.2.2.2.2.2⟩
theorem NDN.rw {d z' st N : Int} {g : Int → Int} {A A' : Mem} (h : NDN d z' st N g A A') : RWR (6 * d + 6) d [] A A' := by
  obtain ⟨h2, ho, h94, h95, -, h98, -, -, hB, -⟩ := h
  refine ⟨h2, fun a x _ y => ho a (by omega) (by omega) (by omega), fun k _ _ _ => by rw [ho 62 (by decide) (by decide) (by decide)], by rw [ho 64 (by decide) (by decide) (by decide)]; rfl, by rw [ho 62 (by decide) (by decide) (by decide), ln'_0]; omega, fun i x => h94 i (by omega), fun a i x y w => ?_, hB⟩
  by_cases u : a = 98
  · rw [u]; exact h98 i (by omega) (by omega)
  · by_cases u' : a = 95
    · rw [u']; exact h95 i (by omega)
    · rw [ho a (by omega) u' u]
theorem up99_rw {M : Mem} (hB : SB M) (d x v : Int) : RWR v d [] M (up M 99 d x) := ⟨up_2 .., fun a _ _ q => up_n (by omega), fun k _ _ _ => by rw [up_n (by decide)], by rw [up_n (by decide)]; rfl, by rw [up_n (by decide), ln'_0]; omega, fun i _ => by rw [up_n (by decide)], fun a i _ _ q => by rw [up_1, if_neg (by omega)], SB_up hB (by unfold stp; omega)⟩
theorem layT_lp {n : Int} {rk : Int → Int} {m : Mch} (K : Mem → Option (Int × Mem)) (P : Option (Int × Mem) → Prop) : ∀ (j : Nat) {M : Mem} {W : Int → Int} {z k c r d : Int} {l : List Int} (m0 : Nat), RSt n rk m M → WOK (mN m) W → AtR d (mN m) W M → 0 ≤ d → d + z ≤ 40 → (0 ≤ k ∧ k < FAR) → WT n rk m j W z k c r l → M.1 95 d = z → M.1 98 d = 0 → M.1 62 52 = k → 0 ≤ M.1 62 3 → M.1 62 3 + ln' l ≤ 120 → (∀ M', RWR (6 * d + 6) d l M M' → M'.1 62 52 = r → M'.1 62 53 = c → P (L_M_layTree_32 K 62 m0 (d - 1) M')) → P (L_M_layTree_32 K 62 (m0 + (2 * z - 1).toNat) d M) := by
  intro j
  induction j with
  | zero => intro M W z k c r d l m0 _ _ _ _ _ _ hT; exact hT.elim
  | succ j ih =>
    intro M W z k c r d l m0 h hw hl d0 dz kr hT ez es ek rl0 rl1 hP
    obtain ⟨hW, hr, n6, eN⟩ := h.mw
    have N6 := hW.1
    obtain ⟨⟨z1, cr, rr, ll⟩, s, f, k', ep, ⟨sr, fr, k0', k1'⟩, hcases⟩ := hT
    have rs := hr s
    have hlen : ln' l = z := ll
    have sh := shP_nn (z := z) (f := f) hW hr hw sr.1 sr.2
    have hB := h.sb
    obtain ⟨N, ea, cN, n52, n96, n97, n95, n98, n99⟩ := va_0 h hw hl d0 (by omega) z1 (by omega) ez ek kr ep (by omega) rl0 (by omega)
    have cN' : RWR (6 * d + 6) d [s] M N := cN.lo (by omega) (Int.le_refl _)
    have hN := h.c cN
    have hlN := hl.c cN N6.2 (by omega)
    have n3 : N.1 62 3 = M.1 62 3 + 1 := by rw [cN.2.2.2.2.1, ln'_s, ln'_0]; omega
    rcases hcases with ⟨q, ec, er, el⟩ | ⟨q, c1, l1, t1, ec, el⟩ | ⟨q, c1, r1, l1, c2, l2, t1, t2, ec, el⟩
    · -- a leaf
      have z1' : z = 1 := by
        have : ln' l = 1 := by rw [el]; rfl
        omega
      obtain ⟨N', eb, hU⟩ := vb_up (x := 0) (y := 0) hN d0 (by omega) sr.1 sr.2 n96 (by rw [n98, es]) (by decide) (by omega) (argx (fun w => by omega) (fun w => by omega) (fun _ => rfl) (fun _ => rfl)) (fun w => by omega) (fun w => by omega)
      rw [show m0 + (2 * z - 1).toNat = m0 + 1 by omega, lay_turn hB d0 (by omega) es ea eb]
      refine hP N' ?_ ?_ ?_
      · have := cN'.tr (hU.rw (6 * d + 6)) (Int.le_refl _) (Int.le_refl _)
        rw [el]; exact this
      · rw [hU.2.2.1 52 (by decide), n52, er]
      · rw [hU.2.2.2.1, ec]
    · -- one part
      have a1 := t1.ar
      have ll1 : ln' l = 1 + ln' l1 := by rw [el, ln'_s]
      have hl1 : ln' l1 = f := a1.2.2.2
      have w1 : WOK (mN m) (w1P rk m (kC n rk m) W s z f) := fun x x0 x1 => w1P_r hW kC_r hw sr.1 sr.2 (by omega) rs.2 x0 x1
      rw [if_neg (by omega)] at n97
      obtain ⟨N', eb, hD⟩ := vb_dn (x := N.1 99 d) hN hw hlN d0 (by omega) sr.1 sr.2 n96 (by rw [n98, es]) (by decide) (by omega) rfl (fun w => by omega) n97 (by decide) (by rw [n95, ez]) (by omega)
      have cD := hD.rw
      have c0 := cN'.tr cD (Int.le_refl _) (Int.le_refl _)
      rw [List.append_nil] at c0
      have hN' := h.c c0
      obtain ⟨h2, ho, h94, h95, hz', h98, hst, hst1, hBD, hAt⟩ := hD
      rw [if_neg (by decide)] at hz'
      have o62 : N'.1 62 = N.1 62 := ho 62 (by decide) (by decide) (by decide)
      rw [show m0 + (2 * z - 1).toNat = m0 + 1 + (2 * f - 1).toNat + 1 by omega, lay_turn hB d0 (by omega) es ea eb]
      refine ih (W := w1P rk m (kC n rk m) W s z f) (z := f) (k := k') (c := c1) (r := r) (d := d + 1) (l := l1) (m0 + 1) hN' w1 (fun x x0 x1 => ?_) (by omega) (by omega) ⟨k0', by omega⟩ t1 (by omega) hst1 (by rw [o62, n52]) (by rw [o62]; omega) (by rw [o62]; omega) (fun M2 c2' e52 e53 => ?_)
      · rw [hAt x x0 x1]
        unfold gW w1P
        rw [if_pos rfl, if_pos q, if_pos q]
      · have cc := c0.tr (c2'.lo (show 6 * d + 6 ≤ 6 * (d + 1) + 6 by omega) (show d ≤ d + 1 by omega)) (Int.le_refl _) (Int.le_refl _)
        have hM2 := h.c cc
        have hB2 := hM2.sb
        have k98 : M2.1 98 d = 1 := by rw [c2'.2.2.2.2.2.2.1 98 d (by decide) (by decide) (by omega), hst]; rfl
        have k96 : M2.1 96 d = s := by rw [c2'.2.2.2.2.2.2.1 96 d (by decide) (by decide) (by omega), ho 96 (by decide) (by decide) (by decide), n96]
        have ea2 := va_1 hB2 d0 (show d ≤ 40 by omega) k98
        rw [e53] at ea2
        have c3 := up99_rw hB2 d c1 (6 * d + 6)
        have e99 : (up M2 99 d c1).1 99 d = c1 := by rw [up_1, if_pos ⟨rfl, rfl⟩]
        have o99 : ∀ a, a ≠ 99 → (up M2 99 d c1).1 a = M2.1 a := fun a q => up_n q
        generalize up M2 99 d c1 = N3 at *
        have hN3 := hM2.c c3
        obtain ⟨N4, eb4, hU⟩ := vb_up (st := 1) (x := c1) (y := 0) hN3 d0 (by omega) sr.1 sr.2 (by rw [o99 96 (by decide)]; exact k96) (by rw [o99 98 (by decide)]; exact k98) (by decide) (by omega) (argx (fun w => a1.2.1) (fun w => by omega) (fun w => by omega) (fun _ => rfl)) (fun w => e99) (fun w => by omega)
        rw [show d + 1 - 1 = d by omega, lay_turn hB2 d0 (by omega) k98 ea2 eb4]
        have c4 := (cc.tr c3 (Int.le_refl _) (Int.le_refl _)).tr (hU.rw (6 * d + 6)) (Int.le_refl _) (Int.le_refl _)
        rw [List.append_nil, List.append_nil] at c4
        refine hP N4 ?_ ?_ ?_
        · rw [el]; exact c4
        · rw [hU.2.2.1 52 (by decide), o99 62 (by decide), e52]
        · rw [hU.2.2.2.1, ec]
    · -- two parts
      have a1 := t1.ar
      have a2 := t2.ar
      have ll1 : ln' l = 1 + (ln' l1 + ln' l2) := by rw [el, ln'_s, ln'_a]
      have hl1 : ln' l1 = f := a1.2.2.2
      have hl2 : ln' l2 = z - 1 - f := a2.2.2.2
      have w1 : WOK (mN m) (w1P rk m (kC n rk m) W s z f) := fun x x0 x1 => w1P_r hW kC_r hw sr.1 sr.2 (by omega) rs.2 x0 x1
      have hW2 := hW.2
      have w2 : WOK (mN m) (fun y => W (mT m s c1 y)) := by
        intro y y0 y1
        have t := hW2 s c1 y sr.1 sr.2 (argx (fun _ => a1.2.1) (fun _ => ⟨y0, y1⟩) (fun w => by omega) (fun w => by omega))
        exact hw _ t.1 t.2
      have w1c := w1 c1 a1.2.1.1 a1.2.1.2
      rw [if_pos q] at n97
      have f1 : 1 ≤ f := a1.1
      have f2 : 1 ≤ z - 1 - f := a2.1
      obtain ⟨N', eb, hD⟩ := vb_dn (x := N.1 99 d) hN hw hlN d0 (by omega) sr.1 sr.2 n96 (by rw [n98, es]) (by decide) (by omega) rfl (fun w => by omega) n97 (by omega) (by rw [n95, ez]) (by omega)
      have cD := hD.rw
      have c0 := cN'.tr cD (Int.le_refl _) (Int.le_refl _)
      rw [List.append_nil] at c0
      have hN' := h.c c0
      obtain ⟨h2, ho, h94, h95, hz', h98, hst, hst1, hBD, hAt⟩ := hD
      rw [if_neg (by decide)] at hz'
      have o62 : N'.1 62 = N.1 62 := ho 62 (by decide) (by decide) (by decide)
      rw [show m0 + (2 * z - 1).toNat = (m0 + 1 + (2 * (z - 1 - f) - 1).toNat + 1) + (2 * f - 1).toNat + 1 by omega, lay_turn hB d0 (by omega) es ea eb]
      refine ih (W := w1P rk m (kC n rk m) W s z f) (z := f) (k := k') (c := c1) (r := r1) (d := d + 1) (l := l1) (m0 + 1 + (2 * (z - 1 - f) - 1).toNat + 1) hN' w1 (fun x x0 x1 => ?_) (by omega) (by omega) ⟨k0', by omega⟩ t1 (by omega) hst1 (by rw [o62, n52]) (by rw [o62]; omega) (by rw [o62]; omega) (fun M2 c2' e52 e53 => ?_)
      · rw [hAt x x0 x1]
        unfold gW w1P
        rw [if_pos rfl, if_neg (show ¬ rk s = 1 by omega)]
      · have cc := c0.tr (c2'.lo (show 6 * d + 6 ≤ 6 * (d + 1) + 6 by omega) (show d ≤ d + 1 by omega)) (Int.le_refl _) (Int.le_refl _)
        have hM2 := h.c cc
        have hB2 := hM2.sb
        have k98 : M2.1 98 d = 1 := by rw [c2'.2.2.2.2.2.2.1 98 d (by decide) (by decide) (by omega), hst]; rfl
        have k96 : M2.1 96 d = s := by rw [c2'.2.2.2.2.2.2.1 96 d (by decide) (by decide) (by omega), ho 96 (by decide) (by decide) (by decide), n96]
        have k97 : M2.1 97 d = z - 1 - f := by rw [c2'.2.2.2.2.2.2.1 97 d (by decide) (by decide) (by omega), ho 97 (by decide) (by decide) (by decide), n97]
        have k95 : M2.1 95 d = z := by rw [c2'.2.2.2.2.2.2.1 95 d (by decide) (by decide) (by omega), h95 d (by omega), n95, ez]
        have ea2 := va_1 hB2 d0 (show d ≤ 40 by omega) k98
        rw [e53] at ea2
        have c3 := up99_rw hB2 d c1 (6 * d + 6)
        have e99 : (up M2 99 d c1).1 99 d = c1 := by rw [up_1, if_pos ⟨rfl, rfl⟩]
        have o99 : ∀ a, a ≠ 99 → (up M2 99 d c1).1 a = M2.1 a := fun a q => up_n q
        generalize up M2 99 d c1 = N3 at *
        have hN3 := hM2.c c3
        have cc3 := cc.tr c3 (Int.le_refl _) (Int.le_refl _)
        rw [List.append_nil] at cc3
        have hl3 := hl.c cc3 N6.2 (Int.le_refl _)
        obtain ⟨N4, eb4, hD4⟩ := vb_dn (st := 1) (x := c1) (j := z - 1 - f) (z := z) hN3 hw hl3 d0 (by omega) sr.1 sr.2 (by rw [o99 96 (by decide)]; exact k96) (by rw [o99 98 (by decide)]; exact k98) (by decide) (by omega) e99 (fun w => a1.2.1) (by rw [o99 97 (by decide)]; exact k97) (by omega) (by rw [o99 95 (by decide)]; exact k95) (by omega)
        rw [show d + 1 - 1 = d by omega, lay_turn hB2 d0 (by omega) k98 ea2 eb4]
        have cD4 := hD4.rw
        have cc4 := cc3.tr cD4 (Int.le_refl _) (Int.le_refl _)
        rw [List.append_nil] at cc4
        have hN4 := h.c cc4
        obtain ⟨u2, uo, u94, u95, uz, u98, ust, ust1, uB, uAt⟩ := hD4
        rw [if_pos rfl] at uz
        have v62 : N4.1 62 = M2.1 62 := by rw [uo 62 (by decide) (by decide) (by decide), o99 62 (by decide)]
        have v3 : N4.1 62 3 = M.1 62 3 + (1 + ln' l1) := by rw [cc4.2.2.2.2.1, ln'_a, ln'_s, ln'_0]; omega
        refine ih (W := fun y => W (mT m s c1 y)) (z := z - 1 - f) (k := r1) (c := c2) (r := r) (d := d + 1) (l := l2) (m0 + 1) hN4 w2 (fun x x0 x1 => ?_) (by omega) (by omega) ⟨a1.2.2.1.1, by have := a1.2.2.1.2; omega⟩ t2 uz ust1 (by rw [v62, e52]) (by omega) (by omega) (fun M5 c5 e52' e53' => ?_)
        · rw [uAt x x0 x1]
          unfold gW
          rw [if_neg (by decide)]
        · have cc5 := cc4.tr (c5.lo (show 6 * d + 6 ≤ 6 * (d + 1) + 6 by omega) (show d ≤ d + 1 by omega)) (Int.le_refl _) (Int.le_refl _)
          have hM5 := h.c cc5
          have hB5 := hM5.sb
          have j98 : M5.1 98 d = 2 := by rw [c5.2.2.2.2.2.2.1 98 d (by decide) (by decide) (by omega), ust]; rfl
          have j96 : M5.1 96 d = s := by rw [c5.2.2.2.2.2.2.1 96 d (by decide) (by decide) (by omega), uo 96 (by decide) (by decide) (by decide), o99 96 (by decide), k96]
          have j99 : M5.1 99 d = c1 := by rw [c5.2.2.2.2.2.2.1 99 d (by decide) (by decide) (by omega), uo 99 (by decide) (by decide) (by decide), e99]
          have ea5 := va_2 hB5 d0 (show d ≤ 40 by omega) j98
          obtain ⟨N6', eb6, hU⟩ := vb_up (st := 2) (x := c1) (y := c2) hM5 d0 (by omega) sr.1 sr.2 j96 j98 (by decide) (by omega) (argx (fun w => a1.2.1) (fun w => a2.2.1) (fun w => by omega) (fun w => by omega)) (fun w => j99) (fun w => e53')
          rw [show d + 1 - 1 = d by omega, lay_turn hB5 d0 (by omega) j98 ea5 eb6]
          have c6 := cc5.tr (hU.rw (6 * d + 6)) (Int.le_refl _) (Int.le_refl _)
          rw [List.append_nil] at c6
          refine hP N6' ?_ ?_ ?_
          · rw [el]; exact c6
          · rw [hU.2.2.1 52 (by decide), e52']
          · rw [hU.2.2.2.1, ec]
