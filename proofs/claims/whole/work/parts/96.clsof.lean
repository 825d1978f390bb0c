/-! calls: the class of the row -/
/-- cells that the invariant does not speak of -/
def FR (M M' : Mem) : Prop := M'.2 = M.2 ∧ (∀ a, a ≠ 5 → a ≠ 6 → ¬ (8 ≤ a ∧ a ≤ 9) → ¬ (50 ≤ a ∧ a ≤ 62) → ¬ (80 ≤ a ∧ a ≤ 99) → M'.1 a = M.1 a) ∧ (∀ k, k ≠ 20 → k ≠ 21 → k ≠ 22 → k ≠ 23 → k ≠ 24 → k ≠ 25 → k ≠ 26 → ¬ (34 ≤ k ∧ k ≤ 38) → k ≠ 52 → k ≠ 53 → M'.1 62 k = M.1 62 k)
theorem FR.rf (M : Mem) : FR M M := ⟨rfl, fun _ _ _ _ _ _ => rfl, fun _ _ _ _ _ _ _ _ _ _ _ => rfl⟩
theorem FR.tr {M M' M'' : Mem} (h : FR M M') (h' : FR M' M'') : FR M M'' := ⟨h'.1.trans h.1, fun a a1 a2 a3 a4 a5 => (h'.2.1 a a1 a2 a3 a4 a5).trans (h.2.1 a a1 a2 a3 a4 a5), fun k b1 b2 b3 b4 b5 b6 b7 b8 b9 b10 => (h'.2.2 k b1 b2 b3 b4 b5 b6 b7 b8 b9 b10).trans (h.2.2 k b1 b2 b3 b4 b5 b6 b7 b8 b9 b10)⟩
theorem FR.ib {M M' : Mem} {tc : Int} (f : FR M M') (h : IB M tc) (hB : SB M') : IB M' tc := by
  have o : ∀ a, a < 5 ∨ a = 7 ∨ (10 ≤ a ∧ a < 50) ∨ (63 ≤ a ∧ a < 80) ∨ 100 ≤ a → M'.1 a = M.1 a := fun a q => f.2.1 a (by omega) (by omega) (by omega) (by omega) (by omega)
  have f0 : M'.1 62 0 = M.1 62 0 := f.2.2 0 (by decide) (by decide) (by decide) (by decide) (by decide) (by decide) (by decide) (by decide) (by decide) (by decide)
  have f3 : M'.1 62 3 = M.1 62 3 := f.2.2 3 (by decide) (by decide) (by decide) (by decide) (by decide) (by decide) (by decide) (by decide) (by decide) (by decide)
  have o1 := o 1 (by omega)
  have o2 := o 2 (by omega)
  refine h.c ⟨h.tc_.1, Int.le_refl _⟩ f.1 hB (h.sg.c o1 o2 f0 (o 63 (by omega))) (h.2.2.1.c o1 o2) ?_ (o 7 (by omega)) (fun a a0 a1 => o a (by omega)) (fun a a0 a1 => o a (by omega)) (fun a a0 a1 => o a (by omega)) (Or.inr ⟨by rw [o1], rk_c o1 o2⟩)
  unfold RW
  rw [o1, o 3 (by omega), o 4 (by omega), f3, o 64 (by omega)]
  exact h.rw_
theorem FR.sc {L : Nat} {xs : Int → Int} {M M' : Mem} (f : FR M M') (q : SC L xs M) : SC L xs M' := ⟨by rw [f.1]; exact q.1, by rw [f.2.1 _ (by decide) (by decide) (by decide) (by decide) (by decide)]; exact q.2⟩
theorem FR.inv {L : Nat} {xs : Int → Int} {M M' : Mem} {tc : Int} (f : FR M M') (h : IB M tc) (e7 : M.1 0 7 = tc) (e4 : M.1 62 4 = tc) (q : SC L xs M) (hB : SB M') : Inv L xs M' := ⟨tc, f.ib h hB, by rw [f.2.1 0 (by decide) (by decide) (by decide) (by decide) (by decide)]; exact e7, by rw [f.2.2 4 (by decide) (by decide) (by decide) (by decide) (by decide) (by decide) (by decide) (by decide) (by decide) (by decide)]; exact e4, f.sc q⟩
theorem FR.of5 {M M' : Mem} (e : M'.2 = M.2) (o : ∀ a, a ≠ 5 → M'.1 a = M.1 a) : FR M M' := ⟨e, fun a a1 _ _ _ _ => o a a1, fun k _ _ _ _ _ _ _ _ _ _ => by rw [o 62 (by decide)]⟩
theorem FR.of6 {M M' : Mem} (e : M'.2 = M.2) (o : ∀ a, a ≠ 6 → M'.1 a = M.1 a) : FR M M' := ⟨e, fun a _ a1 _ _ _ => o a a1, fun k _ _ _ _ _ _ _ _ _ _ => by rw [o 62 (by decide)]⟩
theorem FR.of9 {M M' : Mem} (e : M'.2 = M.2) (o : ∀ a, ¬ (90 ≤ a ∧ a ≤ 99) → M'.1 a = M.1 a) : FR M M' := ⟨e, fun a _ _ _ _ a1 => o a (by omega), fun k _ _ _ _ _ _ _ _ _ _ => by rw [o 62 (by decide)]⟩
/-- the reference looks whether the row is a tree, after the class -/
def ITQ (M' : Mem) (S : Int → Int) (r : Int) (r' : Int) (N : Mem) : Prop := r' = r ∧ N.2 = M'.2 ∧ (∀ a, a ≠ 90 → a ≠ 92 → N.1 a = M'.1 a) ∧ SB N ∧ (r = 1 → ∀ i, 0 ≤ i → i < M'.1 62 3 → N.1 92 i = S i)
theorem isTree_q {M MA M' : Mem} {tc r : Int} (hI : IB M tc) (hA : ITP M r MA) (hI' : IB M' tc) (o : ∀ a, a < 5 → M'.1 a = M.1 a) : OkV (D_M_isTree 62 M') (fun r' N => ITQ M' (MA.1 5) r r' N) := by
  obtain ⟨s1, o1, hB1, hS, hr1⟩ := hA
  have hr := hI.rw_
  have hr' := hI'.rw_
  have n1 := o 1 (by decide)
  have ek : rkC M' = rkC M := rk_c n1 (o 2 (by decide))
  have c62 : M'.1 62 3 = M.1 3 4 := by rw [hr'.2.1, o 3 (by decide)]
  have c64 : ∀ i, 0 ≤ i → i < M.1 3 4 → M'.1 64 i = M.1 4 i := fun i a b => by
    have := (hr'.2.2 i a (by rw [o 3 (by decide)]; exact b)).1
    rw [this, o 4 (by decide)]
  have hS' : SPN (rkC M') (M'.1 62 3) 0 (M'.1 64) (MA.1 5) := by
    intro i a b
    rw [c62] at b
    rw [hS i a b, ek, c62]
    unfold sv
    rw [c64 i a b]
  obtain ⟨r', N, d2, s2, o2, hB2, hr2⟩ := isTree_r (S := MA.1 5) hI'.sb hI'.sg (by rw [c62]; exact hr.1) (fun i a b => by rw [c62] at b; rw [c64 i a b, n1]; exact (hr.2.2 i a b).2) hS'
  refine ⟨r', N, d2, ?_⟩
  rw [c62] at hr2
  rcases hr1 with ⟨u, v⟩ | ⟨u, v⟩ <;> rcases hr2 with ⟨u', v', w'⟩ | ⟨u', v'⟩
  · exact ⟨by omega, s2, o2, hB2, fun _ i a b => w' i a (by omega)⟩
  · exact absurd v v'
  · exact absurd v' v
  · exact ⟨by omega, s2, o2, hB2, fun q => by omega⟩
/-- how the two sides read the row by the machine of tongue k -/
def RQA (M : Mem) (MA : Mem) : Prop := D_Row_isTree 3 M = some (0, MA) ∧ SB MA ∧ ∃ MD, D_M_isTree 62 MA = some (0, MD) ∧ FR M MA ∧ FR MA MD ∧ SB MD
def RQB (M : Mem) (tc k : Int) (MA MB : Mem) : Prop := D_Row_isTree 3 M = some (1, MA) ∧ SB MA ∧ D_T_isLarge 0 (100 + 12 * k) MA = some (1, MB) ∧ IB MB tc ∧ FR M MA ∧ FQ MA MB ∧ ∃ MD ME, D_M_isTree 62 MB = some (1, MD) ∧ D_M_load 62 k 16 MD = some (-5, ME) ∧ SB MD ∧ IB ME tc ∧ KL 16 MD ME ∧ FR MB MD
def RQC (M : Mem) (tc k : Int) (MA MB MC : Mem) (c : Int) : Prop := D_Row_isTree 3 M = some (1, MA) ∧ SB MA ∧ D_T_isLarge 0 (100 + 12 * k) MA = some (0, MB) ∧ IB MB tc ∧ FR M MA ∧ FQ MA MB ∧ D_Row_readBy 3 (102 + 12 * k) MB = some (c, MC) ∧ IB MC tc ∧ FR MB MC ∧ (0 ≤ c ∧ c < MB.1 (102 + 12 * k) 10) ∧ MOK MC (102 + 12 * k) ∧ ∃ MD ME MF, D_M_isTree 62 MC = some (1, MD) ∧ D_M_load 62 k 16 MD = some (0, ME) ∧ D_M_classify 62 ME = some MF ∧ SB MD ∧ IB ME tc ∧ KL 16 MD ME ∧ FR MC MD ∧ FR ME MF ∧ SB MF ∧ MF.1 91 0 = c ∧ Eqm (MC.1 1 1) (rkC MC) (mch MC (102 + 12 * k)) (mchR MF 16)
theorem rq_ok {M : Mem} {tc k : Int} (hI : IB M tc) (k0 : 0 ≤ k) (k1 : k < tc) : (∃ MA, RQA M MA) ∨ (∃ MA MB, RQB M tc k MA MB) ∨ (∃ MA MB MC c, RQC M tc k MA MB MC c) := by
  have hB := hI.sb
  have hg := hI.sg
  have hr := hI.rw_
  obtain ⟨r, MA, d1, hA⟩ := isTree_c hB hg.1 hr.1
  have hA' := hA
  obtain ⟨s1, o1, hB1, hS, hr1⟩ := hA
  have fA := FR.of5 s1 o1
  have hIA := fA.ib hI hB1
  rcases hr1 with ⟨u, v⟩ | ⟨u, v⟩
  · subst u
    right
    obtain ⟨rl, MB, d2, hIB, hF, er, r01, h7, ho, hs⟩ := isLarge_ok hIA k0 k1
    have oB : ∀ a, a < 5 → MB.1 a = M.1 a := fun a q => by rw [hF.2 a (by omega), o1 a (by omega)]
    have rest : ∀ MC, IB MC tc → (∀ a, a ≠ 6 → MC.1 a = MB.1 a) → ∃ MD ME r', D_M_isTree 62 MC = some (1, MD) ∧ D_M_load 62 k 16 MD = some (r', ME) ∧ SB MD ∧ FR MC MD ∧ IB MD tc ∧ (∀ a, a ≠ 90 → a ≠ 92 → MD.1 a = MC.1 a) ∧ LDP MD tc k 16 r' ME := by
      intro MC hIC oC
      obtain ⟨r', MD, d3, er', s3, o3, hBD, -⟩ := isTree_q hI hA' hIC (fun a q => by rw [oC a (by omega), oB a q])
      subst er'
      have fD : FR MC MD := FR.of9 s3 (fun a q => o3 a (by omega) (by omega))
      have hID := fD.ib hIC hBD
      obtain ⟨r'', ME, d4, hL⟩ := load_k_ok (m := 16) hID k0 k1 (by rw [o3 _ (by omega) (by omega), oC _ (by omega)]; exact h7) (Or.inl rfl)
      exact ⟨MD, ME, r'', d3, d4, hBD, fD, hID, o3, hL⟩
    rcases r01 with z | z
    · right
      subst z
      have mok : MOK MB (102 + 12 * k) := TG.mok (hIB.2.2.2.2.2.2.2.2.2.2 k k0 k1) h7 er.symm
      have n5 : MB.1 5 = MA.1 5 := hF.2 5 (by decide)
      have ek : rkC MB = rkC M := rk_c (oB 1 (by decide)) (oB 2 (by decide))
      have hT0 := TRE.mk hS v.1 v.2
      have hT : TRE (rkC MB) (MB.1 3 4) (MB.1 4) (MB.1 5) := by
        rw [ek, oB 3 (by decide), oB 4 (by decide), n5]; exact hT0
      obtain ⟨c, MC, d5, s5, o5, hBC, hK, ec⟩ := readBy_ok hIB.sb hIB.sg.1 mok (by rw [oB 3 (by decide)]; exact ⟨v.1, hr.1.2⟩) (fun i a b => by rw [oB 3 (by decide)] at b; rw [oB 4 (by decide), oB 1 (by decide)]; exact (hr.2.2 i a b).2) hT
      have fC := FR.of6 s5 o5
      have hIC := fC.ib hIB hBC
      obtain ⟨MD, ME, r', d3, d4, hBD, fD, hID, oD, hL⟩ := rest MC hIC o5
      obtain ⟨hIE, hKL, hres⟩ := hL
      have pD : ∀ a, 100 ≤ a → MD.1 a = MB.1 a := fun a q => by rw [oD a (by omega) (by omega), o5 a (by omega)]
      have p12 : MD.1 (102 + 12 * k) 12 = 0 := by rw [pD _ (by omega)]; exact er.symm
      rcases hres with ⟨w1, w2⟩ | ⟨w1, w2, w3, w4, w5⟩
      · omega
      · subst w1
        have oD5 : ∀ a, a < 5 → MD.1 a = M.1 a := fun a q => by rw [oD a (by omega) (by omega), o5 a (by omega), oB a q]
        have ekD : rkC MD = rkC M := rk_c (oD5 1 (by decide)) (oD5 2 (by decide))
        have oE5 : ∀ a, a < 5 → ME.1 a = M.1 a := fun a q => by rw [hKL.2.1 a (by omega) (by omega), oD5 a q]
        have ekE : rkC ME = rkC M := rk_c (oE5 1 (by decide)) (oE5 2 (by decide))
        have hrE := hIE.rw_
        have c62 : ME.1 62 3 = M.1 3 4 := by rw [hrE.2.1, oE5 3 (by decide)]
        have c64 : ∀ i, 0 ≤ i → i < M.1 3 4 → ME.1 64 i = M.1 4 i := fun i a b => by
          have := (hrE.2.2 i a (by rw [oE5 3 (by decide)]; exact b)).1
          rw [this, oE5 4 (by decide)]
        have emB : mch MD (102 + 12 * k) = mch MB (102 + 12 * k) := mch_c (by rw [ekD, ek]) (fun a a0 a1 => pD a (by omega))
        have hTE : TRE (rkC ME) (ME.1 62 3) (ME.1 64) (MA.1 5) := by
          intro i a b
          rw [c62] at b
          rw [c64 i a b, ekE, c62]
          exact hT0 i a b
        rw [ek, oB 3 (by decide), oB 4 (by decide), n5] at hK
        rw [emB, ekD, oD5 1 (by decide)] at w4
        have c6 : MB.1 (102 + 12 * k) 10 ≤ 6 := mok.2.2.1.1.2
        have hKE : RDN (rkC ME) (mT (mchR ME 16)) (MB.1 (102 + 12 * k) 10) (ME.1 62 3) 0 (ME.1 64) (MA.1 5) (MC.1 6) := by
          intro i a b
          rw [c62] at b
          have ar := hK.arg hT0 a b (by omega)
          have h := hK i a b
          refine ⟨?_, h.2⟩
          rw [h.1, ekE]
          unfold kv
          rw [c64 i a b]
          exact w4.2.2 _ _ _ (hr.2.2 i a b).2.1 (hr.2.2 i a b).2.2 ar
        obtain ⟨MF, d6, s6, o6, hBF, h91⟩ := classify_ok (S := MA.1 5) (K := MC.1 6) hIE.sb hIE.sg c6 (by rw [c62]; exact hr.1) (fun i a b => by rw [c62] at b; rw [c64 i a b, oE5 1 (by decide)]; exact (hr.2.2 i a b).2) hTE hKE
        have rc := (hK 0 (Int.le_refl 0) v.1).2
        have fF : FR ME MF := FR.of9 s6 (fun a q => o6 a (by omega) (by omega))
        have emF : mchR MF 16 = mchR ME 16 := by
          unfold mchR
          rw [o6 73 (by decide) (by decide), o6 74 (by decide) (by decide), o6 75 (by decide) (by decide), o6 76 (by decide) (by decide), o6 77 (by decide) (by decide), o6 78 (by decide) (by decide), o6 79 (by decide) (by decide)]
        have ekC : rkC MC = rkC M := by rw [rk_c (o5 1 (by decide)) (o5 2 (by decide)), ek]
        have emC : mch MC (102 + 12 * k) = mch MB (102 + 12 * k) := mch_c (by rw [ekC, ek]) (fun a a0 a1 => o5 a (by omega))
        have mokC : MOK MC (102 + 12 * k) := mok.c (by rw [o5 1 (by decide)]) (by rw [ekC, ek]) (fun a a0 a1 => ⟨o5 a (by omega), by rw [s5]⟩)
        refine ⟨MA, MB, MC, c, d1, hB1, d2, hIB, fA, hF, d5, hIC, fC, by rw [ec]; exact rc, mokC, MD, ME, MF, d3, d4, d6, hBD, hIE, hKL, fD, fF, hBF, ?_, ?_⟩
        · rw [h91 0 (Int.le_refl 0) (by rw [c62]; exact v.1), ec]
        · rw [emF, emC, ekC, o5 1 (by decide), oB 1 (by decide)]
          exact w4
    · left
      subst z
      obtain ⟨MD, ME, r', d3, d4, hBD, fD, hID, oD, hL⟩ := rest MB hIB (fun _ _ => rfl)
      obtain ⟨hIE, hKL, hres⟩ := hL
      have p12 : MD.1 (102 + 12 * k) 12 = 1 := by rw [oD _ (by omega) (by omega)]; exact er.symm
      rcases hres with ⟨w1, w2⟩ | ⟨w1, w2, w3, w4, w5⟩
      · subst w1
        exact ⟨MA, MB, d1, hB1, d2, hIB, fA, hF, MD, ME, d3, d4, hBD, hIE, hKL, fD⟩
      · omega
  · subst u
    left
    obtain ⟨r', MD, d3, er', s3, o3, hBD, -⟩ := isTree_q hI hA' hIA (fun a q => o1 a (by omega))
    subst er'
    exact ⟨MA, d1, hB1, MD, d3, fA, FR.of9 s3 (fun a q => o3 a (by omega) (by omega)), hBD⟩
