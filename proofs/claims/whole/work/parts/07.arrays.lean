/-! the rows of arrays and of what is made -/
theorem rel_store {G : GG} {M : Mem} {s : State} {H H1 : Heap} {locs : List Loc} {a i z : Int} {k : Nat} (hR : Rel G M s H locs) (hk : (M.2.1 a).1 < 15) (ho : okM (up M a i z)) (he : va_at G.1 vwCl (gB G + a.toNat, cellE G (up M a i z) a) H1) (hz : H1.size = H.size) (oq : ∀ q : Nat, q ≠ gB G + a.toNat → H1[q]? = H[q]?) : Rel G (up M a i z) s H1 (locs ++ [⟨gB G + a.toNat, k⟩]) := by
  obtain ⟨h1, h2, h3, h4⟩ := rf_lo (G := G) hR.1 hk
  refine ⟨ho, hz.trans hR.2.1, ?_, hR.2.2.2.1.put hz oq (Nat.le_add_right _ _), scr_up hR.2.2.2.2 hk⟩
  rw [ws_set G M i z h2 rfl]
  exact hR.2.2.1.set (ws_D G M) (ws_get G h3) he oq
theorem arr_i {G : GG} {M : Mem} {a : Int} {kd : Nat} (h : (M.2.1 a).1 = kd) (hk : kd = 10 ∨ kd = 12) : cellE G M a = .inl (G.2.1 kd, (M.2.1 a).2, .inl fun j => Int32.ofInt (M.1 a j)) := by
  subst h
  unfold cellE
  rw [if_neg (by omega), if_neg (by omega), if_neg (by omega)]
theorem arr_l {G : GG} {M : Mem} {a : Int} (h : (M.2.1 a).1 = 11) : cellE G M a = .inl (G.2.1 11, (M.2.1 a).2, .inr (.inl fun j => Int64.ofInt (M.1 a j))) := by
  unfold cellE
  rw [if_neg (by omega), if_pos h]
theorem arr_q {G : GG} {M : Mem} {a : Int} {kd : Nat} (h : (M.2.1 a).1 = kd) (hk : kd = 13 ∨ kd = 14) : cellE G M a = .inl (G.2.1 kd, (M.2.1 a).2, .inr (.inr (.inr (.inr fun j => rfO G (M.1 a j))))) := by
  subst h
  unfold cellE
  rw [if_neg (by omega), if_neg (by omega), if_pos (by omega)]
theorem rd_s {M : Mem} {kd : Nat} {a i z : Int} (h : rd M kd a i = some z) : (M.2.1 a).1 = kd ∧ 0 ≤ i ∧ i < (M.2.1 a).2 ∧ M.1 a i = z := by
  unfold rd at h
  split at h
  · next q => exact ⟨q.1, q.2.1, q.2.2, Option.some.inj h⟩
  · cases h
theorem wt_s {M M' : Mem} {kd : Nat} {a i z : Int} (h : wt M kd a i z = some M') : (M.2.1 a).1 = kd ∧ 0 ≤ i ∧ i < (M.2.1 a).2 ∧ up M a i z = M' := by
  unfold wt at h
  split at h
  · next q => exact ⟨q.1, q.2.1, q.2.2, Option.some.inj h⟩
  · cases h
section ARULES
variable {Y : YY} {d mc ms ca sl : Nat} {res : Option V × Mem} {pc : Nat} {lv : List (Nat × V)} {st : List V} {M : Mem}
theorem r_iald {a i z : Int} (hd : decode Y.2.1 pc = .ok (.iaload, 1)) (hg : rd M 10 a i = some z) (kk : Rn Y d mc ms ca sl res (pc + 1) lv ((0, z) :: st) M) : Rn Y d mc ms ca sl res pc lv ((0, i) :: (2, a) :: st) M := by
  intro G p l e R s m args below meth c H locs ls Q hC hl hs hR hv hf
  obtain ⟨h1, h2, h3, h4⟩ := rd_s hg
  obtain ⟨g1, g2, g3, g4⟩ := arr_at (G := G) hR.1 h1 (by decide)
  obtain ⟨j1, j2⟩ := ix_in h2 h3 g3
  rw [arr_i h1 (Or.inl rfl)] at g1
  rw [List.map_cons, List.map_cons, show cv G (2, a) = va_rf (rfO G a) from rfl, g2]
  refine va_iald hC.1 hC.2.1 hC.2.2.2.2.2.1.1 hR.2.2.1 a.toNat 0 g1 rfl j1 hd ?_
  rw [j2, show ((i.toNat : Nat) : Int) = i by omega, h4]
  refine kk G p l e R s m args below meth c H locs ls Q hC hl (okS_c ?_ (okS_t (okS_t hs))) hR hv hf
  have := (hR.1.2.2 a (by rw [h1]; decide)).2.2 i.toNat (by omega)
  rw [h1, show ((i.toNat : Nat) : Int) = i by omega, h4] at this
  exact this
theorem r_lald {a i z : Int} (hd : decode Y.2.1 pc = .ok (.laload, 1)) (hg : rd M 11 a i = some z) (kk : Rn Y d mc ms ca sl res (pc + 1) lv ((1, z) :: st) M) : Rn Y d mc ms ca sl res pc lv ((0, i) :: (2, a) :: st) M := by
  intro G p l e R s m args below meth c H locs ls Q hC hl hs hR hv hf
  obtain ⟨h1, h2, h3, h4⟩ := rd_s hg
  obtain ⟨g1, g2, g3, g4⟩ := arr_at (G := G) hR.1 h1 (by decide)
  obtain ⟨j1, j2⟩ := ix_in h2 h3 g3
  rw [arr_l h1] at g1
  rw [List.map_cons, List.map_cons, show cv G (2, a) = va_rf (rfO G a) from rfl, g2]
  refine va_lald hC.1 hC.2.1 hC.2.2.2.2.2.1.1 hR.2.2.1 a.toNat 1 g1 rfl j1 hd ?_
  rw [j2, show ((i.toNat : Nat) : Int) = i by omega, h4]
  refine kk G p l e R s m args below meth c H locs ls Q hC hl (okS_c ?_ (okS_t (okS_t hs))) hR hv hf
  have := (hR.1.2.2 a (by rw [h1]; decide)).2.2 i.toNat (by omega)
  rw [h1, show ((i.toNat : Nat) : Int) = i by omega, h4] at this
  exact this
theorem r_zald {a i z : Int} (hd : decode Y.2.1 pc = .ok (.baload, 1)) (hg : rd M 12 a i = some z) (kk : Rn Y d mc ms ca sl res (pc + 1) lv ((0, z) :: st) M) : Rn Y d mc ms ca sl res pc lv ((0, i) :: (2, a) :: st) M := by
  intro G p l e R s m args below meth c H locs ls Q hC hl hs hR hv hf
  obtain ⟨h1, h2, h3, h4⟩ := rd_s hg
  obtain ⟨g1, g2, g3, g4⟩ := arr_at (G := G) hR.1 h1 (by decide)
  obtain ⟨j1, j2⟩ := ix_in h2 h3 g3
  rw [arr_i h1 (Or.inr rfl)] at g1
  rw [List.map_cons, List.map_cons, show cv G (2, a) = va_rf (rfO G a) from rfl, g2]
  refine va_zald hC.1 hC.2.1 hC.2.2.2.2.2.1.1 hR.2.2.1 a.toNat 2 g1 rfl j1 hd ?_
  rw [j2, show ((i.toNat : Nat) : Int) = i by omega, h4]
  refine kk G p l e R s m args below meth c H locs ls Q hC hl (okS_c ?_ (okS_t (okS_t hs))) hR hv hf
  have := (hR.1.2.2 a (by rw [h1]; decide)).2.2 i.toNat (by omega)
  rw [h1, show ((i.toNat : Nat) : Int) = i by omega, h4] at this
  rcases (this : z = 0 ∨ z = 1) with rfl | rfl <;> exact ⟨by decide, by decide⟩
theorem r_aald {kd : Nat} {a i z : Int} (hkd : kd = 13 ∨ kd = 14) (hd : decode Y.2.1 pc = .ok (.aaload, 1)) (hg : rd M kd a i = some z) (kk : Rn Y d mc ms ca sl res (pc + 1) lv ((2, z) :: st) M) : Rn Y d mc ms ca sl res pc lv ((0, i) :: (2, a) :: st) M := by
  intro G p l e R s m args below meth c H locs ls Q hC hl hs hR hv hf
  obtain ⟨h1, h2, h3, h4⟩ := rd_s hg
  obtain ⟨g1, g2, g3, g4⟩ := arr_at (G := G) hR.1 h1 (by omega)
  obtain ⟨j1, j2⟩ := ix_in h2 h3 g3
  rw [arr_q h1 hkd] at g1
  rw [List.map_cons, List.map_cons, show cv G (2, a) = va_rf (rfO G a) from rfl, g2]
  have k2 : W p l e R s m args below meth c H locs ca sl Q (F0 m (pc + 1) ls (va_rf (rfO G (M.1 a ((Int32.ofInt i).toNatClampNeg : Nat))) :: st.map (cv G))) := by
    rw [j2, show ((i.toNat : Nat) : Int) = i by omega, h4]
    exact kk G p l e R s m args below meth c H locs ls Q hC hl (okS_c trivial (okS_t (okS_t hs))) hR hv hf
  rcases hkd with rfl | rfl
  · exact va_aldq (C := "TreeTongues$Step") hC.1 hC.2.1 hC.2.2.2.2.2.1.1 hR.2.2.1 a.toNat 3 g1 rfl j1 hd k2
  · exact va_aldq (C := "TreeTongues$Tongue") hC.1 hC.2.1 hC.2.2.2.2.2.1.1 hR.2.2.1 a.toNat 4 g1 rfl j1 hd k2
theorem r_len {a z : Int} (hd : decode Y.2.1 pc = .ok (.arraylength, 1)) (hg : ln M a = some z) (kk : Rn Y d mc ms ca sl res (pc + 1) lv ((0, z) :: st) M) : Rn Y d mc ms ca sl res pc lv ((2, a) :: st) M := by
  intro G p l e R s m args below meth c H locs ls Q hC hl hs hR hv hf
  unfold ln at hg
  split at hg
  case isFalse => cases hg
  case isTrue hk =>
  cases hg
  obtain ⟨g1, g2, g3, g4⟩ := arr_at (G := G) hR.1 rfl hk.2
  rw [List.map_cons, show cv G (2, a) = va_rf (rfO G a) from rfl, g2]
  have k2 := kk G p l e R s m args below meth c H locs ls Q hC hl (okS_c (show r32 _ from ⟨by omega, by omega⟩) (okS_t hs)) hR hv hf
  rcases (show (M.2.1 a).1 = 10 ∨ (M.2.1 a).1 = 11 ∨ (M.2.1 a).1 = 12 ∨ (M.2.1 a).1 = 13 ∨ (M.2.1 a).1 = 14 by omega) with h | h | h | h | h
  · rw [arr_i h (Or.inl rfl)] at g1
    exact va_alen hC.1 hC.2.1 hC.2.2.2.2.2.1.1 hR.2.2.1 a.toNat 0 g1 rfl (v := Int32.ofInt ((M.2.1 a).2 : Int)) Int32.ofInt_eq_ofNat.symm hd k2
  · rw [arr_l h] at g1
    exact va_alen hC.1 hC.2.1 hC.2.2.2.2.2.1.1 hR.2.2.1 a.toNat 1 g1 rfl (v := Int32.ofInt ((M.2.1 a).2 : Int)) Int32.ofInt_eq_ofNat.symm hd k2
  · rw [arr_i h (Or.inr rfl)] at g1
    exact va_alen hC.1 hC.2.1 hC.2.2.2.2.2.1.1 hR.2.2.1 a.toNat 2 g1 rfl (v := Int32.ofInt ((M.2.1 a).2 : Int)) Int32.ofInt_eq_ofNat.symm hd k2
  · rw [arr_q h (Or.inl rfl)] at g1
    exact va_alen hC.1 hC.2.1 hC.2.2.2.2.2.1.1 hR.2.2.1 a.toNat 3 g1 rfl (v := Int32.ofInt ((M.2.1 a).2 : Int)) Int32.ofInt_eq_ofNat.symm hd k2
  · rw [arr_q h (Or.inr rfl)] at g1
    exact va_alen hC.1 hC.2.1 hC.2.2.2.2.2.1.1 hR.2.2.1 a.toNat 4 g1 rfl (v := Int32.ofInt ((M.2.1 a).2 : Int)) Int32.ofInt_eq_ofNat.symm hd k2
theorem updv_i {f : Nat → Value} {h : Int → Value} {M : Mem} {a i z : Int} {g : Int → Value} (h0 : 0 ≤ i) (hf : ∀ j : Nat, f j = g (M.1 a j)) : (fun j : Nat => g ((up M a i z).1 a j)) = updV f i.toNat (g z) := by
  funext j
  show g (if a = a ∧ (j : Int) = i then z else M.1 a j) = if j = i.toNat then g z else f j
  by_cases hj : (j : Int) = i
  · rw [if_pos ⟨rfl, hj⟩, if_pos (by omega)]
  · rw [if_neg (fun q => hj q.2), if_neg (by omega), hf]
theorem r_iast {a i z : Int} {M' : Mem} (hd : decode Y.2.1 pc = .ok (.iastore, 1)) (hg : wt M 10 a i z = some M') (kk : Rn Y d mc ms ca sl res (pc + 1) lv st M') : Rn Y d mc ms ca sl res pc lv ((0, z) :: (0, i) :: (2, a) :: st) M := by
  intro G p l e R s m args below meth c H locs ls Q hC hl hs hR hv hf
  obtain ⟨h1, h2, h3, rfl⟩ := wt_s hg
  obtain ⟨g1, g2, g3, g4⟩ := arr_at (G := G) hR.1 h1 (by decide)
  obtain ⟨j1, j2⟩ := ix_in h2 h3 g3
  rw [arr_i h1 (Or.inl rfl)] at g1
  rw [List.map_cons, List.map_cons, List.map_cons, show cv G (2, a) = va_rf (rfO G a) from rfl, g2]
  have hz : r32 z := okS_h hs
  refine W.iast hC.1 hC.2.1 (hR.2.2.1 a.toNat _ g1) ((hC.2.2.2.2.2.1.1.2 0 _ rfl).1 (M.2.1 a).2 (fun j => .int (Int32.ofInt (M.1 a j)))) (fun q => by cases q) (by show ¬ (_ ∨ (arrV _ _ _).slots.size ≤ _); rw [arrV_size]; exact j1) rfl rfl hd fun H1 e1 z1 oq => ?_
  refine kk G p l e R s m args below meth c H1 _ ls Q hC hl (okS_t (okS_t (okS_t hs))) (rel_store hR (by rw [h1]; decide) (okM_up hR.1 (fun _ => by rw [h1]; exact hz)) ?_ z1 oq) hv hf
  rw [arr_i (M := up M a i z) h1 (Or.inl rfl)]
  show H1[_]? = some (vp_cell _ _)
  rw [e1, vp_cell_i, vp_cell_i, arrV_store, j2]
  exact congrArg (fun f => some (arrV _ _ f)) (updv_i (h := fun _ => .null) (g := fun z => .int (Int32.ofInt z)) h2 (fun j => rfl)).symm
theorem r_last {a i z : Int} {M' : Mem} (hd : decode Y.2.1 pc = .ok (.lastore, 1)) (hg : wt M 11 a i z = some M') (kk : Rn Y d mc ms ca sl res (pc + 1) lv st M') : Rn Y d mc ms ca sl res pc lv ((1, z) :: (0, i) :: (2, a) :: st) M := by
  intro G p l e R s m args below meth c H locs ls Q hC hl hs hR hv hf
  obtain ⟨h1, h2, h3, rfl⟩ := wt_s hg
  obtain ⟨g1, g2, g3, g4⟩ := arr_at (G := G) hR.1 h1 (by decide)
  obtain ⟨j1, j2⟩ := ix_in h2 h3 g3
  rw [arr_l h1] at g1
  rw [List.map_cons, List.map_cons, List.map_cons, show cv G (2, a) = va_rf (rfO G a) from rfl, g2]
  have hz : r64 z := okS_h hs
  refine W.last hC.1 hC.2.1 (hR.2.2.1 a.toNat _ g1) ((hC.2.2.2.2.2.1.1.2 1 _ rfl).1 (M.2.1 a).2 (fun j => .long (Int64.ofInt (M.1 a j)))) (fun q => by cases q) (by show ¬ (_ ∨ (arrV _ _ _).slots.size ≤ _); rw [arrV_size]; exact j1) rfl rfl hd fun H1 e1 z1 oq => ?_
  refine kk G p l e R s m args below meth c H1 _ ls Q hC hl (okS_t (okS_t (okS_t hs))) (rel_store hR (by rw [h1]; decide) (okM_up hR.1 (fun _ => by rw [h1]; exact hz)) ?_ z1 oq) hv hf
  rw [arr_l (M := up M a i z) h1]
  show H1[_]? = some (vp_cell _ _)
  rw [e1, vp_cell_l, vp_cell_l, arrV_store, j2]
  exact congrArg (fun f => some (arrV _ _ f)) (updv_i (h := fun _ => .null) (g := fun z => .long (Int64.ofInt z)) h2 (fun j => rfl)).symm
theorem r_zast {a i z : Int} {M' : Mem} (hd : decode Y.2.1 pc = .ok (.bastore, 1)) (hz : z = 0 ∨ z = 1) (hg : wt M 12 a i z = some M') (kk : Rn Y d mc ms ca sl res (pc + 1) lv st M') : Rn Y d mc ms ca sl res pc lv ((0, z) :: (0, i) :: (2, a) :: st) M := by
  intro G p l e R s m args below meth c H locs ls Q hC hl hs hR hv hf
  obtain ⟨h1, h2, h3, rfl⟩ := wt_s hg
  obtain ⟨g1, g2, g3, g4⟩ := arr_at (G := G) hR.1 h1 (by decide)
  obtain ⟨j1, j2⟩ := ix_in h2 h3 g3
  rw [arr_i h1 (Or.inr rfl)] at g1
  rw [List.map_cons, List.map_cons, List.map_cons, show cv G (2, a) = va_rf (rfO G a) from rfl, g2]
  have hnz : narrow .boolean (.int (Int32.ofInt z)) = .int (Int32.ofInt z) := by rcases hz with rfl | rfl <;> decide
  refine W.zast hC.1 hC.2.1 (hR.2.2.1 a.toNat _ g1) ((hC.2.2.2.2.2.1.1.2 2 _ rfl).1 (M.2.1 a).2 (fun j => .int (Int32.ofInt (M.1 a j)))) (fun q => by cases q) (by show ¬ (_ ∨ (arrV _ _ _).slots.size ≤ _); rw [arrV_size]; exact j1) rfl rfl hd fun H1 e1 z1 oq => ?_
  refine kk G p l e R s m args below meth c H1 _ ls Q hC hl (okS_t (okS_t (okS_t hs))) (rel_store hR (by rw [h1]; decide) (okM_up hR.1 (fun _ => by rw [h1]; exact hz)) ?_ z1 oq) hv hf
  rw [arr_i (M := up M a i z) h1 (Or.inr rfl)]
  show H1[_]? = some (vp_cell _ _)
  rw [e1, vp_cell_i, vp_cell_i, arrV_store, j2, hnz]
  exact congrArg (fun f => some (arrV _ _ f)) (updv_i (h := fun _ => .null) (g := fun z => .int (Int32.ofInt z)) h2 (fun j => rfl)).symm
theorem r_aast {kd ci n : Nat} {a i z : Int} {M' : Mem} (hkd : (kd = 13 ∧ ci = 6) ∨ (kd = 14 ∧ ci = 7)) (hd : decode Y.2.1 pc = .ok (.aastore, 1)) (hck : ck M z ci n = some ()) (hg : wt M kd a i z = some M') (kk : Rn Y d mc ms ca sl res (pc + 1) lv st M') : Rn Y d mc ms ca sl res pc lv ((2, z) :: (0, i) :: (2, a) :: st) M := by
  intro G p l e R s m args below meth c H locs ls Q hC hl hs hR hv hf
  obtain ⟨h1, h2, h3, rfl⟩ := wt_s hg
  obtain ⟨g1, g2, g3, g4⟩ := arr_at (G := G) hR.1 h1 (by omega)
  obtain ⟨j1, j2⟩ := ix_in h2 h3 g3
  rw [arr_q h1 (by omega)] at g1
  have hzk : M.2.1 z = (ci, n) := by
    unfold ck at hck
    split at hck
    · assumption
    · cases hck
  obtain ⟨v1, v2, v3⟩ := obj_at (G := G) hR.1 hzk (by omega)
  rw [List.map_cons, List.map_cons, List.map_cons, show cv G (2, a) = va_rf (rfO G a) from rfl, g2, show cv G (2, z) = va_rf (rfO G z) from rfl, v2]
  have go : ∀ (t0 : Nat) (r : vw_C), (tysG G)[t0]? = some (G.2.1 kd, .object r.1) → vwCl[ci]? = some r → W p l e R s m args below meth c H locs ca sl Q (F0 m pc ls (.ref (gB G + z.toNat) :: .int (Int32.ofInt i) :: .ref (gB G + a.toNat) :: st.map (cv G))) := by
    intro t0 r ht hc
    have h0 : ¬ Int32.ofInt i < 0 := fun q => j1 (Or.inl q)
    have hlt : (Int32.ofInt i).toNatClampNeg < (M.2.1 a).2 := Nat.not_le.mp fun q => j1 (Or.inr q)
    obtain ⟨r', hr', cellV, q1, q2, q3, -⟩ := hR.2.2.1 z.toNat _ v1
    have hcls := (hC.2.2.2.2.2.1.1.1 ci r hc).2
    obtain ⟨kA, comp, k1, k2, k3, -⟩ := (hC.2.2.2.2.2.1.1.2 t0 _ ht).2
    have hcomp : comp = G.1.1 ci := Option.some.inj (k3.symm.trans hcls.1)
    subst hcomp
    obtain ⟨kC, hkC, -⟩ := hcls.2
    refine W.aast hC.1 hC.2.1 (hR.2.2.1 a.toNat _ g1) (fun q h => by cases h) (fun h => by cases h) k1 k2 rfl hkC ⟨h0, by show _ < (arrV _ _ _).slots.size; rw [arrV_size]; exact hlt⟩ q1 (fun q h => by rw [q3] at h; cases h) (by rw [q2]; exact hkC) (by rw [q2]; exact va_assign hcls) rfl rfl hd fun H1 e1 z1 oq => ?_
    refine kk G p l e R s m args below meth c H1 _ ls Q hC hl (okS_t (okS_t (okS_t hs))) (rel_store hR (by omega) (okM_up hR.1 (fun _ => by rw [h1]; rcases hkd with q | q <;> rw [q.1] <;> trivial)) ?_ z1 oq) hv hf
    rw [arr_q (M := up M a i z) h1 (by omega)]
    show H1[_]? = some (vp_cell _ _)
    rw [e1, vp_cell_q, vp_cell_q, arrV_store, j2]
    have e2 := (updv_i (M := M) (a := a) (z := z) (h := fun _ => .null) (g := fun z => va_rf (rfO G z)) (f := fun j : Nat => va_rf (rfO G (M.1 a j))) h2 (fun j => rfl)).symm
    rw [v2] at e2
    exact congrArg (fun f => some (arrV _ _ f)) e2
  rcases hkd with ⟨rfl, rfl⟩ | ⟨rfl, rfl⟩
  · exact go 3 _ rfl rfl
  · exact go 4 _ rfl rfl
theorem ws_push {G : GG} {M : Mem} {kd n : Nat} {x : Int × Mem} (h : nw M kd n = some x) : x.1 = (M.2.2 : Int) ∧ x.2.2.2 = M.2.2 + 1 ∧ M.2.2 < 900000 ∧ wsG G x.2 = wsG G M ++ [(gB G + M.2.2, cellE G x.2 (M.2.2 : Nat))] ∧ x.2.2.1 (M.2.2 : Nat) = (kd, n) ∧ (∀ i, x.2.1 (M.2.2 : Nat) i = nz kd i) := by
  unfold nw at h
  split at h
  case isFalse => cases h
  case isTrue hlt =>
  cases h
  refine ⟨rfl, rfl, hlt, ?_, by simp, fun i => by simp⟩
  unfold wsG
  dsimp only
  rw [List.range_succ, List.map_append]
  congr 1
  apply List.map_congr_left
  intro j hj
  have : ¬ ((j : Int) = (M.2.2 : Int)) := by
    have := List.mem_range.mp hj
    omega
  simp [cellE, this]
theorem nz_ok (kd : Nat) (i : Nat) : okc (ko kd i) (nz kd i) := by
  unfold nz
  rw [Int.toNat_natCast]
  generalize ko kd i = c
  split
  · next h => rw [h]; trivial
  · match c with
    | 0 => exact ⟨by decide, by decide⟩
    | 1 => exact ⟨by decide, by decide⟩
    | 2 => trivial
    | 3 => exact Or.inl rfl
    | n + 4 => trivial
theorem okM_nw {M : Mem} (h : okM M) {kd n : Nat} {x : Int × Mem} (hx : nw M kd n = some x) (h10 : kd < 10 → n = nfT.getD kd 0) (hn : n < 2147483648) : okM x.2 := by
  unfold nw at hx
  split at hx
  case isFalse => cases hx
  case isTrue hlt =>
  cases hx
  refine ⟨by show M.2.2 + 1 ≤ 900000; omega, fun a ha => ?_, fun a ha => ?_⟩
  · dsimp only at ha ⊢
    by_cases hq : a = (M.2.2 : Int)
    · subst hq; omega
    · rw [if_neg hq] at ha
      have := h.2.1 a ha
      omega
  · dsimp only at ha ⊢
    by_cases hq : a = (M.2.2 : Int)
    · simp only [hq, if_true]
      exact ⟨h10, hn, fun i _ => nz_ok kd i⟩
    · simp only [hq, if_false] at ha ⊢
      exact h.2.2 a ha
theorem scr_nw {G : GG} {M : Mem} {kd n : Nat} {x : Int × Mem} (h : Scr G M) (hx : nw M kd n = some x) : Scr G x.2 := by
  unfold nw at hx
  split at hx
  case isFalse => cases hx
  case isTrue hlt =>
  cases hx
  have : ¬ ((1000001 : Int) = (M.2.2 : Int)) := by omega
  exact ⟨by simp only [this, if_false]; exact h.1, fun i hi => by simp only [this, if_false]; exact h.2 i hi⟩
theorem rel_new {G : GG} {M : Mem} {s : State} {H H1 : Heap} {locs : List Loc} {kd n : Nat} {x : Int × Mem} (hx : nw M kd n = some x) (hR : Rel G M s H locs) (hgs : gB G ≤ s.heap.size) (h10 : kd < 10 → n = nfT.getD kd 0) (hn : n < 2147483648) (hz : H1.size = H.size + 1) (oq : ∀ q : Nat, q < H.size → H1[q]? = H[q]?) (he : va_at G.1 vwCl (H.size, cellE G x.2 (M.2.2 : Nat)) H1) : Rel G x.2 s H1 locs := by
  obtain ⟨h1, h2, h3, h4, h5, h6⟩ := ws_push (G := G) hx
  have hS := hR.2.2.2.1
  refine ⟨okM_nw hR.1 hx h10 hn, by rw [hz, h2, hR.2.1]; omega, ?_, ⟨Nat.le_trans hS.1 (by omega), fun q q1 q2 => (oq q (Nat.lt_of_lt_of_le q1 hS.1)).trans (hS.2.1 q q1 q2), hS.2.2⟩, scr_nw hR.2.2.2.2 hx⟩
  rw [h4]
  refine (hR.2.2.1.kept (fun k q hk => oq q.1 ((hR.2.2.1 k q hk).lt))).app (fun k q hk => ?_)
  have hk0 : k < 1 := (List.getElem?_eq_some_iff.mp hk).1
  rw [show k = 0 by omega] at hk
  cases hk
  rw [← hR.2.1]
  exact he
theorem ref_new {G : GG} {M : Mem} {s : State} {H : Heap} {locs : List Loc} (hR : Rel G M s H locs) (h3 : M.2.2 < 900000) : cv G (2, (M.2.2 : Int)) = .ref H.size := by
  have e : rfO G (M.2.2 : Int) = some (gB G + M.2.2) := by
    unfold rfO
    rw [if_neg (by omega), if_pos (by omega), Int.toNat_natCast]
  rw [hR.2.1, show cv G (2, (M.2.2 : Int)) = va_rf (rfO G (M.2.2 : Int)) from rfl, e]
  rfl
theorem nd_ty {ci k : Nat} {t : FieldType} (h : ft ci k = (match t with | .int => 0 | .long => 1 | .boolean => 3 | _ => 2)) (ht : t = .int ∨ t = .long ∨ t = .boolean ∨ (∃ n, t = .object n) ∨ ∃ q, t = .array q) (hci : ci < 10) (G : GG) : defaultValue t = cv G (tg (ft ci k), nz ci (k : Nat)) := by
  rw [nz, Int.toNat_natCast, ko, if_pos hci]
  rcases ht with rfl | rfl | rfl | ⟨n, rfl⟩ | ⟨q, rfl⟩ <;> rw [h] <;> rfl
/-- the kinds of a class's fields as its descriptors have them -/
def NK (ci : Nat) (r : vw_C) (ty : Nat → FieldType) : Prop := CK ci r ty ∧ ∀ k, k < r.2.2 → ft ci k = (match ty k with | .int => 0 | .long => 1 | .boolean => 3 | _ => 2) ∧ (ty k = .int ∨ ty k = .long ∨ ty k = .boolean ∨ (∃ n, ty k = .object n) ∨ ∃ q, ty k = .array q)
theorem r_new {i ci n : Nat} {r : vw_C} {ty : Nat → FieldType} {x : Int × Mem} (hd : decode Y.2.1 pc = .ok (.new i, 3)) (hci : ci < 10) (hK : NK ci r ty) (hn : r.2.2 = n) (hw : Jvm.Cond.classLink Y.1.cls i r.1 ∈ lw_good) (hx : nw M ci n = some x) (hca : ca + 1 ≤ mc) (hsl : sl + n ≤ ms) (kk : Rn Y d mc ms (ca + 1) (sl + n) res (pc + 3) lv ((2, x.1) :: st) x.2) : Rn Y d mc ms ca sl res pc lv st M := by
  intro G p l e R s m args below meth c H locs ls Q hC hl hs hR hv hf
  obtain ⟨⟨hcl, hin, hty, hnm, hinst, hini, hN, hdc⟩, hft⟩ := hK
  obtain ⟨C, T, N⟩ := r
  dsimp only at hcl hin hty hnm hinst hini hN hdc hft hn hw
  subst hn
  have hts := hC.2.2.2.2.1
  obtain ⟨h1, h2, h3, h4, h5, h6⟩ := ws_push (G := G) hx
  have hKn := hC.2.2.2.2.2.1.1.1 ci _ hcl
  have hRm := hC.2.2.2.2.2.2.2
  refine W.newcK hC.1 hC.2.1 hC.2.2.2.1 (hts _ hw) (hts _ hinst) (hts _ hini) rfl hd (by omega) (by omega) hKn.2.1 rfl fun H1 kC hkC e1 z1 o1 => ?_
  have hb : t_OB H.size (G.1.1 ci) N (G.1.2 ci) H1 (vp_V (fsG G x.2 (M.2.2 : Nat) ci N)) := by
    refine (u_born ty hts hin hKn hkC e1 hty).to (fun k hk => ?_)
    obtain ⟨q1, q2⟩ := hft k hk
    rw [nd_ty q1 q2 hci G]
    have : (fsG G x.2 (M.2.2 : Nat) ci N)[k]? = some (cv G (tg (ft ci k), nz ci (k : Nat))) := by
      simp only [fsG, List.getElem?_map, List.getElem?_range, hk, if_true, Option.map_some, h6]
    simp [vp_V, this]
  have hNb : N < 2147483648 := by
    have h : ∀ c, c < 10 → nfT.getD c 0 < 2147483648 := by decide
    rw [hN]
    exact h ci hci
  have hce : cellE G x.2 (M.2.2 : Nat) = .inr (ci, fsG G x.2 (M.2.2 : Nat) ci N) := by
    simp only [cellE, h5, hci, if_true, fsG]
  have k2 := kk G p l e R s m args below meth c H1 locs ls Q hC hl (okS_c trivial hs) (rel_new hx hR hC.2.2.2.2.2.1.2.2.2.2.2.2.1 (fun _ => hN) hNb z1 o1 (by rw [hce]; exact ⟨_, hcl, hb⟩)) hv hf
  rw [List.map_cons, h1, ref_new hR h3] at k2
  exact k2
theorem r_newa {kd : Nat} {ty : ArrayType} {n : Int} {x : Int × Mem} (hkd : (kd = 10 ∧ ty = .int) ∨ (kd = 11 ∧ ty = .long) ∨ (kd = 12 ∧ ty = .boolean)) (hd : decode Y.2.1 pc = .ok (.newarray ty, 2)) (hx : na M kd n = some x) (hca : ca + 1 ≤ mc) {sl' : Nat} (hn : n = (sl' : Int)) (hsl : sl + sl' ≤ ms) (kk : Rn Y d mc ms (ca + 1) (sl + sl') res (pc + 2) lv ((2, x.1) :: st) x.2) : Rn Y d mc ms ca sl res pc lv ((0, n) :: st) M := by
  intro G p l e R s m args below meth c H locs ls Q hC hl hs hR hv hf
  unfold na at hx
  split at hx
  case isFalse => cases hx
  case isTrue hlen =>
  obtain ⟨h1, h2, h3, h4, h5, h6⟩ := ws_push (G := G) hx
  have hRm := hC.2.2.2.2.2.2.2
  have hts := hC.2.2.2.2.1
  have hni : (Int32.ofInt n).toInt = n := Int32.toInt_ofInt_of_le (by omega) (by omega)
  have hN : (Int32.ofInt n).toNatClampNeg = sl' := by rw [Int32.toNatClampNeg, hni]; omega
  have hn0 : ¬ Int32.ofInt n < 0 := by rw [Int32.lt_iff_toInt_lt, hni]; show ¬ n < 0; omega
  have e0 : n.toNat = sl' := by omega
  rw [e0] at h5
  have hK := hC.2.2.2.2.2.1.1
  have go : ∀ (t0 : Nat) (fty : FieldType), newarray.typeOf ty = fty → (tysG G)[t0]? = some (G.2.1 kd, fty) → Jvm.Cond.arrayClass fty ∈ lw_good → componentBytes fty ≤ 8 → (∀ U cA, va_RA U cA fty = (U.vm.findClass ("[" ++ fty.toString) = some cA)) → (∀ (H1 : Heap), H1[H.size]? = some (arrV (G.2.1 kd) sl' (fun _ => defaultValue fty)) → va_at G.1 vwCl (H.size, cellE G x.2 (M.2.2 : Nat)) H1) → W p l e R s m args below meth c H locs ca sl Q (F0 m pc ls (.int (Int32.ofInt n) :: st.map (cv G))) := by
    intro t0 fty e1 ht hw hcb hra hat
    subst e1
    refine va_newaK hC.1 hC.2.1 (hts _ hw) rfl hd rfl hn0 hN (Nat.le_trans (Nat.mul_le_mul_left _ hcb) (by omega)) (by omega) (by omega) rfl fun H1 cA e1 z1 o1 hAr hNm => ?_
    have hcA : cA = G.2.1 kd := by
      have := (hK.2 t0 _ ht).2
      rw [hra] at this
      exact Option.some.inj (hNm.symm.trans this)
    subst hcA
    have k2 := kk G p l e R s m args below meth c H1 locs ls Q hC hl (okS_c trivial (okS_t hs)) (rel_new hx hR hC.2.2.2.2.2.1.2.2.2.2.2.2.1 (fun q => by omega) (by omega) z1 o1 (hat H1 e1)) hv hf
    rw [List.map_cons, h1, ref_new hR h3] at k2
    exact k2
  rcases hkd with ⟨rfl, rfl⟩ | ⟨rfl, rfl⟩ | ⟨rfl, rfl⟩
  · refine go 0 .int rfl rfl (by decide +kernel) (by decide) (fun _ _ => rfl) (fun H1 e1 => ?_)
    rw [arr_i (kd := 10) (by rw [h5]) (Or.inl rfl), h5]
    show H1[_]? = some (vp_cell _ _)
    rw [e1, vp_cell_i]
    exact congrArg (fun f => some (arrV _ _ f)) (funext fun j => by rw [h6]; rfl)
  · refine go 1 .long rfl rfl (by decide +kernel) (by decide) (fun _ _ => rfl) (fun H1 e1 => ?_)
    rw [arr_l (by rw [h5]), h5]
    show H1[_]? = some (vp_cell _ _)
    rw [e1, vp_cell_l]
    exact congrArg (fun f => some (arrV _ _ f)) (funext fun j => by rw [h6]; rfl)
  · refine go 2 .boolean rfl rfl (by decide +kernel) (by decide) (fun _ _ => rfl) (fun H1 e1 => ?_)
    rw [arr_i (kd := 12) (by rw [h5]) (Or.inr rfl), h5]
    show H1[_]? = some (vp_cell _ _)
    rw [e1, vp_cell_i]
    exact congrArg (fun f => some (arrV _ _ f)) (funext fun j => by rw [h6]; rfl)
theorem r_newq {i kd : Nat} {C : String} {n : Int} {x : Int × Mem} (hkd : (kd = 13 ∧ C = "TreeTongues$Step") ∨ (kd = 14 ∧ C = "TreeTongues$Tongue")) (hd : decode Y.2.1 pc = .ok (.anewarray i, 3)) (hw : Jvm.Cond.classLink Y.1.cls i C ∈ lw_good) (hx : na M kd n = some x) (hca : ca + 1 ≤ mc) {sl' : Nat} (hn : n = (sl' : Int)) (hsl : sl + sl' ≤ ms) (kk : Rn Y d mc ms (ca + 1) (sl + sl') res (pc + 3) lv ((2, x.1) :: st) x.2) : Rn Y d mc ms ca sl res pc lv ((0, n) :: st) M := by
  intro G p l e R s m args below meth c H locs ls Q hC hl hs hR hv hf
  unfold na at hx
  split at hx
  case isFalse => cases hx
  case isTrue hlen =>
  obtain ⟨h1, h2, h3, h4, h5, h6⟩ := ws_push (G := G) hx
  have hRm := hC.2.2.2.2.2.2.2
  have hts := hC.2.2.2.2.1
  have hni : (Int32.ofInt n).toInt = n := Int32.toInt_ofInt_of_le (by omega) (by omega)
  have hN : (Int32.ofInt n).toNatClampNeg = sl' := by rw [Int32.toNatClampNeg, hni]; omega
  have hn0 : ¬ Int32.ofInt n < 0 := by rw [Int32.lt_iff_toInt_lt, hni]; show ¬ n < 0; omega
  have e0 : n.toNat = sl' := by omega
  rw [e0] at h5
  have hK := hC.2.2.2.2.2.1.1
  have go : ∀ (t0 : Nat), va_AO C s → (tysG G)[t0]? = some (G.2.1 kd, .object C) → W p l e R s m args below meth c H locs ca sl Q (F0 m pc ls (.int (Int32.ofInt n) :: st.map (cv G))) := by
    intro t0 hao ht
    refine W.anew hC.1 hC.2.1 hC.2.2.2.1 (hts _ hw) (va_AO.use hao) rfl hd rfl hn0 (by rw [hN]; omega) (by omega) (by rw [hN]; omega) fun cA kA comp f1 f2 f3 f4 => ?_
    rw [hN]
    generalize hH1 : H.push ({ cls := cA, slots := Array.replicate sl' .null, vm := .none } : Cell) = H1
    have z1 : H1.size = H.size + 1 := by rw [← hH1, Array.size_push]
    have e1 : H1[H.size]? = some (arrV cA sl' (fun _ => .null)) := by rw [← hH1, Array.getElem?_push_size, ← arrV_new]
    have o1 : ∀ q : Nat, q < H.size → H1[q]? = H[q]? := fun q hq => by rw [← hH1, Array.getElem?_push, if_neg (Nat.ne_of_lt hq)]
    have hcA : cA = G.2.1 kd := by
      obtain ⟨_, _, -, -, -, g4⟩ := (hK.2 t0 _ ht).2
      exact Option.some.inj (f1.symm.trans g4)
    subst hcA
    have k2 := kk G p l e R s m args below meth c H1 locs ls Q hC hl (okS_c trivial (okS_t hs)) (rel_new hx hR hC.2.2.2.2.2.1.2.2.2.2.2.2.1 (fun q => by omega) (by omega) z1 o1 ?_) hv hf
    · rw [List.map_cons, h1, ref_new hR h3] at k2
      exact k2
    · rw [arr_q (kd := kd) (by rw [h5]) (by omega), h5]
      show H1[_]? = some (vp_cell _ _)
      rw [e1, vp_cell_q]
      refine congrArg (fun f => some (arrV _ _ f)) (funext fun j => ?_)
      rw [h6]
      rcases hkd with ⟨rfl, -⟩ | ⟨rfl, -⟩ <;> rfl
  have hS := hC.2.2.2.2.2.1
  rcases hkd with ⟨rfl, rfl⟩ | ⟨rfl, rfl⟩
  · exact go 3 hS.2.1 rfl
  · exact go 4 hS.2.2.1 rfl
theorem r_ways {i : Nat} (hd : decode Y.2.1 pc = .ok (.getstatic i, 3)) (hw : Jvm.Cond.fieldLink Y.1.cls i "TreeTongues" "WAYS" "[I" ∈ lw_good) (kk : Rn Y d mc ms ca sl res (pc + 3) lv ((2, 1000000) :: st) M) : Rn Y d mc ms ca sl res pc lv st M := by
  intro G p l e R s m args below meth c H locs ls Q hC hl hs hR hv hf
  exact va_gets hC.1 hC.2.1 hC.2.2.2.2.2.1.2.2.2.2.1 hR.2.2.2.1 hC.2.2.2.1 (hC.2.2.2.2.1 _ hw) (fun x hx => hx) hd (kk G p l e R s m args below meth c H locs ls Q hC hl (okS_c trivial hs) hR hv hf)
def wv (i : Int) : Option Int := if 0 ≤ i ∧ i < 4 then some (wayL.getD i.toNat 0) else none
theorem r_wald {i z : Int} (hd : decode Y.2.1 pc = .ok (.iaload, 1)) (hg : wv i = some z) (kk : Rn Y d mc ms ca sl res (pc + 1) lv ((0, z) :: st) M) : Rn Y d mc ms ca sl res pc lv ((0, i) :: (2, 1000000) :: st) M := by
  intro G p l e R s m args below meth c H locs ls Q hC hl hs hR hv hf
  unfold wv at hg
  split at hg
  case isFalse => cases hg
  case isTrue hi =>
  obtain ⟨j1, j2⟩ := ix_in (n := 4) hi.1 hi.2 (by decide)
  refine va_ti hC.1 hC.2.1 hC.2.2.2.2.2.1.2.2.2.2.2.1 hR.2.2.2.1 j1 (v := cv G (0, z)) ?_ hd (kk G p l e R s m args below meth c H locs ls Q hC hl (okS_c ?_ (okS_t (okS_t hs))) hR hv hf)
  · rw [j2, ← Option.some.inj hg]; rfl
  · have h : ∀ j, j < 4 → -2147483648 ≤ wayL.getD j 0 ∧ wayL.getD j 0 < 2147483648 := by decide
    rw [← Option.some.inj hg]
    exact h _ (by omega)
theorem r_wlen (hd : decode Y.2.1 pc = .ok (.arraylength, 1)) (kk : Rn Y d mc ms ca sl res (pc + 1) lv ((0, 4) :: st) M) : Rn Y d mc ms ca sl res pc lv ((2, 1000000) :: st) M := by
  intro G p l e R s m args below meth c H locs ls Q hC hl hs hR hv hf
  exact va_tlen hC.1 hC.2.1 hC.2.2.2.2.2.1.2.2.2.2.2.1 hR.2.2.2.1 (v := Int32.ofInt 4) rfl hd (kk G p l e R s m args below meth c H locs ls Q hC hl (okS_c ⟨by decide, by decide⟩ (okS_t hs)) hR hv hf)
theorem r_sld {i z : Int} (hd : decode Y.2.1 pc = .ok (.iaload, 1)) (hg : rd M 20 1000001 i = some z) (kk : Rn Y d mc ms ca sl res (pc + 1) lv ((0, z) :: st) M) : Rn Y d mc ms ca sl res pc lv ((0, i) :: (2, 1000001) :: st) M := by
  intro G p l e R s m args below meth c H locs ls Q hC hl hs hR hv hf
  obtain ⟨h1, h2, h3, h4⟩ := rd_s hg
  obtain ⟨q1, q2⟩ := hR.2.2.2.2
  rw [q1] at h3
  obtain ⟨_, _, _, _, _, _, hgs, hX, htS, hL⟩ := hC.2.2.2.2.2.1
  obtain ⟨j1, j2⟩ := ix_in (n := G.2.2.2.2.2.1) h2 h3 hL
  have e1 := q2 i.toNat (by omega)
  rw [show ((i.toNat : Nat) : Int) = i by omega, h4] at e1
  refine va_sld hC.1 hC.2.1 hX (Nat.lt_of_lt_of_le htS hgs) (Nat.not_le.mpr htS) hR.2.2.2.1 j1 hd ?_
  rw [j2, show G.2.2.2.2.2.2 i.toNat = Int32.ofInt z by rw [e1, Int32.ofInt_toInt]]
  exact kk G p l e R s m args below meth c H locs ls Q hC hl (okS_c (by rw [e1]; exact i32_ok _) (okS_t (okS_t hs))) hR hv hf
theorem r_slen {z : Int} (hd : decode Y.2.1 pc = .ok (.arraylength, 1)) (hg : z = ((M.2.1 1000001).2 : Int)) (kk : Rn Y d mc ms ca sl res (pc + 1) lv ((0, z) :: st) M) : Rn Y d mc ms ca sl res pc lv ((2, 1000001) :: st) M := by
  intro G p l e R s m args below meth c H locs ls Q hC hl hs hR hv hf
  obtain ⟨q1, q2⟩ := hR.2.2.2.2
  rw [q1] at hg
  obtain ⟨_, _, _, _, _, _, hgs, hX, htS, hL⟩ := hC.2.2.2.2.2.1
  refine va_slen hC.1 hC.2.1 hX (Nat.lt_of_lt_of_le htS hgs) (Nat.not_le.mpr htS) hR.2.2.2.1 hd ?_
  have k2 := kk G p l e R s m args below meth c H locs ls Q hC hl (okS_c (show r32 z from by rw [hg]; exact ⟨by omega, by omega⟩) (okS_t hs)) hR hv hf
  rw [List.map_cons, hg, show cv G (0, ((G.2.2.2.2.2.1 : Nat) : Int)) = .int (Int32.ofInt ((G.2.2.2.2.2.1 : Nat) : Int)) from rfl, Int32.ofInt_eq_ofNat] at k2
  exact k2
end ARULES
