/-! loading steps; adding a probe -/
def Ld (N M M1 : Mem) (p : Int) (φ : Int → Int) : Prop := Fr N M1 ∧ (∀ a, a ≠ p + 1 → a ≠ p + 2 → M1.1 a = M.1 a) ∧ M1.1 (p + 1) 0 = 0 ∧ M1.1 (p + 2) 0 = 0 ∧ ∀ w, vs N w → ior (M1.1 (p + 1) (iand w 63)) (M1.1 (p + 2) (iand (ishr w 6) 63)) = φ w
theorem imgB_fr {N M : Mem} (h : Fr N M) : imgB M = imgB N := by
  funext s f x set
  unfold imgB
  rw [h.c8, h.c9]
theorem load_ex {N M : Mem} {p s f set : Int} (E : Env N) (hF : Fr N M) (hW : SW M p) (p0 : 20 ≤ p) (p1 : p ≤ 47) (p3 : (p - 20) % 3 = 0) (hZ : Z0 M) (hs : 0 ≤ s ∧ s < 6) (φ : Int → Int) (hφ : ∀ fl fh, Fil fl (min (N.1 8 2).toNat 6) (fun x => imgB N s f x set) → Fil fh ((N.1 8 2).toNat - 6) (fun x => imgB N s f (x + 6) set) → ∀ w, vs N w → ior (fl (iand w 63)) (fh (iand (ishr w 6) 63)) = φ w) : ∃ M1, D_Step_load p 8 s f set M = some M1 ∧ Ld N M M1 p φ := by
  have z := hZ p p0 p1 p3
  refine load_ok hF.1.n_ hW (hF.nt E.1) p0 z.1 z.2 hs (fun o => ∃ M1, o = some M1 ∧ Ld N M M1 p φ) (fun fl fh F1 F2 => ⟨_, rfl, ?_⟩)
  rw [imgB_fr hF, hF.c8] at F1 F2
  have hF1 : Fr N (sc (sc M (p + 1) fl) (p + 2) fh) := (hF.sc (by omega) (by omega) (fun k => by unfold stp; omega)).sc (by omega) (by omega) (fun k => by unfold stp; omega)
  have e1 : (sc (sc M (p + 1) fl) (p + 2) fh).1 (p + 1) = fl := by rw [sc_n (by omega), sc_f, if_pos rfl]
  have e2 : (sc (sc M (p + 1) fl) (p + 2) fh).1 (p + 2) = fh := by rw [sc_f, if_pos rfl]
  refine ⟨hF1, fun a a0 a1 => by rw [sc_n a1, sc_n a0], ?_, ?_, fun w v => ?_⟩
  · rw [e1]; exact Fil_0 F1
  · rw [e2]; exact Fil_0 F2
  · rw [e1, e2]; exact hφ fl fh F1 F2 w v
theorem load_1 {N M : Mem} {p s y : Int} (E : Env N) (hF : Fr N M) (hW : SW M p) (p0 : 20 ≤ p) (p1 : p ≤ 47) (p3 : (p - 20) % 3 = 0) (hZ : Z0 M) (hs : 0 ≤ s ∧ s < 6) (hr : 2 ≤ rkC N s) (hy : vs N y) : ∃ M1, D_Step_load p 8 s 1 y M = some M1 ∧ Ld N M M1 p (fun w => dN N s w y) := load_ex E hF hW p0 p1 p3 hZ hs _ (fun _ _ F1 F2 _ v => ld_first E.1 hs hr hy F1 F2 v)
theorem load_2 {N M : Mem} {p s x : Int} (E : Env N) (hF : Fr N M) (hW : SW M p) (p0 : 20 ≤ p) (p1 : p ≤ 47) (p3 : (p - 20) % 3 = 0) (hZ : Z0 M) (hs : 0 ≤ s ∧ s < 6) (hr : 2 ≤ rkC N s) (hx : vs N x) : ∃ M1, D_Step_load p 8 s 0 x M = some M1 ∧ Ld N M M1 p (fun w => dN N s x w) := load_ex E hF hW p0 p1 p3 hZ hs _ (fun _ _ F1 F2 _ v => ld_second E.1 hs hr hx F1 F2 v)
theorem load_a {N M : Mem} {p s y : Int} (E : Env N) (hF : Fr N M) (hW : SW M p) (p0 : 20 ≤ p) (p1 : p ≤ 47) (p3 : (p - 20) % 3 = 0) (hZ : Z0 M) (hs : 0 ≤ s ∧ s < 6) (hr : rkC N s = 1) : ∃ M1, D_Step_load p 8 s 1 1 M = some M1 ∧ Ld N M M1 p (fun w => dN N s w y) := load_ex E hF hW p0 p1 p3 hZ hs _ (fun _ _ F1 F2 _ v => ld_alone E.1 hs hr F1 F2 v y)
theorem Ld.z {N M M1 : Mem} {p : Int} {φ : Int → Int} (h : Ld N M M1 p φ) (hZ : Z0 M) (p3 : (p - 20) % 3 = 0) : Z0 M1 := by
  intro q q0 q1 q2
  by_cases e : q = p
  · rw [e]; exact ⟨h.2.2.1, h.2.2.2.1⟩
  · rw [h.2.1 _ (by omega) (by omega), h.2.1 _ (by omega) (by omega)]
    exact hZ q q0 q1 q2
theorem SW_fr {N M M1 : Mem} {p : Int} (h : Fr N M) (h' : Fr N M1) (hW : SW M p) (e : M1.1 p = M.1 p) : SW M1 p := by
  unfold SW at hW ⊢
  rw [h'.2.1, ← h.2.1, e]
  exact hW
theorem Ld.fr {N M M1 : Mem} {p : Int} {φ : Int → Int} (h : Ld N M M1 p φ) (E : Env N) (hF : Fr N M) (hW : SW M p) {w : Int} (v : vs N w) : D_Step_from p w M1 = some (φ w, M1) := by
  rw [from_v (SW_fr hF h.1 hW (h.2.1 p (by omega) (by omega))) v.1 (val12 E.1 v.2), h.2.2.2.2 w v]
def FO (N : Mem) (m : Nat) (M : Mem) : Prop := RI1 N M ∧ M.1 10 11 = 0 ∧ M.1 10 14 = m + 2 ∧ m ≤ 6 ∧ Wd (mkB M) (M.1 10 6) (M.1 11) (m + 1)
theorem addProbe_ok {N M : Mem} {m : Nat} {Pd : Int → Int → Int → Prop} (E : Env N) (h : RR N m Pd M) {s x y z t : Int} (s0 : 0 ≤ s) (s1 : s < N.1 1 1) (r1 : 1 ≤ rkC N s) (hx : 0 ≤ x ∧ x < M.1 10 6) (hy : 0 ≤ y ∧ y < M.1 10 6) (hz : z = dN N s (M.1 11 x) (M.1 11 y)) (hT : M.1 16 t = mkB M (dN N s (M.1 15 (M.1 13 x)) (M.1 15 (M.1 13 y)))) (hne : mkB M z ≠ M.1 16 t) : OkM (D_Reducer_addProbe 10 s x y (mkB M z) (M.1 16 t) M) (fun M' => FO N m M') := by
  have h0 := h
  obtain ⟨hR, hKP, hTP, h11, h14, hm⟩ := h
  have hF := hR.1
  have hS := hF.1.d_
  have hPI := hR.2.2.1
  have k6 := hKP.1
  have n6 := E.2.1.2.1
  have hs : 0 ≤ s ∧ s < 6 := ⟨s0, by omega⟩
  have r384 := hR.2.2.2.1
  have mz := (mkB_b hPI z).1
  have mt : 0 ≤ M.1 16 t ∧ M.1 16 t < 2 ^ 8 := by rw [hT]; exact (mkB_b hPI _).1
  have bz' := (mkB_b hPI z).2
  have rS : ∀ i, 0 ≤ i → i < M.1 10 6 → RN N (M.1 11 i) := fun i a b => (hR.2.2.2.2.1 i a b).1
  have kx := hKP.2.2.2.2.1 x hx.1 hx.2
  have ky := hKP.2.2.2.2.1 y hy.1 hy.2
  have rl := (hKP.2.2.1 _ kx.2.1 kx.2.2.1).1
  have rl' := (hKP.2.2.1 _ ky.2.1 ky.2.2.1).1
  -- the bit
  have xr := ixor_r (k := 8) (by decide) mz.1 mz.2 mt.1 mt.2
  have xne : ixor (mkB M z) (M.1 16 t) ≠ 0 := by
    intro e
    refine hne (bt_ext (k := 8) mz.1 mz.2 mt.1 mt.2 (fun i i0 i1 => ?_))
    have q := bt_xor (i := i) mz.1 (by have := mz.2; omega) mt.1 (by have := mt.2; omega)
    rw [e] at q
    exact Classical.byContradiction fun w => bt_zero i (q.mpr w)
  obtain ⟨p, elo, p0, p8, hp⟩ := lowestBit_ok xr.1 xr.2 xne M
  have hp' := (bt_xor mz.1 (by have := mz.2; omega) mt.1 (by have := mt.2; omega)).mp hp
  have pp : p < M.1 10 14 := by
    rcases bt_dec (mkB M z) p with q | q
    · exact ((bz' p p0).mp q).1
    · rcases bt_dec (M.1 16 t) p with q' | q'
      · rw [hT] at q'
        exact (((mkB_b hPI _).2 p p0).mp q').1
      · exact absurd ⟨fun w => absurd w q, fun w => absurd w q'⟩ hp'
  have st := sp_st hS (q := M.1 10 14) (by omega) (by omega)
  have rko := rankOf_ok hF.1.s_ (by rw [hF.c1]; omega) s
  rw [hF.rk] at rko
  have rg := E.2.1.rk s
  -- the step
  have hld : ∃ M1, D_Step_load (26 + 3 * M.1 10 14) 8 s 1 (if rkC N s = 2 then M.1 11 y else 1) M = some M1 ∧ Ld N M M1 (26 + 3 * M.1 10 14) (fun w => dN N s w (M.1 11 y)) := by
    by_cases q : rkC N s = 2
    · rw [if_pos q]
      exact load_1 E hF st.2 (by omega) (by omega) (by omega) hR.2.1 hs (by omega) (E.ty (rS y hy.1 hy.2))
    · rw [if_neg q]
      exact load_a E hF st.2 (by omega) (by omega) (by omega) hR.2.1 hs (by omega)
  obtain ⟨M1, eld, L1⟩ := hld
  have hF1 := L1.1
  have efr := L1.fr E hF st.2 (E.ty rl)
  have rv : RN N (dN N s (M.1 15 (M.1 13 x)) (M.1 11 y)) := Rch.mk s0 s1 (fun _ => rl) (fun _ => rS y hy.1 hy.2)
  have pq : Pq M M1 := ⟨by rw [hF1.c8, hF.c8], by rw [L1.2.1 10 (by omega) (by omega)], fun q q0 q1 => ⟨by rw [L1.2.1 19 (by omega) (by omega)], L1.2.1 _ (by omega) (by omega), L1.2.1 _ (by omega) (by omega)⟩⟩
  have emk := marksOf_ok hF1 E.1 E.2.1 (pq.pi hPI) (E.ty rv)
  rw [pq.mk hPI] at emk
  have hS1 := hF1.1.d_
  have c10 : M1.1 10 = M.1 10 := L1.2.1 10 (by omega) (by omega)
  have mv := (mkB_b hPI (dN N s (M.1 15 (M.1 13 x)) (M.1 11 y))).1
  have ur := ixor_r (k := 8) (by decide) mv.1 mv.2 mz.1 mz.2
  have ub := bt_xor (i := p) mv.1 (by have := mv.2; omega) mz.1 (by have := mz.2; omega)
  have e1 : wr (M.1 10 14 + 1) = M.1 10 14 + 1 := wr_eq (by omega) (by omega)
  have g8 : ¬ 8 ≤ M.1 10 14 := by omega
  have pc0 : 0 ≤ M.1 10 14 := by omega
  have pc8 : M.1 10 14 < 8 := by omega
  have kx6 : M.1 13 x < 6 := by omega
  have x3 : x < 384 := by omega
  have y3 : y < 384 := by omega
  have sw1 := SW_fr hF hF1 st.2 (L1.2.1 _ (by omega) (by omega))
  have eif : (if rkC N s = 2 then (some (M.1 11 y)) else some 1) = some (if rkC N s = 2 then M.1 11 y else 1) := is2
  have f6 : ∀ Mx : Mem, (∀ a, a ≠ 26 + 3 * M.1 10 14 + 1 → a ≠ 26 + 3 * M.1 10 14 + 2 → Mx.1 a = M.1 a) → (up (up Mx 19 (M.1 10 14) p) 10 14 (M.1 10 14 + 1)).1 10 6 = M.1 10 6 ∧ (up (up Mx 19 (M.1 10 14) p) 10 14 (M.1 10 14 + 1)).1 10 11 = 0 ∧ (up (up Mx 19 (M.1 10 14) p) 10 14 (M.1 10 14 + 1)).1 10 14 = m + 2 ∧ (up (up Mx 19 (M.1 10 14) p) 10 14 (M.1 10 14 + 1)).1 11 = M.1 11 := by
    intro Mx hMx
    refine ⟨?_, ?_, ?_, ?_⟩
    · rw [up_1, if_neg (by omega), up_1, if_neg (by omega), hMx 10 (by omega) (by omega)]
    · rw [up_1, if_neg (by omega), up_1, if_neg (by omega), hMx 10 (by omega) (by omega)]; exact h11
    · rw [up_1, if_pos ⟨rfl, rfl⟩]; omega
    · rw [up_n (by decide), up_n (by decide), hMx 11 (by omega) (by omega)]
  have hm' : m + 1 ≤ (M.1 10 10).toNat + 1 := by omega
  unfold D_Reducer_addProbe
  by_cases hb : iand (ishr (ixor (mkB M (dN N s (M.1 15 (M.1 13 x)) (M.1 11 y))) (mkB M z)) p) 1 = 0
  · -- the second part makes the difference
    have nb : bt (mkB M (dN N s (M.1 15 (M.1 13 x)) (M.1 11 y))) p ↔ bt (mkB M z) p := Classical.byContradiction fun w => (bt_0 ur.1 (by have := ur.2; omega) p0 (by omega)).mp hb (ub.mpr w)
    have r2 : 2 ≤ rkC N s := by
      refine Classical.byContradiction fun w => hp' ?_
      have e : dN N s (M.1 15 (M.1 13 x)) (M.1 15 (M.1 13 y)) = dN N s (M.1 15 (M.1 13 x)) (M.1 11 y) := dg N _ _ _ _ _ (fun _ => rfl) (fun q => absurd q w)
      rw [hT, e]
      exact nb.symm
    obtain ⟨M2, eld2, L2⟩ := load_2 E hF1 sw1 (by omega) (by omega) (by omega) (L1.z hR.2.1 (by omega)) hs r2 (E.ty rl)
    have hF2 := L2.1
    have hS2 := hF2.1.d_
    have a2 : ∀ a, a ≠ 26 + 3 * M.1 10 14 + 1 → a ≠ 26 + 3 * M.1 10 14 + 2 → M2.1 a = M.1 a := fun a u v => (L2.2.1 a u v).trans (L1.2.1 a u v)
    have c10' : M2.1 10 = M.1 10 := a2 10 (by omega) (by omega)
    have w := newprobe E hR hF2 rfl (by omega) p0 pp a2 L2.2.2.1 L2.2.2.2.1 L2.2.2.2.2 ⟨s, _, s0, s1, Or.inr ⟨r2, rl, fun z _ => rfl⟩⟩
    have f := f6 M2 a2
    refine ⟨up (up M2 19 (M.1 10 14) p) 10 14 (M.1 10 14 + 1), ?_, w.1, f.2.1, f.2.2.1, by omega, ?_⟩
    · simp [-Option.bind_some, -Option.bind_none, gf, pf, rd, wt, ck, ln, lt, bz, nq, up_1, up_2, obs, obn, hS, g8, hne, elo, hx, x3, kx, kx6, pc0, pc8, st, rko, hF.1.s_, hy, y3, eif, eld, sw1, efr, emk, hS1, c10, hb, eld2, hS2, c10', e1]
    · rw [f.1, f.2.2.2]
      refine (hKP.split w.2.1 hy.1 hy.2 (fun e => ?_)).cut hm'
      have u1 := w.2.2 _ (E.ty (rS y hy.1 hy.2))
      have u2 := w.2.2 _ (E.ty rl')
      rw [e, u2] at u1
      refine hp' ?_
      rw [hT, u1, nb]
  · -- the first part makes the difference
    have nb : ¬ (bt (mkB M (dN N s (M.1 15 (M.1 13 x)) (M.1 11 y))) p ↔ bt (mkB M z) p) := ub.mp (Classical.byContradiction fun w => hb ((bt_0 ur.1 (by have := ur.2; omega) p0 (by omega)).mpr w))
    have w := newprobe E hR hF1 rfl (by omega) p0 pp L1.2.1 L1.2.2.1 L1.2.2.2.1 L1.2.2.2.2 ⟨s, _, s0, s1, Or.inl ⟨r1, fun _ => rS y hy.1 hy.2, fun z _ => rfl⟩⟩
    have f := f6 M1 L1.2.1
    refine ⟨up (up M1 19 (M.1 10 14) p) 10 14 (M.1 10 14 + 1), ?_, w.1, f.2.1, f.2.2.1, by omega, ?_⟩
    · simp [-Option.bind_some, -Option.bind_none, gf, pf, rd, wt, ck, ln, lt, bz, nq, up_1, up_2, obs, obn, hS, g8, hne, elo, hx, x3, kx, kx6, pc0, pc8, st, rko, hF.1.s_, hy, y3, eif, eld, sw1, efr, emk, hS1, c10, hb, e1]
    · rw [f.1, f.2.2.2]
      refine (hKP.split w.2.1 hx.1 hx.2 (fun e => ?_)).cut hm'
      have u1 := w.2.2 _ (E.ty (rS x hx.1 hx.2))
      have u2 := w.2.2 _ (E.ty rl)
      rw [e, u2, ← hz] at u1
      exact nb u1
