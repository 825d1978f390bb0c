/-! the memory's operations, and the rows of the instructions that read, write and make cells -/
def gf (M : Mem) (a : Int) (ci n k : Nat) : Option Int := if M.2.1 a = (ci, n) then some (M.1 a k) else none
def pf (M : Mem) (a : Int) (ci n k : Nat) (v : Int) : Option Mem := if M.2.1 a = (ci, n) then some (up M a k v) else none
def rd (M : Mem) (kd : Nat) (a i : Int) : Option Int := if (M.2.1 a).1 = kd ∧ 0 ≤ i ∧ i < (M.2.1 a).2 then some (M.1 a i) else none
def wt (M : Mem) (kd : Nat) (a i v : Int) : Option Mem := if (M.2.1 a).1 = kd ∧ 0 ≤ i ∧ i < (M.2.1 a).2 then some (up M a i v) else none
def ln (M : Mem) (a : Int) : Option Int := if 10 ≤ (M.2.1 a).1 ∧ (M.2.1 a).1 < 15 then some ((M.2.1 a).2 : Int) else none
def ck (M : Mem) (a : Int) (ci n : Nat) : Option Unit := if M.2.1 a = (ci, n) then some () else none
def nz (kd : Nat) (i : Int) : Int := if ko kd i.toNat = 2 then -1 else 0
def nw (M : Mem) (kd n : Nat) : Option (Int × Mem) := if M.2.2 < 900000 then some ((M.2.2 : Int), (fun a i => if a = (M.2.2 : Int) then nz kd i else M.1 a i, fun a => if a = (M.2.2 : Int) then (kd, n) else M.2.1 a, M.2.2 + 1)) else none
def na (M : Mem) (kd : Nat) (len : Int) : Option (Int × Mem) := if 0 ≤ len ∧ len ≤ 10000000 then nw M kd len.toNat else none
theorem ok_tg {c : Nat} {z : Int} (h : okc c z) : okV (tg c, z) := by
  match c, h with
  | 0, h => exact h
  | 1, h => exact h
  | 2, h => trivial
  | 3, h => rcases (h : z = 0 ∨ z = 1) with rfl | rfl <;> exact ⟨by decide, by decide⟩
  | n + 4, h => rw [show tg (n + 4) = n + 4 from rfl]; trivial
theorem okM_up {M : Mem} (h : okM M) {a k v : Int} (hv : 0 ≤ k → okc (ko (M.2.1 a).1 k.toNat) v) : okM (up M a k v) := by
  refine ⟨h.1, h.2.1, fun b hb => ⟨(h.2.2 b hb).1, (h.2.2 b hb).2.1, fun i hi => ?_⟩⟩
  show okc _ (if b = a ∧ (i : Int) = k then v else M.1 b i)
  by_cases hq : b = a ∧ (i : Int) = k
  · rw [if_pos hq]
    obtain ⟨rfl, rfl⟩ := hq
    have := hv (by omega)
    rw [Int.toNat_natCast] at this
    exact this
  · rw [if_neg hq]
    exact (h.2.2 b hb).2.2 i hi
theorem rf_lo {G : GG} {M : Mem} (h : okM M) {a : Int} (ha : (M.2.1 a).1 < 15) : rfO G a = some (gB G + a.toNat) ∧ 0 ≤ a ∧ a.toNat < M.2.2 ∧ ((a.toNat : Nat) : Int) = a := by
  have h1 := h.2.1 a ha
  have h2 := h.1
  refine ⟨?_, h1.1, by omega, by omega⟩
  unfold rfO
  rw [if_neg (by omega), if_pos (by omega)]
def fsG (G : GG) (M : Mem) (a : Int) (ci n : Nat) : List Value := (List.range n).map fun j => cv G (tg (ft ci j), M.1 a j)
theorem obj_at {G : GG} {M : Mem} (h : okM M) {a : Int} {ci n : Nat} (ha : M.2.1 a = (ci, n)) (hc : ci < 10) : (wsG G M)[a.toNat]? = some (gB G + a.toNat, .inr (ci, fsG G M a ci n)) ∧ rfO G a = some (gB G + a.toNat) ∧ n = nfT.getD ci 0 := by
  obtain ⟨h1, h2, h3, h4⟩ := rf_lo (G := G) h (a := a) (by rw [ha]; show ci < 15; omega)
  refine ⟨?_, h1, ?_⟩
  · rw [ws_get G h3, h4]
    simp [cellE, ha, hc, fsG]
  · have := (h.2.2 a (by rw [ha]; show ci < 15; omega)).1 (by rw [ha]; exact hc)
    rw [ha] at this
    exact this
theorem arr_at {G : GG} {M : Mem} (h : okM M) {a : Int} {kd : Nat} (ha : (M.2.1 a).1 = kd) (hc : kd < 15) : (wsG G M)[a.toNat]? = some (gB G + a.toNat, cellE G M a) ∧ rfO G a = some (gB G + a.toNat) ∧ (M.2.1 a).2 < 2147483648 ∧ 0 ≤ a := by
  obtain ⟨h1, h2, h3, h4⟩ := rf_lo (G := G) h (a := a) (by rw [ha]; exact hc)
  exact ⟨by rw [ws_get G h3, h4], h1, (h.2.2 a (by rw [ha]; exact hc)).2.1, h2⟩
theorem fs_up (G : GG) (M : Mem) {a : Int} {ci n k : Nat} (v : Int) (hc : ci < 10) (ha : M.2.1 a = (ci, n)) : cellE G (up M a k v) a = .inr (ci, (fsG G M a ci n).set k (cv G (tg (ft ci k), v))) := by
  have e : (up M a k v).2.1 a = (ci, n) := ha
  simp only [cellE, e, hc, if_true]
  congr 2
  apply List.ext_getElem?
  intro j
  rw [List.getElem?_set]
  by_cases hj : j < n
  · by_cases hk : k = j
    · subst hk
      simp [fsG, hj, up]
    · have : ¬ (j : Int) = (k : Int) := by omega
      simp [fsG, hj, up, hk, this]
  · by_cases hk : k = j
    · subst hk
      simp [fsG, hj]
    · simp [fsG, hj, hk]
section HEAP
variable {p : Program} {l : Launch} {e : Env} {R : Room} {s : State} {m : MethodId} {args : Array Value} {below : List Frame} {meth : Method} {c : Code} {H : Heap} {locs : List Loc} {cells slots : Nat} {Q : State → Prop} {cc : ByteArray} {pc : Nat} {ls : Array Slot} {rest : List Value} {D : va_G} {cl : List vw_C} {tys : List (ClassId × FieldType)} {ws : va_W} {A : Nat → Prop} {H0 : Heap} {a : Nat}
/-- a field is written: as the kit's row, and the heap's size is kept -/
theorem x_put (hexec : p.tables.exec = Jvm.exec) (hb : c.code = cc) {own C : String} {T : u_T} {N ci index : Nat} {Ts : List Cond} (hts : ∀ w ∈ Ts, w.before args s = true) (hin : ∀ w ∈ u_ws C T N, w ∈ Ts) (ty0 : Nat → FieldType) (hty : ∀ k, k < N → parseFieldDescriptor (T k).2.2.1 = some (ty0 k)) (hnm : ∀ a, a < N → ∀ b, b < N → a ≠ b → (T a).2.1 ≠ (T b).2.1) (hown : s.vm.findClass own = some m.cls) (hK : va_K D cl tys s) (hP : va_P D cl ws H) (hD : va_D A ws) (hS0 : va_S A H0 H locs) (q0 : Nat) {fs : List Value} (he : ws[q0]? = some (a, .inr (ci, fs))) (hc : cl[ci]? = some (C, T, N)) (k : Nat) (hk : k < N) (hlink : (Jvm.Cond.fieldLink own index (T k).1 (T k).2.1 (T k).2.2.1).before args s = true) (hfin : (T k).2.2.2 = false ∨ ((T k).1 = own ∧ meth.name = "<init>")) {ty : FieldType} {v : Value} (hd : parseFieldDescriptor (T k).2.2.1 = some ty) (hn : narrow ty v = v) (hfit : fits ty v = true) (hl : k < fs.length)
    (hdg : decode cc pc = .ok (.putfield index, 3)) (kk : ∀ (H1 : Heap) (locs1 : List Loc), H1.size = H.size → va_P D cl (ws.set q0 (a, .inr (ci, fs.set k v))) H1 → va_S A H0 H1 locs1 → W p l e R s m args below meth c H1 locs1 cells slots Q (F0 m (pc + 3) ls rest)) : W p l e R s m args below meth c H locs cells slots Q (F0 m pc ls (v :: .ref a :: rest)) := by
  have hap := va_apart (own := own) hts hin ty0 hty hnm hK hc
  obtain ⟨r, h1, cell, q1, q2, q3, q4⟩ := hP q0 _ he
  have hr : r = (C, T, N) := Option.some.inj (h1.symm.trans hc)
  subst hr
  obtain ⟨hS, hfc, kC, hkC, hkind⟩ := hK.1 ci _ hc
  obtain ⟨cf, kf, fi, f, hi, hsl⟩ := hS k hk
  have hlay := hts _ (hin _ (u_in_lay hk))
  have hst := (u_facts hfc hkC (u_lays hts hin hk) hi).1
  have fin : ∀ (H' : Heap), H'[a]? = some (cell.setSlot f.slot v) → H'.size = H.size → (∀ q : Nat, q ≠ a → H'[q]? = H[q]?) → W p l e R s m args below meth c H' (locs ++ [⟨a, f.slot⟩]) cells slots Q (F0 m (pc + 3) ls rest) := by
    intro H' e1 e2 e3
    rw [hsl] at e1 ⊢
    exact kk H' _ e2 (hP.set hD he ⟨_, hc, t_OB.to (V := updV (vp_V fs) k v) ⟨_, e1, q2, q3, t_set q4 hap hk v⟩ (fun j _ => vp_updV_set hl v j)⟩ e3) (hS0.put e2 e3 (hD.2 q0 _ he))
  unfold u_lay at hlay
  cases hfi : (T k).2.2.2 with
  | false =>
    rw [if_neg (by rw [hfi]; decide)] at hlay
    have h6 := u_store hfc hkC hkind hlay hi hd hn hfit
    exact W.putK hexec hb (f := f) ⟨hown, hlink, ⟨_, _, _, hi⟩, hst⟩ (by rw [q2]; exact h6) q1 q3 (by rw [hsl]; exact k2_hasslot (q4 k hk)) rfl rfl hdg fin
  | true =>
    rw [if_pos hfi] at hlay
    obtain ⟨hdecl, hin2⟩ : (T k).1 = own ∧ meth.name = "<init>" := by
      rcases hfin with h | h
      · rw [hfi] at h; cases h
      · exact h
    have hcf : m.cls = cf := by
      obtain ⟨_, _, c', _, _, _, -, -, hf', -, -, -, hown2, -⟩ := Cond.laysFinal_spec hlay
      have e1 : c' = cf := by have := hi.symm.trans hf'; simp at this; exact this.1.symm
      rw [hdecl] at hown2
      rw [← e1]; exact Option.some.inj (hown.symm.trans hown2)
    have h6 := u_fits hfc hkC hkind (Or.inr hlay) hi hd hn hfit
    exact W.putFinK hexec hb hown hlink hi hst hcf hin2 (by rw [q2]; exact h6) q1 q3 (by rw [hsl]; exact k2_hasslot (q4 k hk)) rfl rfl hdg fin
end HEAP
section HRULES
variable {Y : YY} {d mc ms ca sl : Nat} {res : Option V × Mem} {pc : Nat} {lv : List (Nat × V)} {st : List V} {M : Mem}
theorem FL.r {own : String} {idx ci k : Nat} (h : FL own idx ci k) : FLr own idx ci k := by
  obtain ⟨r, ty, h1, h2, h3, h4, -, h5⟩ := h
  exact ⟨r, ty, h1, h2, h3, h4, h5⟩
theorem r_get {i ci n k t : Nat} {a z : Int} (hd : decode Y.2.1 pc = .ok (.getfield i, 3)) (hL : FLr Y.1.cls i ci k) (hci : ci < 10) (ht : tg (ft ci k) = t) (hg : gf M a ci n k = some z) (kk : Rn Y d mc ms ca sl res (pc + 3) lv ((t, z) :: st) M) : Rn Y d mc ms ca sl res pc lv ((2, a) :: st) M := by
  intro G p l e R s m args below meth c H locs ls Q hC hl hs hR hv hf
  obtain ⟨r, ty, ⟨hcl, hin, hty, hnm, -, -, hN, hdc⟩, hk, hw, -, -⟩ := hL
  unfold gf at hg
  split at hg
  case isFalse => cases hg
  case isTrue ha =>
  cases hg
  obtain ⟨h1, h2, h3⟩ := obj_at (G := G) hR.1 ha hci
  obtain ⟨C, T, N⟩ := r
  dsimp only at hcl hin hty hnm hN hdc hk hw
  have hts := hC.2.2.2.2.1
  subst ht
  rw [List.map_cons, show cv G (2, a) = va_rf (rfO G a) from rfl, h2]
  have hkn : k < n := by omega
  refine va_get hC.1 hC.2.1 hts hin hC.2.2.2.1 hC.2.2.2.2.2.1.1 hR.2.2.1 a.toNat h1 hcl k hk (hts _ hw) (fun x hx => hx) (v := cv G (tg (ft ci k), M.1 a k)) (by simp [fsG, hkn]) hd ?_
  refine kk G p l e R s m args below meth c H locs ls Q hC hl (okS_c (ok_tg ?_) (okS_t hs)) hR hv hf
  have h5 := (hR.1.2.2 a (by rw [ha]; show ci < 15; omega)).2.2 k (by rw [ha]; exact hkn)
  rw [ha] at h5
  simpa [ko, hci] using h5
theorem r_put {i ci n k t : Nat} {a z : Int} {M' : Mem} (hd : decode Y.2.1 pc = .ok (.putfield i, 3)) (hL : FL Y.1.cls i ci k) (hci : ci < 10) (hfi : Y.1.name = "<init>" ∨ ∀ r ty, CK ci r ty → (r.2.1 k).2.2.2 = false) (ht : tg (ft ci k) = t) (hz : ft ci k = 3 → z = 0 ∨ z = 1) (hg : pf M a ci n k z = some M') (kk : Rn Y d mc ms ca sl res (pc + 3) lv st M') : Rn Y d mc ms ca sl res pc lv ((t, z) :: (2, a) :: st) M := by
  intro G p l e R s m args below meth c H locs ls Q hC hl hs hR hv hf
  obtain ⟨r, ty, hCK, hk, hw, hft, hfin, hty5⟩ := hL
  have hCK' := hCK
  obtain ⟨hcl, hin, hty, hnm, -, -, hN, hdc⟩ := hCK
  unfold pf at hg
  split at hg
  case isFalse => cases hg
  case isTrue ha =>
  cases hg
  obtain ⟨h1, h2, h3⟩ := obj_at (G := G) hR.1 ha hci
  obtain ⟨C, T, N⟩ := r
  dsimp only at hcl hin hty hnm hN hdc hk hw hfin
  have hts := hC.2.2.2.2.1
  subst ht
  have hkn : k < n := by omega
  have hva : okV (tg (ft ci k), z) := okS_h hs
  rw [List.map_cons, List.map_cons, show cv G (2, a) = va_rf (rfO G a) from rfl, h2]
  have hnf : narrow (ty k) (cv G (tg (ft ci k), z)) = cv G (tg (ft ci k), z) ∧ fits (ty k) (cv G (tg (ft ci k), z)) = true := by
    rcases hty5 _ rfl with h | h | h | ⟨n, h⟩ | ⟨q, h⟩
    · rw [h] at hft ⊢; rw [hft]; exact ⟨rfl, rfl⟩
    · rw [h] at hft ⊢; rw [hft]; exact ⟨rfl, rfl⟩
    · rw [h] at hft ⊢
      rcases hz hft with rfl | rfl
      · rw [hft]
        show narrow .boolean (.int (Int32.ofInt 0)) = .int (Int32.ofInt 0) ∧ fits .boolean (.int (Int32.ofInt 0)) = true
        exact ⟨by decide, by decide⟩
      · rw [hft]
        show narrow .boolean (.int (Int32.ofInt 1)) = .int (Int32.ofInt 1) ∧ fits .boolean (.int (Int32.ofInt 1)) = true
        exact ⟨by decide, by decide⟩
    · rw [h] at hft ⊢; rw [hft]
      show narrow (.object n) (va_rf (rfO G z)) = va_rf (rfO G z) ∧ fits (.object n) (va_rf (rfO G z)) = true
      cases rfO G z <;> exact ⟨rfl, rfl⟩
    · rw [h] at hft ⊢; rw [hft]
      show narrow (.array q) (va_rf (rfO G z)) = va_rf (rfO G z) ∧ fits (.array q) (va_rf (rfO G z)) = true
      cases rfO G z <;> exact ⟨rfl, rfl⟩
  refine x_put hC.1 hC.2.1 hts hin ty hty hnm hC.2.2.2.1 hC.2.2.2.2.2.1.1 hR.2.2.1 (ws_D G M) hR.2.2.2.1 a.toNat h1 hcl k hk (hts _ hw) ?_ (hty k hk) hnf.1 hnf.2 (by simp [fsG]; exact hkn) hd (fun H1 locs1 hsz hP1 hS1 => ?_)
  · rcases hfin with h | h
    · exact Or.inl h
    · rcases hfi with q | q
      · exact Or.inr ⟨h, hC.2.2.2.2.2.2.1 q⟩
      · exact Or.inl (q _ _ hCK')
  · refine kk G p l e R s m args below meth c H1 locs1 ls Q hC hl (okS_t (okS_t hs)) ⟨okM_up hR.1 ?_, hsz.trans hR.2.1, ?_, hS1, scr_up hR.2.2.2.2 (by rw [ha]; show ci < 15; omega)⟩ hv hf
    · intro _
      rw [ha]
      show okc (ko ci ((k : Int).toNat)) z
      rw [Int.toNat_natCast]
      simp only [ko, hci, if_true]
      rcases hty5 _ rfl with h | h | h | ⟨n, h⟩ | ⟨q, h⟩
      · rw [h] at hft; rw [hft] at hva ⊢; exact hva
      · rw [h] at hft; rw [hft] at hva ⊢; exact hva
      · rw [h] at hft; have := hz hft; rw [hft]; exact this
      · rw [h] at hft; rw [hft]; trivial
      · rw [h] at hft; rw [hft]; trivial
    · rw [ws_set G M k z (hR.1.2.1 a (by rw [ha]; show ci < 15; omega)).1 (fs_up G M z hci ha)]
      exact hP1
end HRULES
