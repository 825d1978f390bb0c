/-! small things for the printed walks -/
def lt {α β : Type} (x : α) (f : α → β) : β := f x
def bz (z : Int) : Option Unit := if z = 0 ∨ z = 1 then some () else none
def nq (z : Int) : Option Unit := if z = 0 then none else some ()
/-! the fuels: numbers that nothing reckons with -/
noncomputable def FU : Nat := Classical.choose (⟨100000, rfl⟩ : ∃ n : Nat, n = 100000)
theorem FU_eq : FU = 100000 := Classical.choose_spec (⟨100000, rfl⟩ : ∃ n : Nat, n = 100000)
noncomputable def LF : Nat := Classical.choose (⟨520, rfl⟩ : ∃ n : Nat, n = 520)
theorem LF_eq : LF = 520 := Classical.choose_spec (⟨520, rfl⟩ : ∃ n : Nat, n = 520)
noncomputable def WF : Nat := Classical.choose (⟨50, rfl⟩ : ∃ n : Nat, n = 50)
theorem WF_eq : WF = 50 := Classical.choose_spec (⟨50, rfl⟩ : ∃ n : Nat, n = 50)
noncomputable def TF : Nat := Classical.choose (⟨10, rfl⟩ : ∃ n : Nat, n = 10)
theorem TF_eq : TF = 10 := Classical.choose_spec (⟨10, rfl⟩ : ∃ n : Nat, n = 10)
theorem bnd {α β : Type} {o : Option α} {f : α → Option β} {r : β} (h : o.bind f = some r) : ∃ x, o = some x ∧ f x = some r := Option.bind_eq_some_iff.mp h
theorem ite_t {α : Type} {c : Prop} [Decidable c] {a b r : α} (hc : c) (h : (if c then a else b) = r) : a = r := by rwa [if_pos hc] at h
theorem ite_f {α : Type} {c : Prop} [Decidable c] {a b r : α} (hc : ¬ c) (h : (if c then a else b) = r) : b = r := by rwa [if_neg hc] at h
theorem lt_o {α β : Type} {x : α} {f : α → β} {r : β} (h : lt x f = r) : ∃ v, v = x ∧ f v = r := ⟨x, rfl, h⟩
theorem bz_s {z : Int} {u : Unit} (h : bz z = some u) : z = 0 ∨ z = 1 := by
  unfold bz at h
  split at h
  · assumption
  · cases h
theorem nq_s {z : Int} {u : Unit} (h : nq z = some u) : z ≠ 0 := by
  unfold nq at h
  split at h
  · cases h
  · assumption
section MORE
variable {Y : YY} {d mc ms ca sl : Nat} {res : Option V × Mem} {pc : Nat} {lv : List (Nat × V)} {st : List V} {M : Mem}
theorem r_eq {t : Nat} {v x : Int} (hv : v = x) (k : Rn Y d mc ms ca sl res pc lv ((t, v) :: st) M) : Rn Y d mc ms ca sl res pc lv ((t, x) :: st) M := hv ▸ k
theorem r_wd {ca' sl' : Nat} (h1 : ca ≤ ca') (h2 : sl ≤ sl') (k : Rn Y d mc ms ca' sl' res pc lv st M) : Rn Y d mc ms ca sl res pc lv st M := fun G p l e R s m args below meth c H locs ls Q hC hl hs hR hv hf => W.widen h1 h2 (k G p l e R s m args below meth c H locs ls Q hC hl hs hR hv hf)
theorem r_lv (ks : List Nat) {lv' : List (Nat × V)} (he : ks.filterMap (fun k => lv[k]?) = lv') (k : Rn Y d mc ms ca sl res pc lv' st M) : Rn Y d mc ms ca sl res pc lv st M := by
  intro G p l e R s m args below meth c H locs ls Q hC hl hs hR hv hf
  have hm : ∀ q ∈ lv', q ∈ lv := fun q hq => by
    rw [← he] at hq
    obtain ⟨i, -, hi⟩ := List.mem_filterMap.mp hq
    exact List.mem_of_getElem? hi
  refine k G p l e R s m args below meth c H locs ls Q hC (fun q hq => hl q (hm q hq)) hs hR ⟨hv.1, hv.2.1, fun q hq => ?_⟩ hf
  obtain ⟨w, hw, rfl⟩ := List.mem_map.mp hq
  exact hv.2.2 _ (List.mem_map.mpr ⟨w, hm w hw, rfl⟩)
theorem r_mmax {i : Nat} {x y : Int} (hd : decode Y.2.1 pc = .ok (.invokestatic i, 3)) (hw : Jvm.Cond.methodLink Y.1.cls i Lib.Math.max.name ∈ lw_good) (hws : Jvm.Cond.static Lib.Math.max.name ∈ lw_good ∧ Jvm.Cond.initialized "java/lang/Math" ∈ lw_good ∧ Jvm.Cond.code Lib.Math.max.name Lib.Math.max.code 2 (some .int) ∈ lw_good) (h1 : 1 ≤ d) (hca : ca ≤ mc) (hsl : sl ≤ ms) (hst : (st.map fun v => if v.1 == 1 then 2 else 1).sum ≤ 8) (k : Rn Y d mc ms ca sl res (pc + 3) lv ((0, if x < y then y else x) :: st) M) : Rn Y d mc ms ca sl res pc lv ((0, y) :: (0, x) :: st) M := by
  intro G p l e R s m args below meth c H locs ls Q hC hl hs hR hv hf
  have hts := hC.2.2.2.2.1
  have hRm := hC.2.2.2.2.2.2.2
  have hy : r32 y := okS_h hs
  have hx : r32 x := okS_h (okS_t hs)
  refine va_mmax hC.1 hC.2.1 (hC.2.2.1.trans hv.1.symm) hC.2.2.2.1 (hts _ hw) (hts _ hws.1) (hts _ hws.2.1) (hts _ hws.2.2) (by omega) (by rw [cat_sum]; omega) (by omega) (by omega) hd ?_
  have k2 := k G p l e R s m args below meth c H locs ls Q hC hl (okS_c (show r32 _ by split <;> assumption) (okS_t (okS_t hs))) hR hv hf
  by_cases hxy : x < y
  · rw [if_pos ((lt32 hx hy).mpr hxy)]; rw [if_pos hxy] at k2; exact k2
  · rw [if_neg (fun h => hxy ((lt32 hx hy).mp h))]; rw [if_neg hxy] at k2; exact k2
theorem r_mmin {i : Nat} {x y : Int} (hd : decode Y.2.1 pc = .ok (.invokestatic i, 3)) (hw : Jvm.Cond.methodLink Y.1.cls i Lib.MathLoose.min_long.x ∈ lw_good) (hws : Jvm.Cond.static Lib.MathLoose.min_long.x ∈ lw_good ∧ Jvm.Cond.initialized "java/lang/Math" ∈ lw_good ∧ Jvm.Cond.code Lib.MathLoose.min_long.x Lib.MathLoose.min_long.code 4 (some .long) ∈ lw_good) (h1 : 1 ≤ d) (hca : ca ≤ mc) (hsl : sl ≤ ms) (hst : (st.map fun v => if v.1 == 1 then 2 else 1).sum ≤ 8) (k : Rn Y d mc ms ca sl res (pc + 3) lv ((1, if y < x then y else x) :: st) M) : Rn Y d mc ms ca sl res pc lv ((1, y) :: (1, x) :: st) M := by
  intro G p l e R s m args below meth c H locs ls Q hC hl hs hR hv hf
  have hts := hC.2.2.2.2.1
  have hRm := hC.2.2.2.2.2.2.2
  have hy : r64 y := okS_h hs
  have hx : r64 x := okS_h (okS_t hs)
  refine va_mmin_long hC.1 hC.2.1 (hC.2.2.1.trans hv.1.symm) hC.2.2.2.1 (hts _ hw) (hts _ hws.1) (hts _ hws.2.1) (hts _ hws.2.2) (by omega) (by rw [cat_sum]; omega) (by omega) (by omega) hd ?_
  have k2 := k G p l e R s m args below meth c H locs ls Q hC hl (okS_c (show r64 _ by split <;> assumption) (okS_t (okS_t hs))) hR hv hf
  by_cases hxy : y < x
  · rw [if_pos ((lt64 hy hx).mpr hxy)]; rw [if_pos hxy] at k2; exact k2
  · rw [if_neg (fun h => hxy ((lt64 hy hx).mp h))]; rw [if_neg hxy] at k2; exact k2
end MORE
