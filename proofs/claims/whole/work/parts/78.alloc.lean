/-! new cells -/
def al (M : Mem) (kd n : Nat) : Mem := (fun a i => if a = (M.2.2 : Int) then nz kd i else M.1 a i, fun a => if a = (M.2.2 : Int) then (kd, n) else M.2.1 a, M.2.2 + 1)
theorem al_1 (M : Mem) (kd n : Nat) (a i : Int) : (al M kd n).1 a i = if a = (M.2.2 : Int) then nz kd i else M.1 a i := Eq.trans rfl rfl
theorem al_s (M : Mem) (kd n : Nat) (a : Int) : (al M kd n).2.1 a = if a = (M.2.2 : Int) then (kd, n) else M.2.1 a := Eq.trans rfl rfl
theorem al_n (M : Mem) (kd n : Nat) : (al M kd n).2.2 = M.2.2 + 1 := Eq.trans rfl rfl
theorem nw_al {M : Mem} (h : M.2.2 < 900000) (kd n : Nat) : nw M kd n = some ((M.2.2 : Int), al M kd n) := by
  unfold nw al
  rw [if_pos h]
/-- a new array as a field of object a0 -/
def nf (M : Mem) (a0 : Int) (kd n : Nat) (f : Int) : Mem := up (al M kd n) a0 f (M.2.2 : Int)
theorem nf_s {M : Mem} {a0 : Int} {kd n : Nat} {f : Int} (a : Int) : (nf M a0 kd n f).2.1 a = if a = (M.2.2 : Int) then (kd, n) else M.2.1 a := by
  unfold nf
  rw [up_2, al_s]
theorem nf_n {M : Mem} {a0 : Int} {kd n : Nat} {f : Int} : (nf M a0 kd n f).2.2 = M.2.2 + 1 := by
  unfold nf
  rw [up_2, al_n]
theorem nf_1 {M : Mem} {a0 : Int} {kd n : Nat} {f : Int} (h : a0 ≠ (M.2.2 : Int)) (k : Int) : (nf M a0 kd n f).1 a0 k = if k = f then (M.2.2 : Int) else M.1 a0 k := by
  unfold nf
  rw [up_1, al_1, if_neg h]
  by_cases q : k = f
  · rw [if_pos ⟨rfl, q⟩, if_pos q]
  · rw [if_neg (fun w => q w.2), if_neg q]
theorem nf_o {M : Mem} {a0 : Int} {kd n : Nat} {f : Int} {a : Int} (h : a ≠ a0) (h2 : a ≠ (M.2.2 : Int)) : (nf M a0 kd n f).1 a = M.1 a := by
  unfold nf
  rw [up_n h]
  funext i
  rw [al_1, if_neg h2]
/-- one array of an object more -/
theorem na_pf {M : Mem} {a0 : Int} {ci nn kd n : Nat} {f : Nat} {fi len : Int} (hf : (f : Int) = fi) (hl : len = n) (h9 : n ≤ 10000000) (hn : M.2.2 < 900000) (hS : M.2.1 a0 = (ci, nn)) (ha : a0 ≠ (M.2.2 : Int)) (g : Mem → Option Mem) : ((na M kd len).bind fun x => (pf x.2 a0 ci nn f x.1).bind g) = g (nf M a0 kd n fi) := by
  subst hf
  unfold na
  rw [if_pos (by omega), nw_al hn, obs]
  have e : len.toNat = n := by omega
  rw [e]
  unfold pf nf
  rw [if_pos (by show (al M kd n).2.1 a0 = (ci, nn); rw [al_s, if_neg ha]; exact hS), obs]
theorem pf_v {M : Mem} {a0 : Int} {ci nn f : Nat} {fi v : Int} (hf : (f : Int) = fi) (hS : M.2.1 a0 = (ci, nn)) (g : Mem → Option Mem) : (pf M a0 ci nn f v).bind g = g (up M a0 fi v) := by
  subst hf
  unfold pf
  rw [if_pos hS, obs]
/-- what a new object looks like as its arrays come: a0 and its first j cells -/
def Nw (M M' : Mem) (a0 : Int) (j : Nat) : Prop := (M'.2.2 : Int) = a0 + 1 + j ∧ (∀ a, a < a0 ∨ a0 + 1 + j ≤ a → M'.1 a = M.1 a ∧ M'.2.1 a = M.2.1 a) ∧ M'.2.1 a0 = M.2.1 a0
theorem Nw.nf {M M' : Mem} {a0 : Int} {j : Nat} {kd n : Nat} {f : Int} (h : Nw M M' a0 j) : Nw M (nf M' a0 kd n f) a0 (j + 1) := by
  obtain ⟨h1, h2, h3⟩ := h
  refine ⟨by rw [nf_n]; omega, fun a ha => ?_, ?_⟩
  · rw [nf_o (by omega) (by omega), nf_s, if_neg (by omega)]
    exact h2 a (by omega)
  · rw [nf_s, if_neg (by omega)]; exact h3
theorem Nw.up {M M' : Mem} {a0 : Int} {j : Nat} {k v : Int} (h : Nw M M' a0 j) : Nw M (up M' a0 k v) a0 j := by
  obtain ⟨h1, h2, h3⟩ := h
  refine ⟨by rw [up_2]; exact h1, fun a ha => ?_, by rw [up_2]; exact h3⟩
  rw [up_n (by omega), up_2]
  exact h2 a ha
theorem machineInit_ok {M : Mem} {a0 : Int} (hS : M.2.1 a0 = (1, 14)) (hn : (M.2.2 : Int) = a0 + 1) (hl : M.2.2 < 800000) : ∃ M', D_Machine_init a0 1 M = some M' ∧ Nw M M' a0 9 ∧ MS M' a0 := by
  have w0 : Nw M M a0 0 := ⟨by omega, fun _ _ => ⟨rfl, rfl⟩, rfl⟩
  unfold D_Machine_init
  have st : ∀ {M' : Mem} {j : Nat}, Nw M M' a0 j → j ≤ 9 → M'.2.2 < 900000 ∧ M'.2.1 a0 = (1, 14) ∧ a0 ≠ (M'.2.2 : Int) := fun h hj => ⟨by have := h.1; omega, by rw [h.2.2]; exact hS, by have := h.1; omega⟩
  have w1 := w0.nf (kd := 10) (n := 216) (f := 1)
  have w2 := w1.nf (kd := 10) (n := 6) (f := 2)
  have w3 := w2.nf (kd := 10) (n := 6) (f := 3)
  have w4 := w3.nf (kd := 10) (n := 6) (f := 4)
  have w5 := w4.nf (kd := 10) (n := 6) (f := 5)
  have w6 := w5.nf (kd := 11) (n := 246) (f := 6)
  have w7 := w6.nf (kd := 10) (n := 6) (f := 7)
  have w8 := w7.nf (kd := 10) (n := 6) (f := 8)
  have w9 := w8.nf (kd := 10) (n := 6) (f := 9)
  have ck0 : ck M a0 1 14 = some () := by unfold ck; rw [if_pos hS]
  rw [ck0, obs]
  rw [na_pf (f := 1) (fi := 1) (len := 216) (n := 216) rfl rfl (by decide) (st w0 (by decide)).1 (st w0 (by decide)).2.1 (st w0 (by decide)).2.2]
  rw [na_pf (f := 2) (fi := 2) (len := 6) (n := 6) rfl rfl (by decide) (st w1 (by decide)).1 (st w1 (by decide)).2.1 (st w1 (by decide)).2.2]
  rw [na_pf (f := 3) (fi := 3) (len := 6) (n := 6) rfl rfl (by decide) (st w2 (by decide)).1 (st w2 (by decide)).2.1 (st w2 (by decide)).2.2]
  rw [na_pf (f := 4) (fi := 4) (len := 6) (n := 6) rfl rfl (by decide) (st w3 (by decide)).1 (st w3 (by decide)).2.1 (st w3 (by decide)).2.2]
  rw [na_pf (f := 5) (fi := 5) (len := 6) (n := 6) rfl rfl (by decide) (st w4 (by decide)).1 (st w4 (by decide)).2.1 (st w4 (by decide)).2.2]
  rw [na_pf (f := 6) (fi := 6) (len := 246) (n := 246) rfl rfl (by decide) (st w5 (by decide)).1 (st w5 (by decide)).2.1 (st w5 (by decide)).2.2]
  rw [na_pf (f := 7) (fi := 7) (len := 6) (n := 6) rfl rfl (by decide) (st w6 (by decide)).1 (st w6 (by decide)).2.1 (st w6 (by decide)).2.2]
  rw [na_pf (f := 8) (fi := 8) (len := 6) (n := 6) rfl rfl (by decide) (st w7 (by decide)).1 (st w7 (by decide)).2.1 (st w7 (by decide)).2.2]
  rw [na_pf (f := 9) (fi := 9) (len := 6) (n := 6) rfl rfl (by decide) (st w8 (by decide)).1 (st w8 (by decide)).2.1 (st w8 (by decide)).2.2]
  have wa := w9.up (k := 10) (v := 0)
  have wb := wa.up (k := 11) (v := 0)
  have wc := wb.up (k := 12) (v := 0)
  have wd := wc.up (k := 13) (v := 0)
  have we := wd.up (k := 0) (v := 1)
  rw [pf_v (f := 10) (fi := 10) rfl (st w9 (by decide)).2.1, pf_v (f := 11) (fi := 11) rfl (st wa (by decide)).2.1, pf_v (f := 12) (fi := 12) rfl (st wb (by decide)).2.1, pf_v (f := 13) (fi := 13) rfl (st wc (by decide)).2.1, pf_v (f := 0) (fi := 0) rfl (st wd (by decide)).2.1]
  refine ⟨_, rfl, we, ?_⟩
  have q0 := w0.1
  have q1 := w1.1
  have q2 := w2.1
  have q3 := w3.1
  have q4 := w4.1
  have q5 := w5.1
  have q6 := w6.1
  have q7 := w7.1
  have q8 := w8.1
  have n0 : a0 ≠ (M.2.2 : Int) := by omega
  have n1 := (st w1 (by decide)).2.2
  have n2 := (st w2 (by decide)).2.2
  have n3 := (st w3 (by decide)).2.2
  have n4 := (st w4 (by decide)).2.2
  have n5 := (st w5 (by decide)).2.2
  have n6 := (st w6 (by decide)).2.2
  have n7 := (st w7 (by decide)).2.2
  have n8 := (st w8 (by decide)).2.2
  unfold MS
  simp only [up_2]
  refine ⟨(st w9 (by decide)).2.1, ?_, ?_, ?_, ?_, ?_, ?_, ?_, ?_, ?_, ?_, ?_, ?_, ?_, ?_, ?_, ?_, ?_, ?_, ?_⟩
  · rw [nf_s, if_neg (by omega), nf_s, if_neg (by omega), nf_s, if_neg (by omega), nf_s, if_neg (by omega), nf_s, if_neg (by omega), nf_s, if_neg (by omega), nf_s, if_neg (by omega), nf_s, if_neg (by omega), nf_s, if_pos (by omega)]
  · rw [nf_s, if_neg (by omega), nf_s, if_neg (by omega), nf_s, if_neg (by omega), nf_s, if_neg (by omega), nf_s, if_neg (by omega), nf_s, if_neg (by omega), nf_s, if_neg (by omega), nf_s, if_pos (by omega)]
  · rw [nf_s, if_neg (by omega), nf_s, if_neg (by omega), nf_s, if_neg (by omega), nf_s, if_neg (by omega), nf_s, if_neg (by omega), nf_s, if_neg (by omega), nf_s, if_pos (by omega)]
  · rw [nf_s, if_neg (by omega), nf_s, if_neg (by omega), nf_s, if_neg (by omega), nf_s, if_neg (by omega), nf_s, if_neg (by omega), nf_s, if_pos (by omega)]
  · rw [nf_s, if_neg (by omega), nf_s, if_neg (by omega), nf_s, if_neg (by omega), nf_s, if_neg (by omega), nf_s, if_pos (by omega)]
  · rw [nf_s, if_neg (by omega), nf_s, if_neg (by omega), nf_s, if_neg (by omega), nf_s, if_pos (by omega)]
  · rw [nf_s, if_neg (by omega), nf_s, if_neg (by omega), nf_s, if_pos (by omega)]
  · rw [nf_s, if_neg (by omega), nf_s, if_pos (by omega)]
  · rw [nf_s, if_pos (by omega)]
  · simp [up_1]
  all_goals
    simp only [up_1]
    rw [if_neg (by decide), if_neg (by decide), if_neg (by decide), if_neg (by decide), if_neg (by decide)]
    simp only [nf_1 n0, nf_1 n1, nf_1 n2, nf_1 n3, nf_1 n4, nf_1 n5, nf_1 n6, nf_1 n7, nf_1 n8]
    simp
    omega
