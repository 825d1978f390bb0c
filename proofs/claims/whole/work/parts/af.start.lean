/-! the constructors leave the invariant -/
theorem nz_10 (i : Int) : nz 10 i = 0 := by
  unfold nz
  rw [if_neg (by unfold ko; simp)]
theorem nz_12 (i : Int) : nz 12 i = 0 := by
  unfold nz
  rw [if_neg (by unfold ko; simp)]
theorem nz_14 (i : Int) : nz 14 i = -1 := by
  unfold nz
  rw [if_pos (by unfold ko; simp)]
theorem start_T (xs : Int → Int) (L : Nat) : SBT (rm xs L op_222) := ⟨rm_s (by decide +kernel), rm_s (by decide +kernel), rm_c (by decide +kernel), rm_c (by decide +kernel), rm_c (by decide +kernel), rm_c (by decide +kernel), rm_c (by decide +kernel), rm_c (by decide +kernel), rm_c (by decide +kernel)⟩
theorem start_S (xs : Int → Int) (L : Nat) : SBS (rm xs L op_222) := ⟨rm_s (by decide +kernel), rm_s (by decide +kernel), rm_c (by decide +kernel)⟩
theorem start_R (xs : Int → Int) (L : Nat) : SBR (rm xs L op_222) := ⟨rm_s (by decide +kernel), rm_s (by decide +kernel), rm_s (by decide +kernel), rm_s (by decide +kernel), rm_c (by decide +kernel), rm_c (by decide +kernel), rm_c (by decide +kernel), rm_c (by decide +kernel)⟩
theorem start_N (xs : Int → Int) (L : Nat) : SBN (rm xs L op_222) := ⟨rm_s (by decide +kernel), rm_s (by decide +kernel), rm_c (by decide +kernel), rm_c (by decide +kernel)⟩
theorem start_D (xs : Int → Int) (L : Nat) : SBD (rm xs L op_222) := ⟨rm_s (by decide +kernel), rm_s (by decide +kernel), rm_s (by decide +kernel), rm_s (by decide +kernel), rm_s (by decide +kernel), rm_s (by decide +kernel), rm_s (by decide +kernel), rm_s (by decide +kernel), rm_s (by decide +kernel), rm_s (by decide +kernel), rm_s (by decide +kernel), rm_s (by decide +kernel), rm_s (by decide +kernel), rm_s (by decide +kernel), rm_s (by decide +kernel), rm_s (by decide +kernel), rm_s (by decide +kernel), rm_s (by decide +kernel), rm_s (by decide +kernel), rm_s (by decide +kernel), rm_s (by decide +kernel), rm_s (by decide +kernel), rm_s (by decide +kernel), rm_s (by decide +kernel), rm_s (by decide +kernel), rm_s (by decide +kernel), rm_s (by decide +kernel), rm_s (by decide +kernel), rm_s (by decide +kernel), rm_s (by decide +kernel), rm_s (by decide +kernel), rm_s (by decide +kernel), rm_s (by decide +kernel), rm_s (by decide +kernel), rm_s (by decide +kernel), rm_s (by decide +kernel), rm_s (by decide +kernel), rm_s (by decide +kernel), rm_s (by decide +kernel), rm_s (by decide +kernel), rm_c (by decide +kernel), rm_c (by decide +kernel), rm_c (by decide +kernel), rm_c (by decide +kernel), rm_c (by decide +kernel), rm_c (by decide +kernel), rm_c (by decide +kernel), rm_c (by decide +kernel), rm_c (by decide +kernel), rm_c (by decide +kernel), rm_c (by decide +kernel), rm_c (by decide +kernel), rm_c (by decide +kernel), rm_c (by decide +kernel), rm_c (by decide +kernel), rm_c (by decide +kernel), rm_c (by decide +kernel), rm_c (by decide +kernel), rm_c (by decide +kernel), rm_c (by decide +kernel), rm_c (by decide +kernel), rm_c (by decide +kernel), rm_c (by decide +kernel), rm_c (by decide +kernel), rm_c (by decide +kernel), rm_c (by decide +kernel), rm_c (by decide +kernel), rm_c (by decide +kernel), rm_c (by decide +kernel), rm_c (by decide +kernel), rm_c (by decide +kernel), rm_c (by decide +kernel), rm_c (by decide +kernel), rm_c (by decide +kernel), rm_c (by decide +kernel), rm_c (by decide +kernel), rm_c (by decide +kernel), rm_c (by decide +kernel), rm_c (by decide +kernel), rm_c (by decide +kernel), rm_c (by decide +kernel)⟩
theorem start_P (xs : Int → Int) (L : Nat) : SBP (rm xs L op_222) := ⟨rm_s (by decide +kernel), rm_s (by decide +kernel), rm_s (by decide +kernel), rm_s (by decide +kernel), rm_s (by decide +kernel), rm_s (by decide +kernel), rm_s (by decide +kernel), rm_s (by decide +kernel), rm_s (by decide +kernel), rm_s (by decide +kernel), rm_c (by decide +kernel), rm_c (by decide +kernel), rm_c (by decide +kernel), rm_c (by decide +kernel), rm_c (by decide +kernel), rm_c (by decide +kernel), rm_c (by decide +kernel), rm_c (by decide +kernel), rm_c (by decide +kernel), rm_c (by decide +kernel)⟩
theorem start_C (xs : Int → Int) (L : Nat) : SBC (rm xs L op_222) := ⟨rm_s (by decide +kernel), rm_s (by decide +kernel), rm_c (by decide +kernel), rm_c (by decide +kernel), rm_c (by decide +kernel)⟩
theorem start_M (xs : Int → Int) (L : Nat) : SBM (rm xs L op_222) := ⟨rm_s (by decide +kernel), rm_s (by decide +kernel), rm_s (by decide +kernel), rm_s (by decide +kernel), rm_s (by decide +kernel), rm_s (by decide +kernel), rm_s (by decide +kernel), rm_s (by decide +kernel), rm_s (by decide +kernel), rm_s (by decide +kernel), rm_s (by decide +kernel), rm_s (by decide +kernel), rm_s (by decide +kernel), rm_s (by decide +kernel), rm_s (by decide +kernel), rm_s (by decide +kernel), rm_s (by decide +kernel), rm_s (by decide +kernel), rm_s (by decide +kernel), rm_s (by decide +kernel), rm_s (by decide +kernel), rm_s (by decide +kernel), rm_s (by decide +kernel), rm_s (by decide +kernel), rm_s (by decide +kernel), rm_s (by decide +kernel), rm_s (by decide +kernel), rm_s (by decide +kernel), rm_s (by decide +kernel), rm_s (by decide +kernel), rm_s (by decide +kernel), rm_s (by decide +kernel), rm_s (by decide +kernel), rm_s (by decide +kernel), rm_s (by decide +kernel), rm_s (by decide +kernel), rm_s (by decide +kernel), rm_s (by decide +kernel), rm_c (by decide +kernel), rm_c (by decide +kernel), rm_c (by decide +kernel), rm_c (by decide +kernel), rm_c (by decide +kernel), rm_c (by decide +kernel), rm_c (by decide +kernel), rm_c (by decide +kernel), rm_c (by decide +kernel), rm_c (by decide +kernel), rm_c (by decide +kernel), rm_c (by decide +kernel), rm_c (by decide +kernel), rm_c (by decide +kernel), rm_c (by decide +kernel), rm_c (by decide +kernel), rm_c (by decide +kernel), rm_c (by decide +kernel), rm_c (by decide +kernel), rm_c (by decide +kernel), rm_c (by decide +kernel), rm_c (by decide +kernel), rm_c (by decide +kernel), rm_c (by decide +kernel), rm_c (by decide +kernel), rm_c (by decide +kernel), rm_c (by decide +kernel), rm_c (by decide +kernel), rm_c (by decide +kernel), rm_c (by decide +kernel), rm_c (by decide +kernel), rm_c (by decide +kernel), rm_c (by decide +kernel), rm_c (by decide +kernel), rm_c (by decide +kernel), rm_c (by decide +kernel), rm_c (by decide +kernel)⟩
theorem start_sb (xs : Int → Int) (L : Nat) : SB (rm xs L op_222) := ⟨start_T xs L, start_S xs L, start_R xs L, start_N xs L, start_D xs L, start_P xs L, start_C xs L, start_M xs L⟩
/-- the script is left alone -/
def rok : List Op → Bool
  | [] => true
  | (_, b, _, _, _, _) :: r => (b != 1000001) && rok r
theorem rm_x {xs : Int → Int} {L : Nat} : ∀ {o : List Op}, rok o = true → (rm xs L o).2.1 1000001 = (20, L) ∧ (rm xs L o).1 1000001 = xs := by
  intro o
  induction o with
  | nil => intro _; exact ⟨rfl, rfl⟩
  | cons x r ih =>
    intro h
    obtain ⟨t, b, kd, n, f, v⟩ := x
    have h : ((b != 1000001) && rok r) = true := h
    rw [Bool.and_eq_true, bne_iff_ne] at h
    have hr := ih h.2
    have q : ¬ (1000001 : Int) = b := fun e => h.1 e.symm
    cases t with
    | true =>
      refine ⟨?_, ?_⟩
      · show (if (1000001 : Int) = b then (kd, n) else rn2 L r 1000001) = (20, L)
        rw [if_neg q]; exact hr.1
      · funext i
        show (if (1000001 : Int) = b then nz kd i else rn1 xs r 1000001 i) = xs i
        rw [if_neg q]; exact congrFun hr.2 i
    | false =>
      refine ⟨hr.1, ?_⟩
      funext i
      show (if (1000001 : Int) = b ∧ i = f then v else rn1 xs r 1000001 i) = xs i
      rw [if_neg (fun w => q w.1)]; exact congrFun hr.2 i
theorem start_inv (xs : Int → Int) (L : Nat) : Inv L xs (rm xs L op_222) := by
  have e11 : (rm xs L op_222).1 1 1 = 0 := rm_c (by decide +kernel)
  have e12 : (rm xs L op_222).1 1 2 = 0 := rm_c (by decide +kernel)
  have e34 : (rm xs L op_222).1 3 4 = 0 := rm_c (by decide +kernel)
  have e620 : (rm xs L op_222).1 62 0 = 0 := rm_c (by decide +kernel)
  have e623 : (rm xs L op_222).1 62 3 = 0 := rm_c (by decide +kernel)
  have e624 : (rm xs L op_222).1 62 4 = 0 := rm_c (by decide +kernel)
  have e07 : (rm xs L op_222).1 0 7 = 0 := rm_c (by decide +kernel)
  have e106 : (rm xs L op_222).1 10 6 = 0 := rm_c (by decide +kernel)
  have z14 : ∀ i, (rm xs L op_222).1 14 i = 0 := fun i => by rw [rm_z (k := 10) (by decide +kernel) i]; exact nz_10 i
  have z75 : ∀ i, (rm xs L op_222).1 75 i = 0 := fun i => by rw [rm_z (k := 12) (by decide +kernel) i]; exact nz_12 i
  have z65 : ∀ i, (rm xs L op_222).1 65 i = 0 := fun i => by rw [rm_z (k := 12) (by decide +kernel) i]; exact nz_12 i
  have z7 : ∀ i, (rm xs L op_222).1 7 i = -1 := fun i => by rw [rm_z (k := 14) (by decide +kernel) i]; exact nz_14 i
  have n100 : ((rm xs L op_222).2.2 : Int) = 100 + 12 * 0 := by
    have : rn3 op_222 = 100 := by decide +kernel
    show ((rn3 op_222 : Nat) : Int) = 100 + 12 * 0
    rw [this]; rfl
  have sg : SgOk (rm xs L op_222) := ⟨by rw [e11]; decide, by rw [e11]; decide, fun i a b => by rw [e11] at b; omega⟩
  have s12 := rm_x (xs := xs) (L := L) (o := op_222) (by decide +kernel)
  refine ⟨0, ⟨start_sb xs L, ⟨sg, by rw [e620, e11], fun s a b => by rw [e11] at b; omega⟩, ⟨Or.inl e12, ?_⟩, ⟨by rw [e34]; decide, by rw [e623, e34], fun i a b => by rw [e34] at b; omega⟩, by decide, ⟨0, Int.le_refl 0, by decide, n100, fun k a b => by omega, fun k a b => z7 k⟩, ⟨by rw [e106]; decide, fun i a b => by rw [e106] at b; omega, fun z _ _ => Or.inl (z14 z)⟩, ?_, fun k _ _ => Or.inl (z75 k), fun k _ _ => Or.inl (z65 k), fun k a b => by omega⟩, e07, e624, s12⟩
  · rw [e12]
    constructor
    · intro h; exact absurd h (by decide)
    · intro ⟨s, sr, _⟩
      rw [e11] at sr
      omega
  · intro p p0 p1 p3
    have : p = 20 ∨ p = 23 ∨ p = 26 ∨ p = 29 ∨ p = 32 ∨ p = 35 ∨ p = 38 ∨ p = 41 ∨ p = 44 ∨ p = 47 := by omega
    rcases this with e | e | e | e | e | e | e | e | e | e <;> subst e <;> exact ⟨rm_c (by decide +kernel), rm_c (by decide +kernel)⟩
theorem law_ok (L : Nat) (xs : Nat → Int32) (hL : L ≤ 3072) : ∃ x, D_law (fun a i => if a = 1000001 then (xs i.toNat).toInt else 0, fun a => if a = 1000001 then (20, L) else (99, 0), 0) = some x ∧ x.1 = 1 := by
  have e := init_run (fun i => (xs i.toNat).toInt) L
  have m0 : rm (fun i => (xs i.toNat).toInt) L op_0 = (fun a i => if a = 1000001 then (xs i.toNat).toInt else 0, fun a => if a = 1000001 then (20, L) else (99, 0), 0) := rfl
  rw [m0] at e
  obtain ⟨M', h⟩ := law_lp (xs := fun i => (xs i.toNat).toInt) hL (fun i => (xs i.toNat).toInt_lt) LF 0 _ (start_inv (fun i => (xs i.toNat).toInt) L) (Int.le_refl 0) (by omega) (by have := LF_eq; omega)
  exact ⟨(1, M'), by rw [e]; exact h, rfl⟩
